/-! ===== member, fails, sign ===== -/
theorem nI_pr {n : Nat} (h : 0 < n) : nI n - 1 = nI (n - 1) := by
  obtain ⟨m, rfl⟩ : ∃ m, n = m + 1 := ⟨n - 1, by omega⟩
  exact nI_pred m
theorem nI_ex {v : Int32} (h : ¬ v.toInt < 0) : ∃ k, k < 2147483648 ∧ v = nI k := ⟨v.toInt.toNat, by have := Int32.toInt_lt v; omega, Int32.toInt_inj.mp (by rw [nI_toInt (by have := Int32.toInt_lt v; omega)]; omega)⟩
theorem MB_le {P : Pl} (hP : pok P) : MB P ≤ 10 := by
  unfold MB
  by_cases hd : 0 < dgg P
  · rw [if_pos hd]; exact (ML_le hP hd (dep_pos hP hd)).1
  · rw [if_neg hd]; omega
noncomputable def mbR (P : Pl) (w : Nat) (v : Int32) : Int32 := if 0 ≤ v.toInt ∧ v.toInt < MB P then (if w = 0 then nI (dgg (mm P (der P) v.toInt.toNat)) else sgI (cc P (der P) v.toInt.toNat (dgg (mm P (der P) v.toInt.toNat)))) else -1
theorem mem_x {fu B t w : Nat} {T : Nat → Pl} {σ : rr_M} {v : Int32} (hfu : 70000 < fu) (ht : t < 8) (hw : w ≤ 1) (hX : IXc B σ T) : wq (f_Roo_member fu (nx B) B (nI t) v (nI w) σ) (fun x => x.1 = mbR (T t) w v ∧ xok B T σ x.2) := by
  obtain ⟨q0, q1, q2, q3, q4, q5, q6, q7, q8⟩ := roo_t hX.1
  obtain ⟨b1, b2, b3⟩ := hX.2.2.2 t ht
  obtain ⟨x0, x7, x8, x10, x11, x12⟩ := rx_tr t ht
  obtain ⟨y3, y4, y5, y6, y7, y8⟩ := nx_tr t ht
  have mb := MB_le b1
  unfold f_Roo_member
  dsimp only [rr_lt]
  rw [(tr_1 ht).1, q0, n_nI (show t < 2 ^ 31 by omega), (q7 t ht).1, q3]
  refine wq_ob (wq_some (wq_in (by decide) (wq_in (nI_pos (by omega)) (wq_ip (show nI w ≤ 1 from nI_le (b := 1) hw (by omega)) (wq_ip (q8 t ht) (wq_bd (wq_mo (cpv (by omega) ht hX) ?_)))))))
  rintro ⟨u, σ'⟩ ⟨c1, c2, c3⟩
  dsimp only at c1 c2 c3 ⊢
  have ho := xok_pf ht c1 c3
  rw [c2.2.2.2.2.2.1, c1.1 (2 + 7 * t) 7 (by omega), x7, c1.1 (2 + 7 * t) 8 (by omega), x8]
  unfold mbR
  by_cases hneg : v.toInt < 0
  · refine wq_ip ?_ (wq_some ⟨?_, ho⟩)
    · rw [Int32.lt_iff_toInt_lt]; exact hneg
    · rw [if_neg (by omega)]
  obtain ⟨k, hk, rfl⟩ := nI_ex hneg
  have tk : (nI k).toInt = k := nI_toInt (by omega)
  rw [tk]
  refine wq_in (nI_pos (by omega)) ?_
  by_cases hkm : k < MB (T t)
  · refine wq_ip (nI_lt hkm (by omega)) ?_
    obtain ⟨g1, g2⟩ := c2.2.2.2.2.2.2 k hkm
    rw [n_nI (show k < 2 ^ 31 by omega), g1, g2]
    by_cases hw0 : w = 0
    · subst hw0
      refine wq_ip rfl (wq_ip (by rw [nx_at, y4]; exact ix_nI (by omega) (by omega)) (wq_some ⟨?_, ho⟩))
      rw [if_pos (by omega), if_pos rfl]
      rfl
    · obtain rfl : w = 1 := by omega
      refine wq_in (by decide) (wq_ip (by rw [nx_at, y5]; exact ix_nI (by omega) (by omega)) (wq_some ⟨?_, ho⟩))
      rw [if_pos (by omega), if_neg (by omega)]
      rfl
  · refine wq_in (nI_nlt (by omega) (by omega)) (wq_some ⟨?_, ho⟩)
    rw [if_neg (by omega)]
theorem mem_m {fu C t w : Nat} {T : Nat → Pl} {σm : rr_M} {v : Int32} (hfu : 70000 < fu) (ht : t < 8) (hw : w ≤ 1) (hM : IMc C σm T) (b1 : pok (T t)) : wq (f_Mod_member fu (nm C) C (nI t) v (nI w) σm) (fun y => y.1 = mbR (T t) w v ∧ mok C T σm y.2) := by
  obtain ⟨hM1, FM1⟩ := imc_0 (v := 0) hM
  obtain ⟨Y1, L1⟩ := hM1.1
  have z0 : (0 : Int64).toInt = 0 := rfl
  have z1 : (1 : Int64).toInt = 1 := rfl
  unfold f_Mod_member
  dsimp only [rr_lt]
  rw [(tr_1 ht).2 C, mdg_ok (fu := fu) (r := t) (by omega) L1.1 (by omega) (hM1.2 t ht)]
  refine wq_ob (wq_some (wq_in (by decide) (wq_ob (wq_some ?_))))
  by_cases hd : 0 < dgg (T t)
  rotate_left
  · refine wq_ip ?_ (wq_some ⟨?_, hM1, FM1⟩)
    · rcases dgc.2 hd with q | q <;> rw [q] <;> decide
    · unfold mbR MB
      rw [if_neg hd, if_neg (by omega)]
  obtain ⟨e, he, hg, h8', h1'⟩ := dgc.1 hd
  rw [he, nI_pred, isin_ok, if_pos (show (0 : Int64).toInt ≤ (nI w).toInt64.toInt ∧ (nI w).toInt64.toInt ≤ (1 : Int64).toInt by
    rw [Int32.toInt_toInt64, nI_toInt (by omega), z0, z1]; omega)]
  refine wq_in (show ¬ nI e < 1 from nI_nlt (b := 1) (by omega) (by omega)) (wq_ob (wq_some (wq_in (by decide) (wq_bd (wq_mo (prs_m hfu ht hM1 b1 hd) ?_)))))
  rintro ⟨r, σ'⟩ ⟨k1, k2, Y, k3, k4⟩
  dsimp only at k1 k2 k3 k4 ⊢
  have ho : mok C T σm σ' := ⟨k2.1, mfr_tr FM1 k2.2⟩
  obtain ⟨m1, m2⟩ := ML_le b1 hd (dep_pos b1 hd)
  obtain ⟨M, hMM⟩ : ∃ M, M = ML (T t) 0 := ⟨_, rfl⟩
  have hMB : MB (T t) = M := by rw [hMM]; exact if_pos hd
  obtain ⟨_, ⟨s, g3⟩, g4, g5⟩ := (lvs_P b1 hd).1 0 (dep_pos b1 hd)
  rw [← hMM] at k1 k4 m1 m2 g4
  rw [k1, nI_pr (show 0 < M by omega), isin_ok]
  unfold mbR
  rw [hMB]
  by_cases hin : 0 ≤ v.toInt ∧ v.toInt < M
  · rw [if_pos (show (0 : Int64).toInt ≤ v.toInt64.toInt ∧ v.toInt64.toInt ≤ (nI (M - 1)).toInt64.toInt by
      rw [Int32.toInt_toInt64, Int32.toInt_toInt64, nI_toInt (by omega), z0]; omega)]
    obtain ⟨k, hk, rfl⟩ : ∃ k, k < 10 ∧ v = nI k := ⟨v.toInt.toNat, by omega, i_inj (by rw [nI_toInt (by omega)]; omega)⟩
    have tk : (nI k).toInt = k := nI_toInt (by omega)
    rw [tk] at hin ⊢
    have ld := lds_ok (first := 36) (i := k) (k := 0) k3 g3 g4 m1 k4 (by omega) (by omega)
    obtain ⟨_, a2, _⟩ := k4 k (by omega)
    have e36 : (36 : Int32) + nI k = nI (36 + k) := nI_add 36 k
    rw [if_pos hin, e36, mrf_6 k3.1, n_nI (show 36 + k < 2 ^ 31 by omega), a2, ld]
    refine wq_ob (wq_some (wq_in (by decide) ?_))
    by_cases hw0 : w = 0
    · subst hw0
      exact wq_ip rfl (wq_ip (ix6 (by omega)) (wq_some ⟨rfl, ho⟩))
    · obtain rfl : w = 1 := by omega
      exact wq_in (by decide) (wq_ob (wq_some (wq_some ⟨rfl, ho⟩)))
  · rw [if_neg (show ¬ ((0 : Int64).toInt ≤ v.toInt64.toInt ∧ v.toInt64.toInt ≤ (nI (M - 1)).toInt64.toInt) by
      rw [Int32.toInt_toInt64, Int32.toInt_toInt64, nI_toInt (by omega), z0]; omega)]
    refine wq_ob (wq_some (wq_ip rfl (wq_some ⟨?_, ho⟩)))
    rw [if_neg hin]
theorem op_member_ok {fu B C : Nat} (hfu : 70000 < fu) : op_member fu B C (Inv B C) := by
  rintro a1 a2 a3 σx σm ⟨T, hX, hM, hT⟩
  obtain ⟨hM1, FM1⟩ := imc_0 (v := 0) hM
  obtain ⟨Y1, L1⟩ := hM1.1
  rcases try_c a1 with ⟨e1, e2⟩ | ⟨t, ht, rfl, e1, e2⟩
  · refine op_cb (T := T) (-1) hT ?_ ?_
    · unfold f_Roo_member
      rw [e1]
      exact wq_ob (wq_some (wq_ip rfl (wq_some ⟨rfl, xok_rf hX⟩)))
    · unfold f_Mod_member
      dsimp only [rr_lt]
      rw [e2 C]
      exact wq_ob (wq_some (wq_ip rfl (wq_some ⟨rfl, hM1, FM1⟩)))
  obtain ⟨b1, _, _⟩ := hX.2.2.2 t ht
  have rg : (a3.toInt < 0 ∨ (1 : Int) < a3.toInt) ∨ ∃ j, j ≤ 1 ∧ a3 = nI j := rng a3 1 (by omega)
  rcases rg with hr | ⟨w, hw, rfl⟩
  · refine op_cb (T := T) (-1) hT ?_ ?_
    · unfold f_Roo_member
      rw [e1]
      refine wq_ob (wq_some (wq_in (by decide) ?_))
      by_cases h0 : a3 < 0
      · exact wq_ip h0 (wq_some ⟨rfl, xok_rf hX⟩)
      · refine wq_in h0 (wq_in ?_ (wq_some ⟨rfl, xok_rf hX⟩))
        rw [Int32.lt_iff_toInt_lt] at h0
        rw [Int32.le_iff_toInt_le]
        have : (0 : Int32).toInt = 0 := rfl
        show ¬ _ ≤ (1 : Int)
        omega
    · unfold f_Mod_member
      dsimp only [rr_lt]
      rw [e2 C, mdg_ok (fu := fu) (r := t) (by omega) L1.1 (by omega) (hM1.2 t ht), isin_ok, if_neg (show ¬ ((0 : Int64).toInt ≤ a3.toInt64.toInt ∧ a3.toInt64.toInt ≤ (1 : Int64).toInt) by
        rw [Int32.toInt_toInt64]
        show ¬ ((0 : Int) ≤ _ ∧ _ ≤ (1 : Int))
        omega)]
      refine wq_ob (wq_some (wq_in (by decide) (wq_ob (wq_some ?_))))
      by_cases h1 : nI (dln (T t)) - 1 < 1
      · exact wq_ip h1 (wq_some ⟨rfl, hM1, FM1⟩)
      · exact wq_in h1 (wq_ob (wq_some (wq_ip rfl (wq_some ⟨rfl, hM1, FM1⟩))))
  · exact op_cb (T := T) _ hT (mem_x hfu ht hw hX) (mem_m hfu ht hw hM b1)
/-- where a proof fails, by its degrees and signs: j members still to look at -/
def flF (D S : Nat → Int32) (M : Nat) : Nat → Int32
  | 0 => if D (M - 1) ≤ 0 then -1 else nI M
  | m + 1 => if D (M - (m + 1)) = D (M - (m + 1) - 1) - 1 then (if S (M - (m + 1)) = S 0 then flF D S M m else nI (M - (m + 1))) else nI (M - (m + 1))
theorem ffl_x {fu B t M : Nat} {σ : rr_M} {D S : Nat → Int32} (hfu : 400 < fu) (ht : t < 8) (hc : crf B σ) (hM2 : 2 ≤ M) (hM : M ≤ 10) (h6 : mg_i σ (B + (2 + 7 * t)) 6 = nI M) (hD : ∀ j, j < M → mg_i σ (B + (4 + 7 * t)) j = D j) (hS : ∀ j, j < M → mg_i σ (B + (5 + 7 * t)) j = S j) : f_Tra_firstFailure fu (nx B) (B + (2 + 7 * t)) σ = some (flF D S M (M - 1)) := by
  obtain ⟨x0, x7, x8, x10, x11, x12⟩ := rx_tr t ht
  obtain ⟨y3, y4, y5, y6, y7, y8⟩ := nx_tr t ht
  have r7 : mg_r σ (B + (2 + 7 * t)) 7 = B + (4 + 7 * t) := by rw [hc _ 7 (by omega), x7]
  have r8 : mg_r σ (B + (2 + 7 * t)) 8 = B + (5 + 7 * t) := by rw [hc _ 8 (by omega), x8]
  have i4 : ∀ j, j < 10 → rr_ix (nI j) (nx B (B + (4 + 7 * t))) = true := fun j hj => by rw [nx_at, y4]; exact ix_nI hj (by omega)
  have i5 : ∀ j, j < 10 → rr_ix (nI j) (nx B (B + (5 + 7 * t))) = true := fun j hj => by rw [nx_at, y5]; exact ix_nI hj (by omega)
  have i50 : rr_ix 0 (nx B (B + (5 + 7 * t))) = true := i5 0 (by omega)
  have n0 : rr_n 0 = 0 := by decide
  have key : ∀ (fl m : Nat), m < M → m < fl → ∀ K, K = some (flF D S M 0) → l_Tra_firstFailure_14 fu (nx B) (B + (2 + 7 * t)) (nI (M - 1)) σ fl (nI (M - m)) K = some (flF D S M m) := by
    intro fl
    induction fl with
    | zero => intro m h1 h2; omega
    | succ fl ih =>
      intro m h1 h2 K hK
      rw [l_Tra_firstFailure_14]
      by_cases hm : m = 0
      · subst hm
        rw [if_pos (nI_lt (by omega) (by omega))]
        exact hK
      obtain ⟨m', rfl⟩ : ∃ m', m = m' + 1 := ⟨m - 1, by omega⟩
      rw [if_neg (nI_nlt (by omega) (by omega))]
      dsimp only [rr_lt]
      rw [r7, r8, nI_pr (show 0 < M - (m' + 1) by omega), i4 (M - (m' + 1)) (by omega), if_pos rfl, i4 (M - (m' + 1) - 1) (by omega), if_pos rfl, i5 (M - (m' + 1)) (by omega), i50, n0, n_nI (show M - (m' + 1) < 2 ^ 31 by omega), n_nI (show M - (m' + 1) - 1 < 2 ^ 31 by omega), hD _ (show M - (m' + 1) < M by omega), hD _ (show M - (m' + 1) - 1 < M by omega), hS _ (show M - (m' + 1) < M by omega), hS _ (show 0 < M by omega)]
      rw [show flF D S M (m' + 1) = (if D (M - (m' + 1)) = D (M - (m' + 1) - 1) - 1 then (if S (M - (m' + 1)) = S 0 then flF D S M m' else nI (M - (m' + 1))) else nI (M - (m' + 1))) from rfl]
      by_cases hd : D (M - (m' + 1)) = D (M - (m' + 1) - 1) - 1
      · rw [if_pos hd, if_pos hd, if_pos rfl, if_pos rfl]
        by_cases hs : S (M - (m' + 1)) = S 0
        · rw [if_pos hs, if_pos hs, nI_1, show M - (m' + 1) + 1 = M - m' by omega]
          exact ih m' (by omega) (by omega) K hK
        · rw [if_neg hs, if_neg hs]
      · rw [if_neg hd, if_neg hd]
  unfold f_Tra_firstFailure
  dsimp only [rr_lt]
  rw [h6, show rr_mn (nI M) 10 = nI M by rw [show (10 : Int32) = nI 10 from rfl, mn_nI (by omega) (by omega), show min M 10 = M by omega], nI_pr (show 0 < M by omega)]
  have := key fu (M - 1) (by omega) (by omega) (if nI (M - 1) < 0 then some (-1) else if rr_ix (nI (M - 1)) (nx B (mg_r σ (B + (2 + 7 * t)) 7)) = true then (if mg_i σ (mg_r σ (B + (2 + 7 * t)) 7) (rr_n (nI (M - 1))) ≤ 0 then some (-1) else some (nI M)) else none) (by
    rw [if_neg (nI_pos (by omega)), r7, i4 (M - 1) (by omega), if_pos rfl, n_nI (by omega), hD _ (show M - 1 < M by omega)]
    show _ = some (if D (M - 1) ≤ 0 then -1 else nI M)
    by_cases h : D (M - 1) ≤ 0
    · rw [if_pos h, if_pos h]
    · rw [if_neg h, if_neg h])
  rw [show M - (M - 1) = 1 by omega] at this
  exact this
theorem ffl_m {fu C M s : Nat} {σ : rr_M} {Y : Nat → Int} {p q : Pl} {K : Option (Int32 × rr_M)} (hL : LM C σ Y) (h : gdp p q s) (he : ends p q M) (hM2 : 2 ≤ M) (hM : M ≤ 10) (hR : mrs C 36 (M - 1) σ Y p q) (hK : K = some (flF (fun j => nI (dgg (mm p q j))) (fun j => sgI (cc p q j (dgg (mm p q j)))) M 0, σ)) :
    ∀ (fl m : Nat), m < M → m < fl → l_Mod_fails__35 fu (nm C) C (nI M) σ fl (nI (M - m)) K = some (flF (fun j => nI (dgg (mm p q j))) (fun j => sgI (cc p q j (dgg (mm p q j)))) M m, σ) := by
  intro fl
  induction fl with
  | zero => intro m h1 h2; omega
  | succ fl ih =>
    intro m h1 h2
    rw [l_Mod_fails__35]
    by_cases hm : m = 0
    · subst hm
      rw [if_pos (nI_le (by omega) (by omega))]
      exact hK
    obtain ⟨m', rfl⟩ : ∃ m', m = m' + 1 := ⟨m - 1, by omega⟩
    rw [if_neg (nI_ge (by omega) (by omega))]
    dsimp only [rr_lt]
    have ld := lds_ok (first := 36) (i := M - (m' + 1)) (k := 0) hL h he hM hR (by omega) (by omega)
    have ld0 : f_Mod_leadSign (nm C) C 36 σ = _ := lds_ok (first := 36) (i := 0) (k := 0) hL h he hM hR (by omega) (by omega)
    have e36 : (36 : Int32) + nI (M - (m' + 1)) = nI (36 + (M - (m' + 1))) := nI_add 36 _
    have e35 : nI (36 + (M - (m' + 1))) - 1 = nI (36 + (M - (m' + 1) - 1)) := by rw [nI_pr (by omega)]; congr 1; omega
    obtain ⟨_, a2, _⟩ := hR (M - (m' + 1)) (by omega)
    obtain ⟨_, a3, _⟩ := hR (M - (m' + 1) - 1) (by omega)
    rw [mrf_6 hL.1, e36, e35, ix6 (by omega), if_pos rfl, ix6 (by omega), if_pos rfl, n_nI (show 36 + (M - (m' + 1)) < 2 ^ 31 by omega), n_nI (show 36 + (M - (m' + 1) - 1) < 2 ^ 31 by omega), a2, a3, ld, ld0]
    rw [show flF (fun j => nI (dgg (mm p q j))) (fun j => sgI (cc p q j (dgg (mm p q j)))) M (m' + 1) = (if nI (dgg (mm p q (M - (m' + 1)))) = nI (dgg (mm p q (M - (m' + 1) - 1))) - 1 then (if sgI (cc p q (M - (m' + 1)) (dgg (mm p q (M - (m' + 1))))) = sgI (cc p q 0 (dgg (mm p q 0))) then flF (fun j => nI (dgg (mm p q j))) (fun j => sgI (cc p q j (dgg (mm p q j)))) M m' else nI (M - (m' + 1))) else nI (M - (m' + 1))) from rfl]
    by_cases hd : nI (dgg (mm p q (M - (m' + 1)))) = nI (dgg (mm p q (M - (m' + 1) - 1))) - 1
    · rw [if_pos hd, if_pos hd]
      dsimp only [Option.bind]
      by_cases hs : sgI (cc p q (M - (m' + 1)) (dgg (mm p q (M - (m' + 1))))) = sgI (cc p q 0 (dgg (mm p q 0)))
      · rw [if_pos hs, if_pos hs, nI_1, show M - (m' + 1) + 1 = M - m' by omega]
        exact ih m' (by omega) (by omega)
      · rw [if_neg hs, if_neg hs]
    · rw [if_neg hd, if_neg hd]
noncomputable def flR (P : Pl) : Int32 := if 0 < dgg P then flF (fun j => nI (dgg (mm P (der P) j))) (fun j => sgI (cc P (der P) j (dgg (mm P (der P) j)))) (ML P 0) (ML P 0 - 1) else -2
theorem op_fails_ok {fu B C : Nat} (hfu : 70000 < fu) : op_fails fu B C (Inv B C) := by
  rintro a1 σx σm ⟨T, hX, hM, hT⟩
  obtain ⟨hM1, FM1⟩ := imc_0 (v := 0) hM
  obtain ⟨Y1, L1⟩ := hM1.1
  rcases try_c a1 with ⟨e1, e2⟩ | ⟨t, ht, rfl, e1, e2⟩
  · refine op_cb (T := T) (-2) hT ?_ ?_
    · unfold f_Roo_fails
      rw [e1]
      exact wq_ob (wq_some (wq_ip rfl (wq_some ⟨rfl, xok_rf hX⟩)))
    · unfold f_Mod_fails_
      dsimp only [rr_lt]
      rw [e2 C]
      exact wq_ob (wq_some (wq_ip rfl (wq_some ⟨rfl, hM1, FM1⟩)))
  obtain ⟨b1, b2, b3⟩ := hX.2.2.2 t ht
  obtain ⟨q0, q1, q2, q3, q4, q5, q6, q7, q8⟩ := roo_t hX.1
  refine op_cb (T := T) (flR (T t)) hT ?_ ?_
  · unfold f_Roo_fails
    dsimp only [rr_lt]
    rw [e1, q0, n_nI (show t < 2 ^ 31 by omega), (q7 t ht).1, q3]
    refine wq_ob (wq_some (wq_in (by decide) (wq_ip (q8 t ht) (wq_bd (wq_mo (cpv (by omega) ht hX) ?_)))))
    rintro ⟨u, σ'⟩ ⟨c1, c2, c3⟩
    dsimp only at c1 c2 c3 ⊢
    have ho := xok_pf ht c1 c3
    have c6 := c2.2.2.2.2.2.1
    have cj := c2.2.2.2.2.2.2
    unfold flR
    by_cases hd : 0 < dgg (T t)
    · obtain ⟨m1, m2⟩ := ML_le b1 hd (dep_pos b1 hd)
      have hMB : MB (T t) = ML (T t) 0 := if_pos hd
      rw [hMB] at c6 cj
      rw [c6, if_pos hd]
      refine wq_ip (show (1 : Int32) ≤ nI (ML (T t) 0) from nI_le (a := 1) (by omega) (by omega)) ?_
      rw [ffl_x (M := ML (T t) 0) (D := fun j => nI (dgg (mm (T t) (der (T t)) j))) (S := fun j => sgI (cc (T t) (der (T t)) j (dgg (mm (T t) (der (T t)) j)))) (by omega) ht c1.1 m2 m1 c6 (fun j hj => (cj j hj).1) (fun j hj => (cj j hj).2)]
      exact wq_ob (wq_some (wq_some ⟨rfl, ho⟩))
    · have hMB : MB (T t) = 0 := if_neg hd
      rw [c6, hMB, if_neg hd]
      exact wq_in (by decide) (wq_some ⟨rfl, ho⟩)
  · unfold f_Mod_fails_
    dsimp only [rr_lt]
    rw [e2 C, mdg_ok (fu := fu) (r := t) (by omega) L1.1 (by omega) (hM1.2 t ht)]
    refine wq_ob (wq_some (wq_in (by decide) (wq_ob (wq_some ?_))))
    unfold flR
    by_cases hd : 0 < dgg (T t)
    rotate_left
    · rw [if_neg hd]
      refine wq_in ?_ (wq_some ⟨rfl, hM1, FM1⟩)
      rcases dgc.2 hd with q | q <;> rw [q] <;> decide
    obtain ⟨e, he, hg, h8', h1'⟩ := dgc.1 hd
    rw [he, nI_pred, if_pos hd]
    refine wq_ip (show (1 : Int32) ≤ nI e from nI_le (a := 1) (by omega) (by omega)) (wq_bd (wq_mo (prs_m hfu ht hM1 b1 hd) ?_))
    rintro ⟨r, σ'⟩ ⟨k1, k2, Y, k3, k4⟩
    dsimp only at k1 k2 k3 k4 ⊢
    have ho : mok C T σm σ' := ⟨k2.1, mfr_tr FM1 k2.2⟩
    obtain ⟨m1, m2⟩ := ML_le b1 hd (dep_pos b1 hd)
    obtain ⟨_, ⟨s, g3⟩, g4, g5⟩ := (lvs_P b1 hd).1 0 (dep_pos b1 hd)
    have g4' : ends (T t) (der (T t)) (ML (T t) 0) := g4
    have g3' : gdp (T t) (der (T t)) s := g3
    generalize ML (T t) 0 = M at k1 k4 m1 m2 g4' ⊢
    have e36 : (36 : Int32) + nI M - 1 = nI (36 + (M - 1)) := by
      rw [show (36 : Int32) + nI M = nI (36 + M) from nI_add 36 M, nI_pr (by omega)]
      congr 1
      omega
    obtain ⟨_, a2, _⟩ := k4 (M - 1) (by omega)
    rw [k1, e36, mrf_6 k3.1, ix6 (by omega), if_pos rfl, n_nI (show 36 + (M - 1) < 2 ^ 31 by omega), a2]
    have := ffl_m (fu := fu) (K := (if nI (dgg (mm (T t) (der (T t)) (M - 1))) ≤ 0 then some (-1, σ') else some (nI M, σ'))) k3 g3' g4' m2 m1 k4 (by
      show _ = some ((if nI (dgg (mm (T t) (der (T t)) (M - 1))) ≤ 0 then -1 else nI M), σ')
      by_cases h : nI (dgg (mm (T t) (der (T t)) (M - 1))) ≤ 0
      · rw [if_pos h, if_pos h]
      · rw [if_neg h, if_neg h]) fu (M - 1) (by omega) (by omega)
    rw [show M - (M - 1) = 1 by omega] at this
    exact ⟨_, this, rfl, ho⟩
/-- the class, where but the numbers and the point have changed -/
theorem icx_fr {B : Nat} {σ σ' : rr_M} {T : Nat → Pl} (h : IXc B σ T) (h1 : ∀ o k, o ≠ 280 → mg_r σ' (B + o) k = mg_r σ (B + o) k) (h2 : ∀ o, o < 58 → mg_i σ' (B + o) = mg_i σ (B + o)) (h3 : ∀ o, o < 58 → mg_l σ' (B + o) = mg_l σ (B + o)) {Z' : Nat → Option Int} (hZ : bgs B σ' Z') (h9 : Z' 339 = some 1) (hp : ∃ a b, prf B σ' a b) : IXc B σ' T := by
  obtain ⟨a1, _, _, a4⟩ := h
  refine ⟨fun o k ho => by rw [h1 o k ho]; exact a1 o k ho, ⟨Z', hZ, h9⟩, hp, fun t ht => ?_⟩
  obtain ⟨b1, b2, b3⟩ := a4 t ht
  have e1 := h2 (2 + 7 * t) (by omega)
  have e2 := h2 (4 + 7 * t) (by omega)
  have e3 := h2 (5 + 7 * t) (by omega)
  have e4 := h2 (7 + 7 * t)
  have e5 := h2 (8 + 7 * t)
  have e6 := h3 (6 + 7 * t) (by omega)
  refine ⟨b1, fun j hj => ?_, ?_⟩
  · rw [h3 (3 + 7 * t) (by omega)]
    exact b2 j hj
  · unfold trs prvd at b3 ⊢
    rw [e1, e2, e3]
    rcases b3 with q | ⟨q1, q2⟩
    · exact Or.inl q
    · refine Or.inr ⟨q1, ?_⟩
      rcases q2 with q2 | ⟨q2, q3⟩
      · exact Or.inl q2
      · exact Or.inr ⟨q2, fun j hj => pl1_of (q3 j hj) (by rw [e6]) (by rw [e4 (by omega)]) (by rw [e5 (by omega)])⟩
theorem szb_8 {e : Nat} {z : Int} (he : 27 ≤ e) (h1 : -100000000 ≤ z) (h2 : z ≤ 100000000) : szb e z := szb_mono (e := 27) (by unfold szb; omega) he
theorem szb_31 (v : Int32) : szb 31 v.toInt := by
  have := Int32.toInt_lt v
  have := Int32.le_toInt v
  unfold szb
  omega
theorem op_sign_ok {fu B C : Nat} (hfu : 70000 < fu) : op_sign fu B C (Inv B C) := by
  rintro a1 a2 a3 σx σm ⟨T, hX, hM, hT⟩
  obtain ⟨hM1, FM1⟩ := imc_0 (v := 0) hM
  obtain ⟨Y1, L1⟩ := hM1.1
  rcases try_c a1 with ⟨e1, e2⟩ | ⟨t, ht, rfl, e1, e2⟩
  · refine op_cb (T := T) (-2) hT ?_ ?_
    · unfold f_Roo_sign
      rw [e1]
      exact wq_ob (wq_some (wq_ip rfl (wq_some ⟨rfl, xok_rf hX⟩)))
    · unfold f_Mod_sign
      dsimp only [rr_lt]
      rw [e2 C]
      exact wq_ob (wq_some (wq_ip rfl (wq_some ⟨rfl, hM1, FM1⟩)))
  rcases fin_c a3 with ⟨f1, f2⟩ | ⟨s, hs, rfl, f1, f2⟩
  · refine op_cb (T := T) (-2) hT ?_ ?_
    · unfold f_Roo_sign
      rw [e1, f1]
      exact wq_ob (wq_some (wq_in (by decide) (wq_ob (wq_some (wq_ip rfl (wq_some ⟨rfl, xok_rf hX⟩))))))
    · unfold f_Mod_sign
      dsimp only [rr_lt]
      rw [e2 C, f2]
      exact wq_ob (wq_some (wq_in (by decide) (wq_ob (wq_some (wq_ip rfl (wq_some ⟨rfl, hM1, FM1⟩))))))
  obtain ⟨b1, b2, b3⟩ := hX.2.2.2 t ht
  obtain ⟨q0, q1, q2, q3, q4, q5, q6, q7, q8⟩ := roo_t hX.1
  have d8 := dgg_lt (T t)
  have sf : ∀ k, szb 600 (T t k) := fun k => szb_8 (by omega) (b1.2 k).1 (b1.2 k).2
  refine op_cr (T := T) (fun r : Int32 => r.toInt = sgq (vl (T t) ((a2.toInt : Rat) / (2 : Rat) ^ s))) (fun a b h h' => i_inj (by rw [h, h'])) hT ?_ ?_
  · have hX' := hX
    obtain ⟨c0, ⟨Z, z1, z2⟩, ⟨a, b, hp⟩, _⟩ := hX
    unfold f_Roo_sign
    dsimp only [rr_lt]
    rw [e1, f1, q6]
    have tv : a2.toInt64.toInt = a2.toInt := Int32.toInt_toInt64 a2
    refine wq_ob (wq_some (wq_in (by decide) (wq_ob (wq_some (wq_in (by decide) (wq_bd (wq_mo (ptm_ok (F := s) (e := 40) (v := a2.toInt64) (by omega) z1 hp (by omega) (by omega) (by rw [tv]; exact szb_mono (szb_31 a2) (by omega))) ?_)))))))
    rintro ⟨u, σ'⟩ ⟨g1, g2, Z', g3, g4, g5⟩
    dsimp only at g1 g2 g3 g5 ⊢
    have c1 := crf_fr2 c0 g1
    obtain ⟨q0', q1', q2', q3', q4', q5', q6', q7', q8'⟩ := roo_t c1
    rw [tv] at g5
    rw [q6', q0', n_nI (show t < 2 ^ 31 by omega), (q7' t ht).1, (q7' t ht).2]
    have hl3 := g1.2.2 (3 + 7 * t) (isB_lo (by omega))
    refine wq_ip (q8' t ht) (wq_bd (wq_mo (sof_ok (o := 3 + 7 * t) (f := T t) (by omega) c1 g3 g2 (by rw [nx_at]; exact (nx_tr t ht).1) (isB_lo (by omega)) (fun j hj => by rw [hl3]; exact b2 j hj) b1.1 g5 sf (by omega)) ?_))
    rintro ⟨r, σ2⟩ ⟨k1, k2, Z2, a', b', k3, k4, k5⟩
    dsimp only at k1 k2 k3 k4 ⊢
    refine wq_some ⟨k1, ?_, ?_, ?_⟩
    · refine icx_fr hX' (fun o k ho => ?_) (fun o ho => ?_) (fun o ho => ?_) k3 ?_ ⟨a', b', k4⟩
      · rw [k2.1 o k ho, g1.1 o k ho]
      · rw [k2.2.1 o (isB_lo (by omega)), g1.2.1 o (isB_lo (by omega)) (by omega)]
      · rw [k2.2.2 o (isB_lo (by omega)), g1.2.2 o (isB_lo (by omega))]
      · rw [k5 339 (by omega) (by omega) (fun j hj => by unfold ld; omega), g4 339 (by omega)]
        exact z2
    · show mg_i σ2 (B + 58) = _
      rw [k2.2.1 58 (by decide), g1.2.1 58 (by decide) (by omega)]
    · show mg_i σ2 (B + 59) = _
      rw [k2.2.1 59 (by decide), g1.2.1 59 (by decide) (by omega)]
  · unfold f_Mod_sign
    dsimp only [rr_lt]
    rw [e2 C, f2, mdg_ok (fu := fu) (r := t) (by omega) L1.1 (by omega) (hM1.2 t ht)]
    refine wq_ob (wq_some (wq_in (by decide) (wq_ob (wq_some (wq_in (by decide) (wq_ob (wq_some ?_)))))))
    by_cases hz : dln (T t) = 0
    · have e0 := dln_0 b1.1 hz
      rw [hz]
      refine wq_in (by decide) (wq_some ⟨?_, hM1, FM1⟩)
      show (0 : Int32).toInt = _
      have hs0 := hv_sgn (f := T t) (d := 0) (fun k _ => by rw [e0]; rfl) a2.toInt s
      rw [← hs0, e0]
      rfl
    obtain ⟨⟨d1, d2⟩, d3⟩ := dln_top b1.1 (show 0 < dln (T t) by omega)
    have ed : nI (dln (T t)) - 1 = nI (dgg (T t)) := nI_pr (by omega)
    rw [ed]
    refine wq_ip (nI_pos' (by omega)) (wq_bd (wq_mo (tks_ok (row := 36) (r := t) hfu L1 (by omega) (by omega) (hM1.2 t ht) (fun k _ => by have := b1.2 k; omega)) ?_))
    rintro ⟨u, σ1⟩ ⟨Y2, g1, g2, g3, g4, g5, g6⟩
    dsimp only at g1 g2 g3 g6 ⊢
    rw [mrf_7 g1.1]
    refine wq_ip (show rr_ix (nI 36) (nm C (C + 7)) = true from ix7 (by omega)) ?_
    have L2 : LM C (ms_i σ1 (C + 7) (rr_n 36) 1) Y2 := LM_ms g1 (by omega)
    have n36 : rr_n 36 = 36 := by decide
    rw [n36] at L2 ⊢
    refine wq_bd (wq_mo (mo_sets (s := 15) (v := a2.toInt64) hfu L2 (by omega) (by rw [Int32.toInt_toInt64]; have := Int32.le_toInt a2; omega)) ?_)
    rintro ⟨u2, σ2⟩ ⟨l1, l2⟩
    dsimp only at l1 l2 ⊢
    rw [Int32.toInt_toInt64] at l1
    refine wq_bd (wq_mo (sga_ok (row := 36) (d := dgg (T t)) (e := 40) (s := s) (f := T t) (x := a2.toInt) (l := 1) hfu l1 (by omega) (by omega) (fun k hk => ?_) ?_ ?_ (Or.inl rfl) d2 (yup_s _ _ _) sf (szb_mono (szb_31 a2) (by omega)) (by omega) (by omega) (by omega)) ?_)
    · rw [yup_n (by unfold slt; omega)]
      exact g5 k hk
    · rw [frm_i l2 (by omega) (by omega) (by omega), si_row (by omega), g6, ed]
    · rw [frm_i l2 (by omega) (by omega) (by omega), si_s]
      rfl
    · rintro ⟨r, σ3⟩ ⟨k1, k2, Y3, k3, k4⟩
      dsimp only at k1 k2 k3 ⊢
      have F1 : mfr C (ms_i σm C 0 0) (ms_i σ1 (C + 7) 36 1) := mfr_tr (frq_mfr g2) (frq_mfr (frq_7 (r := 36)))
      have F := mfr_tr F1 (mfr_tr (frm_mfr l2) (frm_mfr k2))
      refine wq_some ⟨?_, imc_mfr hM1 F k3, mfr_tr FM1 F⟩
      show r.toInt = _
      rw [k1, sgI_t, Int.one_mul]
      exact hv_sgn d2 a2.toInt s
