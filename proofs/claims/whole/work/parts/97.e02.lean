/-! ===== count ===== -/
noncomputable def ctI (P : Pl) : Nat → Int32
  | 0 => 1
  | n + 1 => if P (8 - n) < 0 then 0 else ctI P n
theorem cts_c {fu B o : Nat} {σ : rr_M} {P : Pl} (hfu : 400 < fu) (hn : nx B (B + o) = 9) (hf : ∀ j, j < 9 → (mg_l σ (B + o) j).toInt = P j) : f_Row_isCounts fu (nx B) (B + o) σ = some (ctI P 9) := by
  have b0 : rr_b1 0 = true := by decide
  have b1 : rr_b1 1 = true := by decide
  have key : ∀ (fl m : Nat), m ≤ 9 → m < fl → l_Row_isCounts_2 fu (nx B) (B + o) σ fl (nI (9 - m)) (if rr_b1 1 then some (1) else none) = some (ctI P m) := by
    intro fl
    induction fl with
    | zero => intro m h1 h2; omega
    | succ fl ih =>
      intro m h1 h2
      rw [l_Row_isCounts_2, hn]
      by_cases hm : m = 0
      · subst hm
        rw [if_pos (by decide), b1, if_pos rfl]
        rfl
      obtain ⟨m', rfl⟩ : ∃ m', m = m' + 1 := ⟨m - 1, by omega⟩
      have e : 9 - (m' + 1) = 8 - m' := by omega
      rw [e, if_neg (show ¬ nI 9 ≤ nI (8 - m') from nI_ge (by omega) (by omega)), ix_nI (show 8 - m' < 9 by omega) (by omega), if_pos rfl, n_nI (by omega)]
      have hv := hf (8 - m') (by omega)
      show _ = some (if P (8 - m') < 0 then 0 else ctI P m')
      by_cases hneg : P (8 - m') < 0
      · rw [if_neg, if_pos hneg, b0, if_pos rfl]
        rw [Int64.le_iff_toInt_le, hv]
        show ¬ (0 : Int) ≤ _
        omega
      · rw [if_pos, if_neg hneg]
        · dsimp only [rr_lt]
          rw [nI_1, show 8 - m' + 1 = 9 - m' by omega]
          exact ih m' (by omega) (by omega)
        · rw [Int64.le_iff_toInt_le, hv]
          show (0 : Int) ≤ _
          omega
  unfold f_Row_isCounts
  exact key fu 9 (by omega) (by omega)
theorem cts_m {fu C r : Nat} {σ : rr_M} {P : Pl} (hfu : 400 < fu) (hm : mrf C σ) (hr : r < 23) (hf : mpo C σ r P) : f_Mod_isCounts fu (nm C) C (nI r) σ = some (ctI P 9) := by
  have b0 : rr_b1 0 = true := by decide
  have b1 : rr_b1 1 = true := by decide
  have key : ∀ (fl m : Nat), m ≤ 9 → m < fl → l_Mod_isCounts_2 fu (nm C) C (nI r) σ fl (nI (9 - m)) (if rr_b1 1 then some (1) else none) = some (ctI P m) := by
    intro fl
    induction fl with
    | zero => intro m h1 h2; omega
    | succ fl ih =>
      intro m h1 h2
      rw [l_Mod_isCounts_2]
      by_cases hm0 : m = 0
      · subst hm0
        rw [if_pos (by decide), b1, if_pos rfl]
        rfl
      obtain ⟨m', rfl⟩ : ∃ m', m = m' + 1 := ⟨m - 1, by omega⟩
      have e : 9 - (m' + 1) = 8 - m' := by omega
      rw [e, if_neg (show ¬ (9 : Int32) ≤ nI (8 - m') from nI_ge (b := 9) (by omega) (by omega)), mat_ok hm hr (by omega)]
      dsimp only [Option.bind]
      have hv := hf (8 - m') (by omega)
      show _ = some (if P (8 - m') < 0 then 0 else ctI P m')
      by_cases hneg : P (8 - m') < 0
      · rw [if_neg, if_pos hneg, b0, if_pos rfl]
        rw [Int64.le_iff_toInt_le, hv]
        show ¬ (0 : Int) ≤ _
        omega
      · rw [if_pos, if_neg hneg]
        · dsimp only [rr_lt]
          rw [nI_1, show 8 - m' + 1 = 9 - m' by omega]
          exact ih m' (by omega) (by omega)
        · rw [Int64.le_iff_toInt_le, hv]
          show (0 : Int) ≤ _
          omega
  unfold f_Mod_isCounts
  exact key fu 9 (by omega) (by omega)
theorem rn_mono {P : Pl} {l : Nat} (hP : pok P) (h : l + 1 < DP P) : rn P (l + 1) ≤ rn P l := by
  obtain ⟨hd, hdp⟩ := DP_d h
  have a := cn_two hP hd hdp (show (-100000001 : Rat) ≤ 100000001 by decide +kernel)
  rw [cn_r hP hd hdp (Rat.le_refl), cn_l hP hd hdp (Rat.le_refl), cn_r hP hd (show l < dep P by omega) (Rat.le_refl), cn_l hP hd (show l < dep P by omega) (Rat.le_refl)] at a
  unfold rn
  omega
theorem rn_all {P : Pl} (hP : pok P) : ∀ k, k < DP P → 0 < rn P k → smn k (fun i => if 0 < rn P i then 1 else 0) = k
  | 0, _, _ => rfl
  | k + 1, h, hr => by
    have m := rn_mono hP h
    have a := rn_all hP k (by omega) (by omega)
    show smn k _ + (if 0 < rn P k then 1 else 0) = k + 1
    rw [a, if_pos (by omega)]
theorem mst_ok {fu C : Nat} {σ : rr_M} {Y : Nat → Int} {P : Pl} (hfu : 70000 < fu) (hP : pok P) (h : lyd C (DP P) σ Y P) : l_Mod_mostOften_9 fu (nm C) C σ fu 0 0 (fun v => some (v, σ)) = some (nI (MO P), σ) := by
  have h8 := DP_8 hP
  have key : ∀ (fl k : Nat), k ≤ DP P → 10 - k ≤ fl → l_Mod_mostOften_9 fu (nm C) C σ fl (nI (smn k (fun i => if 0 < rn P i then 1 else 0))) (nI k) (fun v => some (v, σ)) = some (nI (MO P), σ) := by
    intro fl
    induction fl with
    | zero => intro k h1 h2; omega
    | succ fl ih =>
      intro k h1 h2
      rw [l_Mod_mostOften_9, h.2.1]
      by_cases hk : k = DP P
      · subst hk
        rw [if_pos (nI_le (Nat.le_refl _) (by omega))]
        rfl
      · rw [if_neg (nI_ge (by omega) (by omega)), rrt_ok hfu hP h (by omega)]
        dsimp only [Option.bind, rr_lt, rr_jn]
        have r9 := rn_le hP (show k < DP P by omega)
        have es : smn (k + 1) (fun i => if 0 < rn P i then 1 else 0) = smn k (fun i => if 0 < rn P i then 1 else 0) + (if 0 < rn P k then 1 else 0) := rfl
        have ih' := ih (k + 1) (by omega) (by omega)
        by_cases h0 : 0 < rn P k
        · rw [if_neg (nI_nle h0 (by omega)), nI_1]
          rw [es, if_pos h0, rn_all hP k (by omega) h0] at ih'
          exact ih'
        · rw [show rn P k = 0 by omega, if_pos (by decide), nI_1]
          rw [es, if_neg h0, Nat.add_zero] at ih'
          exact ih'
  exact key fu 0 (by omega) (by omega)
def xok (B : Nat) (T : Nat → Pl) (σ σ' : rr_M) : Prop := IXc B σ' T ∧ mg_i σ' (B + 58) = mg_i σ (B + 58) ∧ mg_i σ' (B + 59) = mg_i σ (B + 59)
def mok (C : Nat) (T : Nat → Pl) (σ σ' : rr_M) : Prop := IMc C σ' T ∧ mfr C σ σ'
theorem op_cb {α : Type} {B C : Nat} {T : Nat → Pl} {σx σm : rr_M} {f g : Option (α × rr_M)} (r : α) (hT : ITp B C σx σm) (hx : wq f (fun x => x.1 = r ∧ xok B T σx x.2)) (hm : wq g (fun y => y.1 = r ∧ mok C T σm y.2)) : ∃ (r : α) (σ1 σ2 : rr_M), f = some (r, σ1) ∧ g = some (r, σ2) ∧ Inv B C σ1 σ2 := by
  obtain ⟨x, e1, e2, e3, e4, e5⟩ := hx
  obtain ⟨y, d1, d2, d3, d4⟩ := hm
  exact ⟨r, x.2, y.2, by rw [e1, ← e2], by rw [d1, ← d2], T, e3, d3, itp_mv hT e4 e5 d4⟩
theorem xok_rf {B : Nat} {T : Nat → Pl} {σ : rr_M} (h : IXc B σ T) : xok B T σ σ := ⟨h, rfl, rfl⟩
theorem xok_pf {B t : Nat} {T : Nat → Pl} {σ σ' : rr_M} (ht : t < 8) (h : IXc B σ' T) (F : pfx B (IT t) (LT t) σ σ') : xok B T σ σ' := ⟨h, (pfx_tp ht F).1, (pfx_tp ht F).2⟩
noncomputable def cntI (P : Pl) : Nat → Int32
  | 0 => nI (dln P) - 1
  | 1 => nI (NR P)
  | 2 => if 0 ≤ nI (dln P) - 1 then nI (dln P) - 1 - nI (NR P) else -1
  | 3 => nI (UN P)
  | 4 => nI (MO P)
  | 5 => WI P
  | 6 => nI (MB P)
  | 7 => if ctI P 9 = 0 then 0 else 1
  | _ => -1
theorem cnt_x {fu B t j : Nat} {T : Nat → Pl} {σ : rr_M} (hfu : 70000 < fu) (ht : t < 8) (hj : j ≤ 7) (hX : IXc B σ T) : wq (f_Roo_count fu (nx B) B (nI t) (nI j) σ) (fun x => x.1 = cntI (T t) j ∧ xok B T σ x.2) := by
  obtain ⟨q0, q1, q2, q3, q4, q5, q6, q7, q8⟩ := roo_t hX.1
  obtain ⟨b1, b2, b3⟩ := hX.2.2.2 t ht
  have n9 : nx B (B + (3 + 7 * t)) = 9 := by rw [nx_at]; exact (nx_tr t ht).1
  have dgX := num_deg (fu := fu) (o := 3 + 7 * t) (B := B) (σ := σ) (f := T t) (by omega) n9 b2
  have e1 : f_Roo_isTray (nI t) = some 1 := by
    rcases try_c (nI t) with ⟨e1, _⟩ | ⟨_, _, _, e1, _⟩
    · exact absurd e1 (by unfold f_Roo_isTray; rw [if_neg (nI_pos (by omega)), if_neg (show ¬ (8 : Int32) ≤ nI t from nI_ge (b := 8) (by omega) (by omega))]; decide)
    · exact e1
  unfold f_Roo_count
  dsimp only [rr_lt]
  rw [e1, q0, n_nI (show t < 2 ^ 31 by omega), (q7 t ht).1, (q7 t ht).2, dgX, q3]
  refine wq_ob (wq_some (wq_in (by decide) (wq_in (nI_pos (by omega)) (wq_ip (show nI j ≤ 7 from nI_le (b := 7) hj (by omega)) (wq_ip (q8 t ht) (wq_ob (wq_some ?_)))))))
  have prv : ∀ {kx : Unit → rr_M → Option (Int32 × rr_M)} (r : Int32), (∀ σ', prvd B t σ' (T t) → xok B T σ σ' → wq (kx () σ') (fun x => x.1 = r ∧ xok B T σ x.2)) → wq (rr_bd (f_Lev_prove fu (nx B) (B + 306) (B + (2 + 7 * t)) σ) kx) (fun x => x.1 = r ∧ xok B T σ x.2) := fun {kx} r hx => by
    refine wq_bd (wq_mo (cpv (by omega) ht hX) ?_)
    rintro ⟨u, σ'⟩ ⟨c1, c2, c3⟩
    exact hx σ' c2 (xok_pf ht c1 c3)
  have hj8 : j = 0 ∨ j = 1 ∨ j = 2 ∨ j = 3 ∨ j = 4 ∨ j = 5 ∨ j = 6 ∨ j = 7 := by omega
  rcases hj8 with rfl | rfl | rfl | rfl | rfl | rfl | rfl | rfl
  · refine wq_ip (by decide) (wq_some ⟨rfl, xok_rf hX⟩)
  · refine wq_in (by decide) (wq_in (by decide) (prv _ (fun σ' h ho => ?_)))
    repeat (first | refine wq_ip (by decide) ?_ | refine wq_in (by decide) ?_)
    rw [h.2.2.1]; exact wq_some ⟨rfl, ho⟩
  · refine wq_in (by decide) (wq_in (by decide) (prv _ (fun σ' h ho => ?_)))
    repeat (first | refine wq_ip (by decide) ?_ | refine wq_in (by decide) ?_)
    show wq _ (fun x : Int32 × rr_M => x.1 = (if 0 ≤ nI (dln (T t)) - 1 then nI (dln (T t)) - 1 - nI (NR (T t)) else -1) ∧ _)
    rw [h.2.2.1]
    by_cases hd : 0 ≤ nI (dln (T t)) - 1
    · refine wq_ip hd (wq_some ⟨?_, ho⟩); rw [if_pos hd]
    · refine wq_in hd (wq_some ⟨?_, ho⟩); rw [if_neg hd]
  · refine wq_in (by decide) (wq_in (by decide) (prv _ (fun σ' h ho => ?_)))
    repeat (first | refine wq_ip (by decide) ?_ | refine wq_in (by decide) ?_)
    rw [h.2.2.2.1]; exact wq_some ⟨rfl, ho⟩
  · refine wq_in (by decide) (wq_in (by decide) (prv _ (fun σ' h ho => ?_)))
    repeat (first | refine wq_ip (by decide) ?_ | refine wq_in (by decide) ?_)
    rw [h.2.2.2.2.1]; exact wq_some ⟨rfl, ho⟩
  · refine wq_in (by decide) (wq_in (by decide) (prv _ (fun σ' h ho => ?_)))
    repeat (first | refine wq_ip (by decide) ?_ | refine wq_in (by decide) ?_)
    rw [h.2.1]
    show wq _ (fun x : Int32 × rr_M => x.1 = WI (T t) ∧ _)
    unfold WI
    by_cases hw : 0 < dln (T t) ∧ NR (T t) = dgg (T t)
    · rw [if_pos hw]
      exact wq_in (by decide) (wq_some ⟨rfl, ho⟩)
    · rw [if_neg hw]
      exact wq_ip rfl (wq_some ⟨rfl, ho⟩)
  · refine wq_in (by decide) (wq_in (by decide) (prv _ (fun σ' h ho => ?_)))
    repeat (first | refine wq_ip (by decide) ?_ | refine wq_in (by decide) ?_)
    rw [h.2.2.2.2.2.1]; exact wq_some ⟨rfl, ho⟩
  · refine wq_in (by decide) (wq_ip (by decide) ?_)
    rw [cts_c (by omega) n9 b2]
    refine wq_ob (wq_some ?_)
    show wq _ (fun x : Int32 × rr_M => x.1 = (if ctI (T t) 9 = 0 then 0 else 1) ∧ _)
    by_cases hc : ctI (T t) 9 = 0
    · refine wq_ip hc (wq_some ⟨?_, xok_rf hX⟩); rw [if_pos hc]
    · refine wq_in hc (wq_some ⟨?_, xok_rf hX⟩); rw [if_neg hc]
theorem whl_m {fu C t : Nat} {T : Nat → Pl} {σ : rr_M} (hfu : 70000 < fu) (ht : t < 8) (hM : IMc C σ T) (b1 : pok (T t)) : wq (f_Mod_isWhole fu (nm C) C (nI t) σ) (fun y => y.1 = WI (T t) ∧ mok C T σ y.2) := by
  obtain ⟨Y1, L1⟩ := hM.1
  obtain ⟨nr1, nr2, nr3⟩ := NR_le b1
  have d9 : dln (T t) ≤ 9 := lnn_le 9 _
  unfold f_Mod_isWhole
  rw [mdg_ok (fu := fu) (r := t) (by omega) L1.1 (by omega) (hM.2 t ht)]
  refine wq_ob (wq_some ?_)
  by_cases hz : dln (T t) = 0
  · rw [hz]
    refine wq_in (by decide) (wq_ip (by decide) (wq_some ⟨?_, hM, mfr_rf⟩))
    unfold WI
    rw [if_neg (by omega)]
  · obtain ⟨e, he⟩ : ∃ e, dln (T t) = e + 1 := ⟨dln (T t) - 1, by omega⟩
    have hg : dgg (T t) = e := by unfold dgg; omega
    rw [he, nI_pred]
    refine wq_ip (nI_pos' (by omega)) (wq_bd (wq_mo (mly hfu ht hM b1) ?_))
    rintro ⟨u, σ'⟩ ⟨c1, c2, Y, c3⟩
    dsimp only at c1 c2 c3 ⊢
    rw [rts_ok hfu b1 c3, mdg_ok (fu := fu) (r := t) (by omega) c3.1.1 (by omega) (c1.2 t ht), he, nI_pred]
    refine wq_ob (wq_some (wq_ob (wq_some ?_)))
    unfold WI
    by_cases hw : NR (T t) = e
    · refine wq_ip (by rw [hw]) (wq_ip (by decide) (wq_some ⟨?_, c1, c2⟩))
      rw [if_pos ⟨by omega, by omega⟩]
    · refine wq_in (fun hh => hw ((nI_eq (by omega) (by omega)).mp hh)) (wq_ip (by decide) (wq_some ⟨?_, c1, c2⟩))
      rw [if_neg (by omega)]
theorem prs_m {fu C t : Nat} {T : Nat → Pl} {σ : rr_M} (hfu : 70000 < fu) (ht : t < 8) (hM : IMc C σ T) (b1 : pok (T t)) (hd : 0 < dgg (T t)) : wq (f_Mod_proves fu (nm C) C 36 (nI t) σ) (fun y => y.1 = nI (ML (T t) 0) ∧ mok C T σ y.2 ∧ ∃ Y, LM C y.2 Y ∧ mrs C 36 (ML (T t) 0 - 1) y.2 Y (T t) (der (T t))) := by
  obtain ⟨Y1, L1⟩ := hM.1
  obtain ⟨_, ⟨s, g3⟩, g4, g5⟩ := (lvs_P b1 hd).1 0 (dep_pos b1 hd)
  refine wq_mo (prv_ok (first := 36) (r := t) hfu L1 (by omega) (by omega) (hM.2 t ht) g3 hd (fun k => by have := b1.2 k; omega)) ?_
  rintro ⟨w, σ'⟩ ⟨Y', M, k1, k2, k3, k4, k5, k6, k7⟩
  dsimp only at k1 k2 k3 k7 ⊢
  have e := ends_uniq k5 g4
  subst e
  exact ⟨k1, ⟨imc_mfr hM (frq_mfr k3) k2, frq_mfr k3⟩, Y', k2, k7⟩
theorem dgc {P : Pl} : (0 < dgg P → ∃ e, dln P = e + 1 ∧ dgg P = e ∧ e ≤ 8 ∧ 1 ≤ e) ∧ (¬ 0 < dgg P → dln P = 0 ∨ dln P = 1) := by
  have d9 : dln P ≤ 9 := lnn_le 9 _
  constructor
  · intro h
    refine ⟨dln P - 1, ?_, ?_, by omega, ?_⟩ <;> unfold dgg at * <;> omega
  · intro h
    unfold dgg at h
    omega
theorem cnt_m {fu C t j : Nat} {T : Nat → Pl} {σm : rr_M} (hfu : 70000 < fu) (ht : t < 8) (hj : j ≤ 7) (hM : IMc C σm T) (b1 : pok (T t)) : wq (f_Mod_count fu (nm C) C (nI t) (nI j) σm) (fun y => y.1 = cntI (T t) j ∧ mok C T σm y.2) := by
  obtain ⟨hM1, FM1⟩ := imc_0 (v := 0) hM
  obtain ⟨σ, hσ⟩ : ∃ σ, σ = ms_i σm C 0 0 := ⟨_, rfl⟩
  rw [← hσ] at hM1 FM1
  have up : ∀ {g : Option (Int32 × rr_M)} (r : Int32), wq g (fun y => y.1 = r ∧ mok C T σ y.2) → wq g (fun y => y.1 = r ∧ mok C T σm y.2) := fun r h => wq_mo h (fun y hy => ⟨hy.1, hy.2.1, mfr_tr FM1 hy.2.2⟩)
  obtain ⟨Y1, L1⟩ := hM1.1
  obtain ⟨nr1, nr2, nr3⟩ := NR_le b1
  have h8 := DP_8 b1
  have d9 : dln (T t) ≤ 9 := lnn_le 9 _
  have dgM := mdg_ok (fu := fu) (r := t) (by omega) L1.1 (by omega) (hM1.2 t ht)
  have e2 : f_Mod_isTray C (nI t) = some 1 := by
    rcases try_c (nI t) with ⟨e1, _⟩ | ⟨_, _, _, _, e2⟩
    · exact absurd e1 (by unfold f_Roo_isTray; rw [if_neg (nI_pos (by omega)), if_neg (show ¬ (8 : Int32) ≤ nI t from nI_ge (b := 8) (by omega) (by omega))]; decide)
    · exact e2 C
  unfold f_Mod_count
  dsimp only [rr_lt]
  rw [← hσ, e2, dgM]
  refine up _ (wq_ob (wq_some (wq_in (by decide) (wq_ob (wq_some ?_)))))
  have lay : ∀ {km : Unit → rr_M → Option (Int32 × rr_M)} (r : Int32), (∀ σ' Y, lyd C (DP (T t)) σ' Y (T t) → mok C T σ σ' → wq (km () σ') (fun y => y.1 = r ∧ mok C T σ y.2)) → wq (rr_bd (f_Mod_lays fu (nm C) C (nI t) σ) km) (fun y => y.1 = r ∧ mok C T σ y.2) := fun {km} r hm => by
    refine wq_bd (wq_mo (mly hfu ht hM1 b1) ?_)
    rintro ⟨u, σ'⟩ ⟨c1, c2, Y, c3⟩
    exact hm σ' Y c3 ⟨c1, c2⟩
  have hj8 : j = 0 ∨ j = 1 ∨ j = 2 ∨ j = 3 ∨ j = 4 ∨ j = 5 ∨ j = 6 ∨ j = 7 := by omega
  rcases hj8 with rfl | rfl | rfl | rfl | rfl | rfl | rfl | rfl
  · exact wq_ip (by decide) (wq_some ⟨rfl, hM1, mfr_rf⟩)
  · repeat (first | refine wq_ip (by decide) ?_ | refine wq_in (by decide) ?_)
    refine lay _ (fun σ' Y h ho => ?_)
    rw [rts_ok hfu b1 h]
    exact wq_ob (wq_some (wq_some ⟨rfl, ho⟩))
  · repeat (first | refine wq_ip (by decide) ?_ | refine wq_in (by decide) ?_)
    refine lay _ (fun σ' Y h ho => ?_)
    show wq _ (fun x : Int32 × rr_M => x.1 = (if 0 ≤ nI (dln (T t)) - 1 then nI (dln (T t)) - 1 - nI (NR (T t)) else -1) ∧ _)
    rw [rts_ok hfu b1 h]
    by_cases hd : 0 ≤ nI (dln (T t)) - 1
    · refine wq_ip hd (wq_ob (wq_some (wq_some ⟨?_, ho⟩))); rw [if_pos hd]
    · refine wq_in hd (wq_some ⟨?_, ho⟩); rw [if_neg hd]
  · repeat (first | refine wq_ip (by decide) ?_ | refine wq_in (by decide) ?_)
    refine lay _ (fun σ' Y h ho => ?_)
    show wq _ (fun x : Int32 × rr_M => x.1 = nI (UN (T t)) ∧ _)
    rw [h.2.1]
    unfold UN
    by_cases hD : 0 < DP (T t)
    · rw [show f_Mod_realRoots fu (nm C) C 0 σ' = some (nI (rn (T t) 0)) from rrt_ok hfu b1 h hD]
      refine wq_in (nI_ne0 hD (by omega)) (wq_ob (wq_some (wq_some ⟨?_, ho⟩)))
      rw [if_pos hD]
    · refine wq_ip (by rw [show DP (T t) = 0 by omega]; rfl) (wq_some ⟨?_, ho⟩)
      rw [if_neg hD]; rfl
  · repeat (first | refine wq_ip (by decide) ?_ | refine wq_in (by decide) ?_)
    unfold f_Mod_mostOften
    refine wq_bd (wq_mo (lay (nI (MO (T t))) (fun σ' Y h ho => ?_)) ?_)
    · rw [mst_ok hfu b1 h]
      exact wq_some ⟨rfl, ho⟩
    · rintro y hy
      exact wq_some hy
  · repeat (first | refine wq_ip (by decide) ?_ | refine wq_in (by decide) ?_)
    refine wq_bd (wq_mo (whl_m hfu ht hM1 b1) ?_)
    rintro ⟨r, σ'⟩ ⟨e, ho⟩
    dsimp only at e ho ⊢
    show wq _ (fun x : Int32 × rr_M => x.1 = WI (T t) ∧ _)
    rw [e]
    unfold WI
    by_cases hw : 0 < dln (T t) ∧ NR (T t) = dgg (T t)
    · rw [if_pos hw]
      exact wq_in (by decide) (wq_some ⟨rfl, ho⟩)
    · rw [if_neg hw]
      exact wq_ip rfl (wq_some ⟨rfl, ho⟩)
  · repeat (first | refine wq_ip (by decide) ?_ | refine wq_in (by decide) ?_)
    show wq _ (fun x : Int32 × rr_M => x.1 = nI (MB (T t)) ∧ _)
    unfold MB
    by_cases hd : 0 < dgg (T t)
    · obtain ⟨e, he, hg, h8', h1'⟩ := dgc.1 hd
      rw [he, nI_pred, if_pos hd]
      refine wq_ip (show (1 : Int32) ≤ nI e from nI_le (a := 1) (by omega) (by omega)) (wq_bd (wq_mo (prs_m hfu ht hM1 b1 hd) ?_))
      rintro ⟨w, σ'⟩ ⟨k1, k2, _⟩
      exact wq_some ⟨k1, k2⟩
    · rw [if_neg hd]
      refine wq_in ?_ (wq_some ⟨rfl, hM1, mfr_rf⟩)
      rcases dgc.2 hd with q | q <;> rw [q] <;> decide
  · repeat (first | refine wq_ip (by decide) ?_ | refine wq_in (by decide) ?_)
    rw [cts_m (by omega) L1.1 (by omega) (hM1.2 t ht)]
    refine wq_ob (wq_some ?_)
    show wq _ (fun x : Int32 × rr_M => x.1 = (if ctI (T t) 9 = 0 then 0 else 1) ∧ _)
    by_cases hc : ctI (T t) 9 = 0
    · refine wq_ip hc (wq_some ⟨?_, hM1, mfr_rf⟩); rw [if_pos hc]
    · refine wq_in hc (wq_some ⟨?_, hM1, mfr_rf⟩); rw [if_neg hc]
theorem op_count_ok {fu B C : Nat} (hfu : 70000 < fu) : op_count fu B C (Inv B C) := by
  rintro a1 a2 σx σm ⟨T, hX, hM, hT⟩
  obtain ⟨hM1, FM1⟩ := imc_0 (v := 0) hM
  rcases try_c a1 with ⟨e1, e2⟩ | ⟨t, ht, rfl, e1, e2⟩
  · refine op_cb (T := T) (-1) hT ?_ ?_
    · unfold f_Roo_count
      rw [e1]
      exact wq_ob (wq_some (wq_ip rfl (wq_some ⟨rfl, xok_rf hX⟩)))
    · unfold f_Mod_count
      dsimp only [rr_lt]
      rw [e2 C]
      exact wq_ob (wq_some (wq_ip rfl (wq_some ⟨rfl, hM1, FM1⟩)))
  obtain ⟨b1, b2, b3⟩ := hX.2.2.2 t ht
  have rg : (a2.toInt < 0 ∨ (7 : Int) < a2.toInt) ∨ ∃ j, j ≤ 7 ∧ a2 = nI j := rng a2 7 (by omega)
  rcases rg with hr | ⟨j, hj, rfl⟩
  · have nn : ∀ k : Nat, k ≤ 7 → ¬ a2 = nI k := fun k hk hh => by
      rw [hh, nI_toInt (by omega)] at hr
      omega
    refine op_cb (T := T) (-1) hT ?_ ?_
    · unfold f_Roo_count
      rw [e1]
      refine wq_ob (wq_some (wq_in (by decide) ?_))
      by_cases h0 : a2 < 0
      · exact wq_ip h0 (wq_some ⟨rfl, xok_rf hX⟩)
      · refine wq_in h0 (wq_in ?_ (wq_some ⟨rfl, xok_rf hX⟩))
        rw [Int32.lt_iff_toInt_lt] at h0
        rw [Int32.le_iff_toInt_le]
        have : (0 : Int32).toInt = 0 := rfl
        show ¬ _ ≤ (7 : Int)
        omega
    · obtain ⟨Y1, L1⟩ := hM1.1
      unfold f_Mod_count
      dsimp only [rr_lt]
      rw [e2 C, mdg_ok (fu := fu) (r := t) (by omega) L1.1 (by omega) (hM1.2 t ht)]
      exact wq_ob (wq_some (wq_in (by decide) (wq_ob (wq_some (wq_in (nn 0 (by omega)) (wq_in (nn 1 (by omega)) (wq_in (nn 2 (by omega)) (wq_in (nn 3 (by omega)) (wq_in (nn 4 (by omega)) (wq_in (nn 5 (by omega)) (wq_in (nn 6 (by omega)) (wq_in (nn 7 (by omega)) (wq_some ⟨rfl, hM1, FM1⟩)))))))))))))
  · exact op_cb (T := T) _ hT (cnt_x hfu ht hj hX) (cnt_m hfu ht hj hM b1)
