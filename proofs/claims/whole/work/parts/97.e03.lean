/-! ===== root, often, between ===== -/
theorem op_cr {α : Type} {B C : Nat} {T : Nat → Pl} {σx σm : rr_M} {f g : Option (α × rr_M)} (S : α → Prop) (hS : ∀ a b, S a → S b → a = b) (hT : ITp B C σx σm) (hx : wq f (fun x => S x.1 ∧ xok B T σx x.2)) (hm : wq g (fun y => S y.1 ∧ mok C T σm y.2)) : ∃ (r : α) (σ1 σ2 : rr_M), f = some (r, σ1) ∧ g = some (r, σ2) ∧ Inv B C σ1 σ2 := by
  obtain ⟨x, e1, e2, e3, e4, e5⟩ := hx
  obtain ⟨y, d1, d2, d3, d4⟩ := hm
  exact ⟨x.1, x.2, y.2, e1, by rw [d1, hS _ _ e2 d2], T, e3, d3, itp_mv hT e4 e5 d4⟩
theorem tr_1 {t : Nat} (ht : t < 8) : f_Roo_isTray (nI t) = some 1 ∧ ∀ C, f_Mod_isTray C (nI t) = some 1 := by
  rcases try_c (nI t) with ⟨e1, _⟩ | ⟨_, _, _, e1, e2⟩
  · exact absurd e1 (by unfold f_Roo_isTray; rw [if_neg (nI_pos (by omega)), if_neg (show ¬ (8 : Int32) ≤ nI t from nI_ge (b := 8) (by omega) (by omega))]; decide)
  · exact ⟨e1, e2⟩
theorem NR_un {P : Pl} (hP : pok P) : NR P = smn (UN P) (mN P) ∧ UN P ≤ 8 := by
  by_cases hd : 0 < dgg P
  · have hD : 0 < DP P := by unfold DP; rw [if_pos hd]; exact dep_pos hP hd
    have e : UN P = rn P 0 := if_pos hD
    have := rl_0 hP hd
    rw [e]
    exact ⟨NR_sum hP hd, by omega⟩
  · have e : DP P = 0 := if_neg hd
    unfold NR UN
    rw [e]
    exact ⟨rfl, by rw [if_neg (by omega)]; omega⟩
theorem UN_d {P : Pl} {i : Nat} (h : i < UN P) : 0 < dgg P ∧ UN P = rn P 0 := by
  unfold UN at h ⊢
  by_cases hD : 0 < DP P
  · rw [if_pos hD]; exact ⟨(DP_d hD).1, rfl⟩
  · rw [if_neg hD] at h; omega
/-- root k is unlike root i -/
def ofk (P : Pl) (k i : Nat) : Prop := i < UN P ∧ smn i (mN P) ≤ k ∧ k < smn (i + 1) (mN P)
theorem ofk_u {P : Pl} {k i j : Nat} (h : ofk P k i) (h' : ofk P k j) : i = j := by
  have key : ∀ {i j}, ofk P k i → ofk P k j → ¬ i < j := fun {i j} h h' hlt => by
    have := smn_mono (f := mN P) (i + 1) j (by omega)
    have := h.2.2
    have := h'.2.1
    omega
  have := key h h'
  have := key h' h
  omega
theorem por_ok {fu B t : Nat} {σ : rr_M} {P : Pl} {k : Nat} (hfu : 400 < fu) (ht : t < 8) (hP : pok P) (hc : crf B σ) (hv : prvd B t σ P) (hl : plcd B t σ P) (hk : k < 2147483648) : (∃ i, ofk P k i ∧ f_Tra_placeOfRoot fu (nx B) (B + (2 + 7 * t)) (nI k) σ = some (nI i)) ∨ (NR P ≤ k ∧ f_Tra_placeOfRoot fu (nx B) (B + (2 + 7 * t)) (nI k) σ = some (-1)) := by
  obtain ⟨n1, n2⟩ := NR_un hP
  have n72 := (NR_le hP).1
  obtain ⟨x0, x7, x8, x10, x11, x12⟩ := rx_tr t ht
  obtain ⟨y3, y4, y5, y6, y7, y8⟩ := nx_tr t ht
  have key : ∀ (fl j : Nat), j ≤ UN P → 10 - j ≤ fl → smn j (mN P) ≤ k → (∃ i, ofk P k i ∧ l_Tra_placeOfRoot_10 fu (nx B) (B + (2 + 7 * t)) (nI k) σ fl (nI (smn j (mN P))) (nI j) (some (-1)) = some (nI i)) ∨ (NR P ≤ k ∧ l_Tra_placeOfRoot_10 fu (nx B) (B + (2 + 7 * t)) (nI k) σ fl (nI (smn j (mN P))) (nI j) (some (-1)) = some (-1)) := by
    intro fl
    induction fl with
    | zero => intro j h1 h2; omega
    | succ fl ih =>
      intro j h1 h2 h3
      rw [l_Tra_placeOfRoot_10, hv.2.2.2.1]
      by_cases hj : j = UN P
      · rw [hj, if_pos (nI_le (Nat.le_refl _) (by omega))]
        exact Or.inr ⟨by rw [n1, ← hj]; exact h3, rfl⟩
      · have hju : j < UN P := by omega
        have ml : rr_n (nI j) = j := n_nI (by omega)
        have rep := (hl j hju).2.2.2.2.2
        have es : smn (j + 1) (mN P) = smn j (mN P) + mN P j := rfl
        have mo := smn_mono (f := mN P) (j + 1) (UN P) (by omega)
        rw [if_neg (nI_ge (by omega) (by omega)), if_neg (show ¬ (8 : Int32) ≤ nI j from nI_ge (b := 8) (by omega) (by omega))]
        dsimp only [rr_lt]
        rw [hc (2 + 7 * t) 12 (by omega), x12, nx_at, y8, ix_nI (show j < 8 by omega) (by omega), if_pos rfl, ml, rep, nI_add, show smn j (mN P) + (mu P j).toNat = smn (j + 1) (mN P) from rfl]
        by_cases hle : smn (j + 1) (mN P) ≤ k
        · rw [if_pos (nI_le hle (by omega)), nI_1]
          exact ih (j + 1) (by omega) (by omega) hle
        · rw [if_neg (nI_ge (by omega) (by omega))]
          exact Or.inl ⟨j, ⟨hju, h3, by omega⟩, rfl⟩
  unfold f_Tra_placeOfRoot
  rw [if_pos (nI_pos' (by omega))]
  exact key fu 0 (by omega) (by omega) (Nat.zero_le _)
/-- what the class's floor says -/
theorem flr_b {P : Pl} (hP : pok P) (hd : 0 < dgg P) {i : Nat} {K : Int} (h1 : cX P (K - 1) ≤ i) (h2 : (i : Int) < cX P K) {F : Int} (hF : F = if exI P i K = 0 then K - 1 else K) : b0 P ((F : Rat) / (2 : Rat) ^ 12) ≤ i ∧ (i : Int) + 1 ≤ b0 P (((F + 1 : Int) : Rat) / (2 : Rat) ^ 12) := by
  have hdp := dep_pos hP hd
  have zK := zz_cn hP hd hdp ((K : Rat) / (2 : Rat) ^ 12)
  by_cases he : cX P K = (i : Int) + 1 ∧ zX P K = 1
  · have e1 : exI P i K = 1 := by unfold exI; rw [if_pos he]
    rw [e1, if_neg (by decide)] at hF
    subst hF
    have a := cn_lt hP hd hdp (gr_lt (X := F) (Y := F + 1) 12 (by omega))
    obtain ⟨he1, he2⟩ := he
    unfold b0
    unfold cX at he1 h2
    unfold zX at he2
    omega
  · have e1 : exI P i K = 0 := by unfold exI; rw [if_neg he]
    rw [e1, if_pos rfl] at hF
    subst hF
    have zK1 := zz_cn hP hd hdp (((K - 1 : Int) : Rat) / (2 : Rat) ^ 12)
    rw [show K - 1 + 1 = K by omega]
    unfold b0
    unfold cX at h1 h2 he
    unfold zX at he
    omega
theorem flr_F {P : Pl} (hP : pok P) (hd : 0 < dgg P) {i k s : Nat} {F : Int} (hs : s ≤ 12) (ho : ofk P k i) (h1 : b0 P ((F : Rat) / (2 : Rat) ^ 12) ≤ i) (h2 : (i : Int) + 1 ≤ b0 P (((F + 1 : Int) : Rat) / (2 : Rat) ^ 12)) : isF P k s (F / 2 ^ (12 - s)) := by
  obtain ⟨o1, o2, o3⟩ := ho
  have hp : (0 : Int) < 2 ^ (12 - s) := Int.pow_pos (by decide)
  have e : ∀ x : Int, (x : Rat) / (2 : Rat) ^ s = ((2 ^ (12 - s) * x : Int) : Rat) / (2 : Rat) ^ 12 := fun x => by
    have := rat_sh (X := 2 ^ (12 - s) * x) (x := x) (z := 12 - s) (F := 12) (by omega) rfl
    rw [show 12 - (12 - s) = s by omega] at this
    exact this
  have d1 := Int.mul_ediv_self_le (x := F) (k := 2 ^ (12 - s)) (by omega)
  have d2 := Int.lt_mul_ediv_self_add (x := F) hp
  have g1 := b0_mono hP hd (gr_le (X := 2 ^ (12 - s) * (F / 2 ^ (12 - s))) (Y := F) 12 d1)
  have g2 := b0_mono hP hd (gr_le (X := F + 1) (Y := 2 ^ (12 - s) * (F / 2 ^ (12 - s) + 1)) 12 (by rw [Int.mul_add]; omega))
  unfold isF
  rw [e, e, bN_sum hP hd, bN_sum hP hd]
  constructor
  · exact Nat.le_trans (smn_mono _ i (by omega)) o2
  · exact Nat.lt_of_lt_of_le o3 (smn_mono _ _ (by omega))
theorem fin_c (v : Int32) : (f_Roo_isFineness v = some 0 ∧ f_Mod_isIn v.toInt64 0 12 = some 0) ∨ ∃ s, s ≤ 12 ∧ v = nI s ∧ f_Roo_isFineness v = some 1 ∧ f_Mod_isIn v.toInt64 0 12 = some 1 := by
  have b0 : rr_b1 0 = true := by decide
  have b1 : rr_b1 1 = true := by decide
  rcases rng v 12 (by omega) with h | ⟨t, ht, e⟩
  · refine Or.inl ⟨?_, ?_⟩
    · unfold f_Roo_isFineness
      rw [b0, b1]
      by_cases h1 : v < 0
      · rw [if_pos h1, if_pos rfl]
      · rw [if_neg h1, if_pos, if_pos rfl]
        rw [Int32.lt_iff_toInt_lt] at h1 ⊢
        show (12 : Int) < _
        have : (0 : Int32).toInt = 0 := rfl
        omega
    · rw [isin_ok, if_neg]
      rw [Int32.toInt_toInt64]
      show ¬ ((0 : Int) ≤ _ ∧ _ ≤ (12 : Int))
      omega
  · refine Or.inr ⟨t, ht, e, ?_, ?_⟩
    · unfold f_Roo_isFineness
      rw [b0, b1, e, if_neg (nI_pos (by omega)), if_neg (show ¬ (12 : Int32) < nI t from nI_nlt (a := 12) (by omega) (by omega)), if_pos rfl]
    · rw [isin_ok, if_pos]
      rw [Int32.toInt_toInt64, e, nI_toInt (by omega)]
      show ((0 : Int) ≤ _ ∧ _ ≤ (12 : Int))
      omega
/-- on the way to the placed roots -/
theorem way {α : Type} {fu B t : Nat} {T : Nat → Pl} {σ : rr_M} (hfu : 400 < fu) (ht : t < 8) (hX : IXc B σ T) {k : rr_M → Option α} {Q : α → Prop} (hk : ∀ σ', crf B σ' → prvd B t σ' (T t) → plcd B t σ' (T t) → xok B T σ σ' → wq (k σ') Q) :
    wq (rr_bd (f_Lev_prove fu (nx B) (B + 306) (B + (2 + 7 * t)) σ) fun _ σ1 => rr_bd (f_Pla_place fu (nx B) (mg_r σ1 B 4) (B + (2 + 7 * t)) σ1) fun _ σ2 => k σ2) Q := by
  refine wq_bd (wq_mo (cpv hfu ht hX) ?_)
  rintro ⟨u, σ1⟩ ⟨c1, c2, c3⟩
  dsimp only at c1 c2 c3 ⊢
  rw [(roo_t c1.1).2.2.2.2.1]
  refine wq_bd (wq_mo (cpp hfu ht c1 c2) ?_)
  rintro ⟨u2, σ2⟩ ⟨d1, d2, d3, d4⟩
  exact hk σ2 d1.1 d2 d3 (xok_pf ht d1 (pfx_tr c3 d4))
def rtS (P : Pl) (v : Int32) (s : Nat) (r : Int64) : Prop := ((v.toInt < 0 ∨ (NR P : Int) ≤ v.toInt) ∧ r = -1000000000000000000) ∨ (0 ≤ v.toInt ∧ v.toInt < NR P ∧ isF P v.toInt.toNat s r.toInt)
theorem rtS_u {P : Pl} (hP : pok P) {v : Int32} {s : Nat} {a b : Int64} (h : rtS P v s a) (h' : rtS P v s b) : a = b := by
  rcases h with ⟨h1, h2⟩ | ⟨h1, h2, h3⟩ <;> rcases h' with ⟨g1, g2⟩ | ⟨g1, g2, g3⟩
  · rw [h2, g2]
  · omega
  · omega
  · exact j_inj (isF_u hP (NR_d (k := v.toInt.toNat) (by omega)) h3 g3)
theorem rot_x {fu B t s : Nat} {T : Nat → Pl} {σ : rr_M} {v : Int32} (hfu : 70000 < fu) (ht : t < 8) (hs : s ≤ 12) (hX : IXc B σ T) : wq (f_Roo_root fu (nx B) B (nI t) v (nI s) σ) (fun x => rtS (T t) v s x.1 ∧ xok B T σ x.2) := by
  obtain ⟨q0, q1, q2, q3, q4, q5, q6, q7, q8⟩ := roo_t hX.1
  obtain ⟨b1, b2, b3⟩ := hX.2.2.2 t ht
  obtain ⟨x0, x7, x8, x10, x11, x12⟩ := rx_tr t ht
  obtain ⟨y3, y4, y5, y6, y7, y8⟩ := nx_tr t ht
  have fs : f_Roo_isFineness (nI s) = some 1 := by
    unfold f_Roo_isFineness
    rw [if_neg (nI_pos (by omega)), if_neg (show ¬ (12 : Int32) < nI s from nI_nlt (a := 12) (by omega) (by omega)), if_pos (by decide)]
  unfold f_Roo_root
  dsimp only [rr_lt]
  rw [(tr_1 ht).1, fs, q0, n_nI (show t < 2 ^ 31 by omega), (q7 t ht).1, q3]
  refine wq_ob (wq_some (wq_in (by decide) (wq_ob (wq_some (wq_in (by decide) (wq_ip (q8 t ht) (way (by omega) ht hX (fun σ' c1 c2 c3 c4 => ?_))))))))
  by_cases hneg : v.toInt < 0
  · have e : f_Tra_placeOfRoot fu (nx B) (B + (2 + 7 * t)) v σ' = some (-1) := by
      unfold f_Tra_placeOfRoot
      rw [if_neg]
      rw [Int32.le_iff_toInt_le]
      show ¬ (0 : Int) ≤ _
      omega
    rw [e]
    exact wq_ob (wq_some (wq_ip (by decide) (wq_some ⟨Or.inl ⟨Or.inl hneg, rfl⟩, c4⟩)))
  obtain ⟨k, hk, rfl⟩ : ∃ k, k < 2147483648 ∧ v = nI k := ⟨v.toInt.toNat, by have := Int32.toInt_lt v; omega, Int32.toInt_inj.mp (by rw [nI_toInt (by have := Int32.toInt_lt v; omega)]; omega)⟩
  have tk : (nI k).toInt = k := nI_toInt (by omega)
  rcases por_ok (fu := fu) (by omega) ht b1 c1 c2 c3 hk with ⟨i, ho, e⟩ | ⟨hN, e⟩
  rotate_left
  · rw [e]
    exact wq_ob (wq_some (wq_ip (by decide) (wq_some ⟨Or.inl ⟨Or.inr (by rw [tk]; omega), rfl⟩, c4⟩)))
  rw [e]
  have hi8 := (NR_un b1).2
  have hiu := ho.1
  obtain ⟨hd, eU⟩ := UN_d hiu
  obtain ⟨g1, g2, g3, g4, g5, g6⟩ := c3 i hiu
  refine wq_ob (wq_some (wq_in (nI_pos (by omega)) (wq_ip (show nI i < 8 from nI_lt (b := 8) (by omega) (by omega)) ?_)))
  have ix : ∀ o, NX o = 8 → rr_ix (nI i) (nx B (B + o)) = true := fun o h => by rw [nx_at, h]; exact ix_nI (by omega) (by omega)
  obtain ⟨K, hK⟩ : ∃ K, K = mg_l σ' (B + (6 + 7 * t)) i := ⟨_, rfl⟩
  rw [← hK] at g1 g2 g3 g4 g5
  have hfl : ∃ Fl : Int64, f_Tra_floorOf (nx B) (B + (2 + 7 * t)) (nI i) σ' = some Fl ∧ Fl.toInt = (if exI (T t) i K.toInt = 0 then K.toInt - 1 else K.toInt) := by
    unfold f_Tra_floorOf
    dsimp only [rr_lt]
    rw [if_neg (nI_pos (by omega)), if_pos (show nI i < 8 from nI_lt (b := 8) (by omega) (by omega)), c1 (2 + 7 * t) 11 (by omega), x11, c1 (2 + 7 * t) 10 (by omega), x10, ix _ y7, if_pos rfl, ix _ y6, if_pos rfl, n_nI (by omega), g5, ← hK]
    by_cases hz : exI (T t) i K.toInt = 0
    · rw [if_pos hz, if_pos hz]
      exact ⟨_, rfl, j_sub (by show _ ≤ _ - (1 : Int); omega) (by show _ - (1 : Int) < _; omega)⟩
    · rw [if_neg hz, if_neg hz]
      exact ⟨_, rfl, rfl⟩
  obtain ⟨Fl, e1, e2⟩ := hfl
  rw [e1]
  refine wq_ob (wq_some (wq_some ⟨Or.inr ⟨by rw [tk]; omega, ?_, ?_⟩, c4⟩))
  · rw [tk]
    have := ho.2.2
    have := smn_mono (f := mN (T t)) (i + 1) (UN (T t)) (by omega)
    have := (NR_un b1).1
    omega
  · rw [tk]
    obtain ⟨w1, w2⟩ := flr_b b1 hd g3 g4 e2
    have e12 : (12 : Int32) - nI s = nI (12 - s) := nI_sub (a := 12) hs
    show isF (T t) ((k : Int).toNat) s (Fl >>> ((12 - nI s).toInt64 &&& 63)).toInt
    rw [e12, jshr Fl (show 12 - s < 64 by omega)]
    exact flr_F b1 hd hs ho w1 w2
theorem rot_m {fu C t s : Nat} {T : Nat → Pl} {σm : rr_M} {v : Int32} (hfu : 70000 < fu) (ht : t < 8) (hs : s ≤ 12) (hM : IMc C σm T) (b1 : pok (T t)) : wq (f_Mod_root fu (nm C) C (nI t) v (nI s) σm) (fun y => rtS (T t) v s y.1 ∧ mok C T σm y.2) := by
  obtain ⟨hM1, FM1⟩ := imc_0 (v := 0) hM
  have fs : f_Mod_isIn (nI s).toInt64 0 12 = some 1 := by
    rw [isin_ok, if_pos]
    rw [Int32.toInt_toInt64, nI_toInt (by omega)]
    show ((0 : Int) ≤ _ ∧ _ ≤ (12 : Int))
    omega
  have nr := (NR_le b1).1
  unfold f_Mod_root f_Mod_isRoot
  dsimp only [rr_lt]
  rw [fs, (tr_1 ht).2 C]
  refine wq_ob (wq_some (wq_in (by decide) (wq_bd (wq_ob (wq_some (wq_in (by decide) ?_))))))
  by_cases hneg : v.toInt < 0
  · refine wq_in ?_ (wq_ip (by decide) (wq_some (wq_ip rfl (wq_some ⟨Or.inl ⟨Or.inl hneg, rfl⟩, hM1, FM1⟩))))
    rw [Int32.le_iff_toInt_le]
    show ¬ (0 : Int) ≤ _
    omega
  obtain ⟨k, hk, rfl⟩ : ∃ k, k < 2147483648 ∧ v = nI k := ⟨v.toInt.toNat, by have := Int32.toInt_lt v; omega, Int32.toInt_inj.mp (by rw [nI_toInt (by have := Int32.toInt_lt v; omega)]; omega)⟩
  have tk : (nI k).toInt = k := nI_toInt (by omega)
  refine wq_ip (nI_pos' (by omega)) (wq_bd (wq_mo (mly hfu ht hM1 b1) ?_))
  rintro ⟨u, σ'⟩ ⟨c1, c2, Y, c3⟩
  dsimp only at c1 c2 c3 ⊢
  rw [rts_ok hfu b1 c3]
  refine wq_ob (wq_some ?_)
  by_cases hN : NR (T t) ≤ k
  · exact wq_ip (nI_le hN (by omega)) (wq_ip (by decide) (wq_some (wq_ip rfl (wq_some ⟨Or.inl ⟨Or.inr (by rw [tk]; omega), rfl⟩, c1, mfr_tr FM1 c2⟩))))
  refine wq_in (nI_ge (by omega) (by omega)) (wq_ip (by decide) (wq_some (wq_in (show ¬ (1 : Int32) = 0 by decide) (wq_bd (wq_mo (flo_ok hfu b1 c3 (show k < NR (T t) by omega) hs) ?_)))))
  rintro ⟨r, σ2⟩ ⟨d1, d2, d3, d4, Y', d5⟩
  dsimp only at d1 d4 d5 ⊢
  exact wq_some ⟨Or.inr ⟨by rw [tk]; omega, by rw [tk]; omega, by rw [tk]; exact d1⟩, imc_mfr c1 (frm_mfr d4) d5.1, mfr_tr FM1 (mfr_tr c2 (frm_mfr d4))⟩
theorem op_root_ok {fu B C : Nat} (hfu : 70000 < fu) : op_root fu B C (Inv B C) := by
  rintro a1 a2 a3 σx σm ⟨T, hX, hM, hT⟩
  obtain ⟨hM1, FM1⟩ := imc_0 (v := 0) hM
  rcases try_c a1 with ⟨e1, e2⟩ | ⟨t, ht, rfl, e1, e2⟩
  · refine op_cb (T := T) (-1000000000000000000) hT ?_ ?_
    · unfold f_Roo_root
      rw [e1]
      exact wq_ob (wq_some (wq_ip rfl (wq_some ⟨rfl, xok_rf hX⟩)))
    · unfold f_Mod_root f_Mod_isRoot
      dsimp only [rr_lt]
      rw [e2 C]
      rcases fin_c a3 with ⟨_, f2⟩ | ⟨s, hs, _, _, f2⟩
      · rw [f2]
        exact wq_ob (wq_some (wq_ip rfl (wq_some ⟨rfl, hM1, FM1⟩)))
      · rw [f2]
        exact wq_ob (wq_some (wq_in (by decide) (wq_bd (wq_ob (wq_some (wq_ip rfl (wq_ip (by decide) (wq_some (wq_ip rfl (wq_some ⟨rfl, hM1, FM1⟩))))))))))
  rcases fin_c a3 with ⟨f1, f2⟩ | ⟨s, hs, rfl, f1, f2⟩
  · refine op_cb (T := T) (-1000000000000000000) hT ?_ ?_
    · unfold f_Roo_root
      rw [e1, f1]
      exact wq_ob (wq_some (wq_in (by decide) (wq_ob (wq_some (wq_ip rfl (wq_some ⟨rfl, xok_rf hX⟩))))))
    · unfold f_Mod_root
      dsimp only [rr_lt]
      rw [f2]
      exact wq_ob (wq_some (wq_ip rfl (wq_some ⟨rfl, hM1, FM1⟩)))
  obtain ⟨b1, _, _⟩ := hX.2.2.2 t ht
  exact op_cr (T := T) (rtS (T t) a2 s) (fun a b h h' => rtS_u b1 h h') hT (rot_x hfu ht hs hX) (rot_m hfu ht hs hM b1)
