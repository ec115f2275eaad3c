/-! ===== often, between ===== -/
def ofS (P : Pl) (v : Int32) (r : Int32) : Prop := ((v.toInt < 0 ∨ (NR P : Int) ≤ v.toInt) ∧ r = -1) ∨ (0 ≤ v.toInt ∧ v.toInt < NR P ∧ ∃ i, ofk P v.toInt.toNat i ∧ r = nI (mN P i))
theorem ofS_u {P : Pl} {v : Int32} {a b : Int32} (h : ofS P v a) (h' : ofS P v b) : a = b := by
  rcases h with ⟨h1, h2⟩ | ⟨h1, h2, i, h3, h4⟩ <;> rcases h' with ⟨g1, g2⟩ | ⟨g1, g2, j, g3, g4⟩
  · rw [h2, g2]
  · omega
  · omega
  · rw [h4, g4, ofk_u h3 g3]
theorem oft_x {fu B t : Nat} {T : Nat → Pl} {σ : rr_M} {v : Int32} (hfu : 70000 < fu) (ht : t < 8) (hX : IXc B σ T) : wq (f_Roo_often fu (nx B) B (nI t) v σ) (fun x => ofS (T t) v x.1 ∧ xok B T σ x.2) := by
  obtain ⟨q0, q1, q2, q3, q4, q5, q6, q7, q8⟩ := roo_t hX.1
  obtain ⟨b1, b2, b3⟩ := hX.2.2.2 t ht
  obtain ⟨x0, x7, x8, x10, x11, x12⟩ := rx_tr t ht
  obtain ⟨y3, y4, y5, y6, y7, y8⟩ := nx_tr t ht
  unfold f_Roo_often
  dsimp only [rr_lt]
  rw [(tr_1 ht).1, q0, n_nI (show t < 2 ^ 31 by omega), (q7 t ht).1, q3]
  refine wq_ob (wq_some (wq_in (by decide) (wq_ip (q8 t ht) (way (by omega) ht hX (fun σ' c1 c2 c3 c4 => ?_)))))
  by_cases hneg : v.toInt < 0
  · have e : f_Tra_placeOfRoot fu (nx B) (B + (2 + 7 * t)) v σ' = some (-1) := by
      unfold f_Tra_placeOfRoot
      rw [if_neg]
      rw [Int32.le_iff_toInt_le]
      show ¬ (0 : Int) ≤ _
      omega
    rw [e]
    exact wq_ob (wq_some (wq_ip (by decide) (wq_some ⟨Or.inl ⟨Or.inl hneg, rfl⟩, c4⟩)))
  obtain ⟨k, hk, rfl⟩ : ∃ k, k < 2147483648 ∧ v = nI k := ⟨v.toInt.toNat, by have := Int32.toInt_lt v; omega, Int32.toInt_inj.mp (by rw [nI_toInt (by have := Int32.toInt_lt v; omega)]; omega)⟩
  have tk : (nI k).toInt = k := nI_toInt (by omega)
  rcases por_ok (fu := fu) (by omega) ht b1 c1 c2 c3 hk with ⟨i, ho, e⟩ | ⟨hN, e⟩
  rotate_left
  · rw [e]
    exact wq_ob (wq_some (wq_ip (by decide) (wq_some ⟨Or.inl ⟨Or.inr (by rw [tk]; omega), rfl⟩, c4⟩)))
  rw [e]
  have hi8 := (NR_un b1).2
  have hiu := ho.1
  refine wq_ob (wq_some (wq_in (nI_pos (by omega)) (wq_ip (show nI i < 8 from nI_lt (b := 8) (by omega) (by omega)) ?_)))
  rw [c1 (2 + 7 * t) 12 (by omega), x12, n_nI (show i < 2 ^ 31 by omega), (c3 i hiu).2.2.2.2.2]
  refine wq_ip (by rw [nx_at, y8]; exact ix_nI (by omega) (by omega)) (wq_some ⟨Or.inr ⟨by rw [tk]; omega, ?_, i, by rw [tk]; exact ho, rfl⟩, c4⟩)
  rw [tk]
  have := ho.2.2
  have := smn_mono (f := mN (T t)) (i + 1) (UN (T t)) (by omega)
  have := (NR_un b1).1
  omega
theorem ofl_m {fu C k : Nat} {σ0 : rr_M} {P : Pl} (hfu : 70000 < fu) (hP : pok P) (hk : k < NR P) {Q : Int32 × rr_M → Prop} (hq : ∀ σ Y i, lyd C (DP P) σ Y P → frm C σ0 σ → ofk P k i → Q (nI (mN P i), σ)) :
    ∀ (fl j : Nat) (σ : rr_M) (Y : Nat → Int), j ≤ UN P → 10 - j ≤ fl → smn j (mN P) ≤ k → lyd C (DP P) σ Y P → frm C σ0 σ → wq (l_Mod_often_21 fu (nm C) C (nI k) fl (nI (smn j (mN P))) (nI j) σ (fun σ => some (-1, σ))) Q
  | 0, j, σ, Y, h1, h2, _, _, _ => by
    have := (NR_un hP).2
    omega
  | fl + 1, j, σ, Y, h1, h2, h3, hV, hF => by
    obtain ⟨n1, n2⟩ := NR_un hP
    have n72 := (NR_le hP).1
    have hd := NR_d hk
    have hD : 0 < DP P := by unfold DP; rw [if_pos hd]; exact dep_pos hP hd
    have eU : UN P = rn P 0 := if_pos hD
    rw [l_Mod_often_21]
    rw [show f_Mod_realRoots fu (nm C) C 0 σ = some (nI (rn P 0)) from rrt_ok hfu hP hV hD]
    refine wq_ob (wq_some ?_)
    have hju : j < UN P := by
      apply Nat.lt_of_le_of_ne h1
      intro hh
      rw [hh, ← n1] at h3
      omega
    refine wq_in (nI_ge (by omega) (by omega)) (wq_bd (wq_mo (oft_ok hfu hP hd (show j < rn P 0 by omega) hV) ?_))
    rintro ⟨r, σ1⟩ ⟨e1, F1, Y1, V1⟩
    dsimp only [rr_lt] at e1 F1 V1 ⊢
    have es : smn (j + 1) (mN P) = smn j (mN P) + mN P j := rfl
    have mo := smn_mono (f := mN P) (j + 1) (UN P) (by omega)
    rw [e1, nI_add, ← es]
    by_cases hle : smn (j + 1) (mN P) ≤ k
    · refine wq_ip (nI_le hle (by omega)) ?_
      rw [nI_1]
      exact ofl_m hfu hP hk hq fl (j + 1) σ1 Y1 (by omega) (by omega) hle V1 (frm_tr hF F1)
    · exact wq_in (nI_ge (by omega) (by omega)) (wq_some (hq σ1 Y1 j V1 (frm_tr hF F1) ⟨hju, h3, by omega⟩))
theorem oft_m {fu C t : Nat} {T : Nat → Pl} {σm : rr_M} {v : Int32} (hfu : 70000 < fu) (ht : t < 8) (hM : IMc C σm T) (b1 : pok (T t)) : wq (f_Mod_often fu (nm C) C (nI t) v σm) (fun y => ofS (T t) v y.1 ∧ mok C T σm y.2) := by
  obtain ⟨hM1, FM1⟩ := imc_0 (v := 0) hM
  have nr := (NR_le b1).1
  unfold f_Mod_often f_Mod_isRoot
  dsimp only [rr_lt]
  rw [(tr_1 ht).2 C]
  refine wq_bd (wq_ob (wq_some (wq_in (by decide) ?_)))
  by_cases hneg : v.toInt < 0
  · refine wq_in ?_ (wq_ip (by decide) (wq_some (wq_ip rfl (wq_some ⟨Or.inl ⟨Or.inl hneg, rfl⟩, hM1, FM1⟩))))
    rw [Int32.le_iff_toInt_le]
    show ¬ (0 : Int) ≤ _
    omega
  obtain ⟨k, hk, rfl⟩ : ∃ k, k < 2147483648 ∧ v = nI k := ⟨v.toInt.toNat, by have := Int32.toInt_lt v; omega, Int32.toInt_inj.mp (by rw [nI_toInt (by have := Int32.toInt_lt v; omega)]; omega)⟩
  have tk : (nI k).toInt = k := nI_toInt (by omega)
  refine wq_ip (nI_pos' (by omega)) (wq_bd (wq_mo (mly hfu ht hM1 b1) ?_))
  rintro ⟨u, σ'⟩ ⟨c1, c2, Y, c3⟩
  dsimp only at c1 c2 c3 ⊢
  rw [rts_ok hfu b1 c3]
  refine wq_ob (wq_some ?_)
  by_cases hN : NR (T t) ≤ k
  · exact wq_ip (nI_le hN (by omega)) (wq_ip (by decide) (wq_some (wq_ip rfl (wq_some ⟨Or.inl ⟨Or.inr (by rw [tk]; omega), rfl⟩, c1, mfr_tr FM1 c2⟩))))
  refine wq_in (nI_ge (by omega) (by omega)) (wq_ip (by decide) (wq_some (wq_in (show ¬ (1 : Int32) = 0 by decide) ?_)))
  exact ofl_m (σ0 := σ') hfu b1 (show k < NR (T t) by omega) (fun σ2 Y2 i V2 F2 ho => ⟨Or.inr ⟨by rw [tk]; omega, by rw [tk]; omega, i, by rw [tk]; exact ho, rfl⟩, imc_mfr c1 (frm_mfr F2) V2.1, mfr_tr FM1 (mfr_tr c2 (frm_mfr F2))⟩) fu 0 σ' Y (by omega) (by omega) (Nat.zero_le _) c3 (frm_rfl _ _)
theorem op_often_ok {fu B C : Nat} (hfu : 70000 < fu) : op_often fu B C (Inv B C) := by
  rintro a1 a2 σx σm ⟨T, hX, hM, hT⟩
  obtain ⟨hM1, FM1⟩ := imc_0 (v := 0) hM
  rcases try_c a1 with ⟨e1, e2⟩ | ⟨t, ht, rfl, e1, e2⟩
  · refine op_cb (T := T) (-1) hT ?_ ?_
    · unfold f_Roo_often
      rw [e1]
      exact wq_ob (wq_some (wq_ip rfl (wq_some ⟨rfl, xok_rf hX⟩)))
    · unfold f_Mod_often f_Mod_isRoot
      dsimp only [rr_lt]
      rw [e2 C]
      exact wq_bd (wq_ob (wq_some (wq_ip rfl (wq_ip (by decide) (wq_some (wq_ip rfl (wq_some ⟨rfl, hM1, FM1⟩)))))))
  obtain ⟨b1, _, _⟩ := hX.2.2.2 t ht
  exact op_cr (T := T) (ofS (T t) a2) (fun a b h h' => ofS_u h h') hT (oft_x hfu ht hX) (oft_m hfu ht hM b1)
theorem rut_x {fu B t : Nat} {σ : rr_M} {P : Pl} {v : Int32} (hfu : 400 < fu) (ht : t < 8) (hP : pok P) (hc : crf B σ) (hv : prvd B t σ P) (hl : plcd B t σ P) : f_Tra_rootsUpTo fu (nx B) (B + (2 + 7 * t)) v σ = some (nI (TN P ((v.toInt : Rat) / (2 : Rat) ^ 0))) := by
  obtain ⟨n1, n2⟩ := NR_un hP
  have n72 := (NR_le hP).1
  obtain ⟨x0, x7, x8, x10, x11, x12⟩ := rx_tr t ht
  obtain ⟨y3, y4, y5, y6, y7, y8⟩ := nx_tr t ht
  have vl1 := Int32.toInt_lt v
  have vl2 := Int32.le_toInt v
  obtain ⟨X, hX⟩ : ∃ X, X = v.toInt64 <<< ((12 : Int32).toInt64 &&& 63) := ⟨_, rfl⟩
  have eX : X.toInt = v.toInt * 4096 := by
    rw [hX, show ((12 : Int32).toInt64 &&& 63) = ((nI 12).toInt64 &&& 63) from rfl, jshl _ (show 12 < 64 by omega) (by rw [Int32.toInt_toInt64]; omega) (by rw [Int32.toInt_toInt64]; omega), Int32.toInt_toInt64]
    rfl
  have egr : ((v.toInt : Int) : Rat) / (2 : Rat) ^ 0 = (X.toInt : Rat) / (2 : Rat) ^ 12 := by
    have := rat_sh (X := X.toInt) (x := v.toInt) (z := 12) (F := 12) (by omega) (by rw [eX, Int.mul_comm]; rfl)
    exact this
  obtain ⟨c, hcc⟩ : ∃ c, c = if 0 < dgg P then (cX P X.toInt).toNat else 0 := ⟨_, rfl⟩
  have hTN : TN P (((v.toInt : Int) : Rat) / (2 : Rat) ^ 0) = smn c (mN P) ∧ c ≤ UN P := by
    by_cases hd : 0 < dgg P
    · have hD : 0 < DP P := by unfold DP; rw [if_pos hd]; exact dep_pos hP hd
      have eU : UN P = rn P 0 := if_pos hD
      have rg := cX_rg hP hd X.toInt
      have d := rl_0 hP hd
      rw [egr, TN_sum hP hd, hcc, if_pos hd]
      exact ⟨rfl, by omega⟩
    · have e : DP P = 0 := if_neg hd
      rw [hcc, if_neg hd]
      refine ⟨?_, Nat.zero_le _⟩
      unfold TN
      rw [e]
      rfl
  obtain ⟨hT1, hT2⟩ := hTN
  have key : ∀ (fl j : Nat), j ≤ UN P → 10 - j ≤ fl → l_Tra_rootsUpTo_12 fu (nx B) (B + (2 + 7 * t)) X σ fl (nI (smn (min j c) (mN P))) (nI j) (fun v => some v) = some (nI (smn c (mN P))) := by
    intro fl
    induction fl with
    | zero => intro j h1 h2; omega
    | succ fl ih =>
      intro j h1 h2
      rw [l_Tra_rootsUpTo_12, hv.2.2.2.1]
      by_cases hj : j = UN P
      · rw [hj, if_pos (nI_le (Nat.le_refl _) (by omega)), show min (UN P) c = c by omega]
      · have hju : j < UN P := by omega
        obtain ⟨hd, eU⟩ := UN_d hju
        have ml : rr_n (nI j) = j := n_nI (by omega)
        obtain ⟨g1, g2, g3, g4, g5, g6⟩ := hl j hju
        have ec : c = (cX P X.toInt).toNat := by rw [hcc, if_pos hd]
        have rg := cX_rg hP hd X.toInt
        rw [if_neg (nI_ge (by omega) (by omega)), if_neg (show ¬ (8 : Int32) ≤ nI j from nI_ge (b := 8) (by omega) (by omega))]
        dsimp only [rr_lt, rr_jn]
        rw [hc (2 + 7 * t) 10 (by omega), x10, nx_at, y6, ix_nI (show j < 8 by omega) (by omega), if_pos rfl, ml, hc (2 + 7 * t) 12 (by omega), x12, nx_at, y8, ix_nI (show j < 8 by omega) (by omega), if_pos rfl, g6, nI_1]
        have ih' := ih (j + 1) (by omega) (by omega)
        by_cases hlt : X < mg_l σ (B + (6 + 7 * t)) j
        · rw [if_pos hlt]
          rw [Int64.lt_iff_toInt_lt] at hlt
          have mo := cX_mono hP hd (show X.toInt ≤ (mg_l σ (B + (6 + 7 * t)) j).toInt - 1 by omega)
          rw [show min (j + 1) c = min j c by omega] at ih'
          exact ih'
        · rw [if_neg hlt, nI_add]
          rw [Int64.lt_iff_toInt_lt] at hlt
          have mo := cX_mono hP hd (show (mg_l σ (B + (6 + 7 * t)) j).toInt ≤ X.toInt by omega)
          rw [show min (j + 1) c = j + 1 by omega] at ih'
          rw [show min j c = j by omega, show smn j (mN P) + (mu P j).toNat = smn (j + 1) (mN P) from rfl]
          exact ih'
  unfold f_Tra_rootsUpTo
  dsimp only [rr_lt]
  rw [← hX, hT1]
  have := key fu 0 (by omega) (by omega)
  rw [show min 0 c = 0 by omega] at this
  exact this
theorem op_between_ok {fu B C : Nat} (hfu : 70000 < fu) : op_between fu B C (Inv B C) := by
  rintro a1 a2 a3 σx σm ⟨T, hX, hM, hT⟩
  obtain ⟨hM1, FM1⟩ := imc_0 (v := 0) hM
  rcases try_c a1 with ⟨e1, e2⟩ | ⟨t, ht, rfl, e1, e2⟩
  · refine op_cb (T := T) (-1) hT ?_ ?_
    · unfold f_Roo_between
      rw [e1]
      exact wq_ob (wq_some (wq_ip rfl (wq_some ⟨rfl, xok_rf hX⟩)))
    · unfold f_Mod_between
      dsimp only [rr_lt]
      rw [e2 C]
      exact wq_ob (wq_some (wq_ip rfl (wq_some ⟨rfl, hM1, FM1⟩)))
  obtain ⟨q0, q1, q2, q3, q4, q5, q6, q7, q8⟩ := roo_t hX.1
  obtain ⟨b1, _, _⟩ := hX.2.2.2 t ht
  by_cases hab : a2 ≤ a3
  rotate_left
  · refine op_cb (T := T) (-1) hT ?_ ?_
    · unfold f_Roo_between
      rw [e1]
      exact wq_ob (wq_some (wq_in (by decide) (wq_in hab (wq_some ⟨rfl, xok_rf hX⟩))))
    · unfold f_Mod_between
      dsimp only [rr_lt]
      rw [e2 C]
      exact wq_ob (wq_some (wq_in (by decide) (wq_in hab (wq_some ⟨rfl, hM1, FM1⟩))))
  refine op_cb (T := T) (nI (TN (T t) ((a3.toInt : Rat) / (2 : Rat) ^ 0)) - nI (TN (T t) ((a2.toInt : Rat) / (2 : Rat) ^ 0))) hT ?_ ?_
  · unfold f_Roo_between
    dsimp only [rr_lt]
    rw [e1, q0, n_nI (show t < 2 ^ 31 by omega), (q7 t ht).1, q3]
    refine wq_ob (wq_some (wq_in (by decide) (wq_ip hab (wq_ip (q8 t ht) (way (by omega) ht hX (fun σ' c1 c2 c3 c4 => ?_))))))
    rw [rut_x (by omega) ht b1 c1 c2 c3, rut_x (by omega) ht b1 c1 c2 c3]
    exact wq_ob (wq_some (wq_ob (wq_some (wq_some ⟨rfl, c4⟩))))
  · unfold f_Mod_between
    dsimp only [rr_lt]
    rw [e2 C]
    refine wq_ob (wq_some (wq_in (by decide) (wq_ip hab (wq_bd (wq_mo (mly hfu ht hM1 b1) ?_)))))
    rintro ⟨u, σ'⟩ ⟨c1, c2, Y, c3⟩
    dsimp only at c1 c2 c3 ⊢
    have l2 := Int32.le_toInt a2
    have l3 := Int32.le_toInt a3
    refine wq_bd (wq_mo (upt_ok (s := 0) (v := a3.toInt64) hfu b1 c3 (by rw [Int32.toInt_toInt64]; omega) (by omega)) ?_)
    rintro ⟨r1, σ1⟩ ⟨d1, d2, Y1, d3, _⟩
    dsimp only at d1 d2 d3 ⊢
    refine wq_bd (wq_mo (upt_ok (s := 0) (v := a2.toInt64) hfu b1 d3 (by rw [Int32.toInt_toInt64]; omega) (by omega)) ?_)
    rintro ⟨r2, σ2⟩ ⟨f1, f2, Y2, f3, _⟩
    dsimp only at f1 f2 f3 ⊢
    rw [d1, f1, Int32.toInt_toInt64, Int32.toInt_toInt64]
    exact wq_some ⟨rfl, imc_mfr (imc_mfr c1 (frm_mfr d2) d3.1) (frm_mfr f2) f3.1, mfr_tr FM1 (mfr_tr c2 (mfr_tr (frm_mfr d2) (frm_mfr f2)))⟩
