/-! ===== p at x + a by the model; operate ===== -/
theorem psF_sz {a : Int} {c : Nat → Int} {E : Nat} (ha : szb 10 a) (hc : ∀ j, j ≤ 8 → szb E (c j)) : ∀ m, m ≤ 8 → szb (E + 11 * m) (psF a c m)
  | 0, _ => hc 8 (by omega)
  | m + 1, hm => by
    have ih := psF_sz ha hc m (by omega)
    show szb _ (c (7 - m) + a * psF a c m)
    have h1 : szb (E + 11 * m + 10) (c (7 - m)) := szb_mono (hc (7 - m) (by omega)) (by omega)
    have h2 : szb (E + 11 * m + 10) (a * psF a c m) := szb_mono (szb_mul ha ih) (by omega)
    exact szb_mono (szb_add h1 h2) (by omega)
theorem sh_sz {P : Nat → Int} {a : Int} (hP : ∀ j, b8 (P j)) (ha : szb 10 a) : ∀ i j, j ≤ 8 → szb (27 + 100 * i) (shR P a i j)
  | 0, j, _ => szb_8 (by omega) (hP j).1 (hP j).2
  | i + 1, j, hj => by
    have ih := sh_sz hP ha i
    show szb _ (if j < i ∨ 8 < j then shR P a i j else psF a (shR P a i) (8 - j))
    split
    · exact szb_mono (ih j hj) (by omega)
    · exact szb_mono (psF_sz ha ih (8 - j) (by omega)) (by omega)
theorem mid_sz {P : Nat → Int} {a : Int} {i k' j : Nat} (hP : ∀ j, b8 (P j)) (ha : szb 10 a) (hi : i ≤ 7) (hj : j ≤ 8) : szb 900 (mid P a i k' j) := by
  unfold mid
  split
  · exact szb_mono (sh_sz hP ha (i + 1) j hj) (by omega)
  · exact szb_mono (sh_sz hP ha i j hj) (by omega)
theorem mvi_l {fu C i : Nat} {σ0 : rr_M} {P : Nat → Int} {a : Int} (hfu : 70000 < fu) (hi : i ≤ 7) (hP : ∀ j, b8 (P j)) (ha : szb 10 a) {kk : rr_M → Option (Int32 × rr_M)} {Q : Int32 × rr_M → Prop}
    (hk : ∀ σ Y, LM C σ Y → frm C σ0 σ → Y 0 = a → (∀ j, j < 9 → Y (slt 36 j) = mid P a i i j) → wq (kk σ) Q) :
    ∀ (fl k' : Nat) (σ : rr_M) (Y : Nat → Int), i ≤ k' → k' ≤ 8 → k' + 1 ≤ fl → LM C σ Y → frm C σ0 σ → Y 0 = a → (∀ j, j < 9 → Y (slt 36 j) = mid P a i k' j) → wq (l_Mod_moves_26 fu (nm C) C (nI i) fl (nI k' + (-1)) σ kk) Q
  | 0, k', σ, Y, _, h1, h2, _, _, _, _ => by omega
  | fl + 1, k', σ, Y, h0, h1, h2, hY, hF, hA, hV => by
    rw [l_Mod_moves_26]
    by_cases hki : k' = i
    · subst hki
      refine wq_ip ?_ (hk σ Y hY hF hA hV)
      by_cases h00 : k' = 0
      · subst h00; decide
      · rw [nI_m (by omega)]
        exact nI_lt (by omega) (by omega)
    have hpos : 0 < k' := by omega
    obtain ⟨k, rfl⟩ : ∃ k, k' = k + 1 := ⟨k' - 1, by omega⟩
    rw [nI_m hpos, Nat.add_sub_cancel]
    refine wq_in (nI_nlt (by omega) (by omega)) ?_
    have m1 : mid P a i (k + 1) k = shR P a i k := if_neg (by omega)
    have m2 : mid P a i (k + 1) (k + 1) = shR P a (i + 1) (k + 1) := if_pos (by omega)
    have v1 := hV k (by omega)
    have v2 := hV (k + 1) (by omega)
    rw [m1] at v1
    rw [m2] at v2
    have s1 : szb 900 (Y (slt 36 k)) := by rw [v1]; exact szb_mono (sh_sz hP ha i k (by omega)) (by omega)
    have s2 : szb 900 (Y (slt 36 (k + 1))) := by rw [v2]; exact szb_mono (sh_sz hP ha (i + 1) (k + 1) (by omega)) (by omega)
    have sa : szb 10 (Y 0) := by rw [hA]; exact ha
    have sl1 := slt_lt (r := 36) (k := k) (by omega) (by omega)
    have sl2 := slt_lt (r := 36) (k := k + 1) (by omega) (by omega)
    rw [nI_1, show (36 : Int32) = nI 36 from rfl, slot_ok, slot_ok]
    refine wq_ob (wq_some ?_)
    refine wq_bd (wq_mo (mo_mulb (t := 1) (a := slt 36 (k + 1)) (b := 0) hfu hY (by omega) sl2 (by omega) (by unfold slt; omega) (by omega) s2 sa (by omega)) ?_)
    rintro ⟨x1, σ1⟩ ⟨L1, F1⟩
    dsimp only at L1 F1 ⊢
    refine wq_ob (wq_some (wq_ob (wq_some ?_)))
    have y1 : yup Y 1 (Y (slt 36 (k + 1)) * Y 0) (slt 36 k) = Y (slt 36 k) := yup_n (by unfold slt; omega)
    have y2 : yup Y 1 (Y (slt 36 (k + 1)) * Y 0) 1 = Y (slt 36 (k + 1)) * Y 0 := yup_s _ _ _
    refine wq_bd (wq_mo (mo_addb (t := slt 36 k) (a := slt 36 k) (b := 1) (e := 1) (e1 := 910) hfu L1 sl1 sl1 (by omega) (Or.inl rfl) (by decide) (by rw [y1]; exact szb_mono s1 (by omega)) (by rw [y2]; exact szb_mono (szb_mul s2 sa) (by omega)) (by omega)) ?_)
    rintro ⟨x2, σ2⟩ ⟨L2, F2⟩
    dsimp only [rr_lt] at L2 F2 ⊢
    refine mvi_l hfu hi hP ha hk fl k σ2 _ (by omega) (by omega) (by omega) L2 (frm_tr hF (frm_tr F1 F2)) ?_ (fun j hj => ?_)
    · rw [yup_n (by unfold slt; omega), yup_n (by omega)]
      exact hA
    · by_cases hjk : j = k
      · subst hjk
        rw [yup_s, y1, y2, v1, v2, hA]
        show _ = (if j ≤ j ∧ j ≤ 8 then shR P a (i + 1) j else shR P a i j)
        have st := shR_s P a (i := i) (k := j) (by omega) (by omega)
        rw [if_pos (by omega), st, Int.one_mul, Int.mul_comm (shR P a (i + 1) (j + 1)) a]
      · rw [yup_n (by unfold slt; omega), yup_n (by unfold slt; omega), hV j hj]
        unfold mid
        by_cases h : k + 1 ≤ j ∧ j ≤ 8
        · rw [if_pos h, if_pos (by omega)]
        · rw [if_neg h, if_neg (by omega)]
theorem mvo_l {fu C : Nat} {σ0 : rr_M} {P : Nat → Int} {a : Int} (hfu : 70000 < fu) (hP : ∀ j, b8 (P j)) (ha : szb 10 a) {kk : rr_M → Option (Int32 × rr_M)} {Q : Int32 × rr_M → Prop}
    (hk : ∀ σ Y, LM C σ Y → frm C σ0 σ → (∀ j, j < 9 → Y (slt 36 j) = shR P a 8 j) → wq (kk σ) Q) :
    ∀ (fl i : Nat) (σ : rr_M) (Y : Nat → Int), i ≤ 8 → 9 - i ≤ fl → LM C σ Y → frm C σ0 σ → Y 0 = a → (∀ j, j < 9 → Y (slt 36 j) = shR P a i j) → wq (l_Mod_moves_16 fu (nm C) C fl (nI i) σ kk) Q
  | 0, i, σ, Y, h1, h2, _, _, _, _ => by omega
  | fl + 1, i, σ, Y, h1, h2, hY, hF, hA, hV => by
    rw [l_Mod_moves_16]
    by_cases h8 : i = 8
    · subst h8
      exact wq_ip (by decide) (hk σ Y hY hF hV)
    refine wq_in (show ¬ (8 : Int32) ≤ nI i from nI_ge (b := 8) (by omega) (by omega)) ?_
    refine mvi_l (P := P) (a := a) (i := i) hfu (by omega) hP ha ?_ fu 8 σ Y (by omega) (by omega) (by omega) hY hF hA (fun j hj => ?_)
    · intro σ' Y' L' F' A' V'
      dsimp only [rr_lt]
      rw [nI_1]
      refine mvo_l hfu hP ha hk fl (i + 1) σ' Y' (by omega) (by omega) L' F' A' (fun j hj => ?_)
      rw [V' j hj]
      unfold mid
      by_cases h : i ≤ j ∧ j ≤ 8
      · rw [if_pos h]
      · rw [if_neg h, shR_lo P _ (by omega)]
    · rw [hV j hj]
      unfold mid
      by_cases h : 8 ≤ j ∧ j ≤ 8
      · have : j = 8 := by omega
        subst this
        rw [if_pos h, shR_8 P _ i (by omega)]
      · rw [if_neg h]
theorem mvf_l {fu C : Nat} {σ0 : rr_M} {Y : Nat → Int} {G : Nat → Int} (hfu : 70000 < fu) (hY : LM C σ0 Y) (hV : ∀ j, j < 9 → Y (slt 36 j) = G j) {kk : rr_M → Option (Int32 × rr_M)} {Q : Int32 × rr_M → Prop}
    (hk : ∀ σ, mlf C σ0 σ → (∀ j, j < 9 → (mg_l σ (C + 8) (189 + j)).toInt = G j ∧ abd 4294967296 (G j)) → (∀ a, a ≠ C + 8 → mg_l σ a = mg_l σ0 a) → wq (kk σ) Q) (hno : ∀ σ, mlf C σ0 σ → (∀ a, a ≠ C + 8 → mg_l σ a = mg_l σ0 a) → (¬ ∀ j, j < 9 → b8 (G j)) → Q (0, σ)) :
    ∀ (fl k : Nat) (σ : rr_M), k ≤ 9 → 10 - k ≤ fl → mlf C σ0 σ → (∀ a, a ≠ C + 8 → mg_l σ a = mg_l σ0 a) → (∀ j, j < k → (mg_l σ (C + 8) (189 + j)).toInt = G j ∧ abd 4294967296 (G j)) → wq (l_Mod_moves_81 fu (nm C) C fl (nI k) σ kk) Q
  | 0, k, σ, h1, h2, _, _, _ => by omega
  | fl + 1, k, σ, h1, h2, hF, hO, hW => by
    rw [l_Mod_moves_81]
    by_cases hk9 : k = 9
    · subst hk9
      exact wq_ip (by decide) (hk σ hF hW hO)
    refine wq_in (show ¬ (9 : Int32) ≤ nI k from nI_ge (b := 9) (by omega) (by omega)) ?_
    have L : LM C σ Y := LM_frm hY hF.1 (by rw [hF.2.1]) (by rw [hF.2.1]) (by rw [hF.2.1])
    have sl := slt_lt (r := 36) (k := k) (by omega) (by omega)
    obtain ⟨n, hn⟩ := L.2 (slt 36 k) sl
    rw [hV k (by omega)] at hn
    dsimp only [rr_lt]
    rw [mrf_2 L.1, show (36 : Int32) = nI 36 from rfl, slot_ok]
    refine wq_ob (wq_some (wq_ip (ix2 sl) ?_))
    rw [n_nI (show slt 36 k < 2 ^ 31 by omega), hn.2.1]
    have hn200 := hn.1
    by_cases h2' : n ≤ 2
    · refine wq_ip (show nI n ≤ 2 from nI_le (b := 2) h2' (by omega)) (wq_ob (wq_some ?_))
      have hlt := lmn_lt hn
      have hle : (65536 : Int) ^ n ≤ 4294967296 := by
        have hn3 : n = 0 ∨ n = 1 ∨ n = 2 := by omega
        rcases hn3 with e | e | e <;> subst e <;> decide
      have hG : abd 4294967296 (G k) := by unfold abd; omega
      refine wq_ob (wq_mo (mo_long hfu L sl (by rw [hV k (by omega)]; omega) (by rw [hV k (by omega)]; omega)) ?_)
      intro v hv
      rw [hV k (by omega)] at hv
      rw [p21 L.1 (show k < 9 by omega), nI_1]
      refine wq_bd (wq_some ?_)
      dsimp only
      refine mvf_l hfu hY hV hk hno fl (k + 1) _ (by omega) (by omega) (mlf_s hF) (fun a ha => (rr_oL ha).trans (hO a ha)) (fun j hj => ?_)
      by_cases hjk : j = k
      · subst hjk
        rw [sl_s]
        exact ⟨hv, hG⟩
      · rw [sl_n (Or.inr (by omega))]
        exact hW j (by omega)
    · refine wq_in (show ¬ nI n ≤ 2 from nI_ge (a := 2) (by omega) (by omega)) (wq_ip (by decide) (wq_some (hno σ hF hO (fun hh => ?_))))
      have h3 := lmn_ge hn (by omega)
      have h4 := hh k (by omega)
      unfold b8 at h4
      have h5 : (65536 : Int) ^ 2 ≤ 65536 ^ (n - 1) := pw_mono (by decide) (by omega)
      have h6 : (65536 : Int) ^ 2 = 4294967296 := by decide
      omega
theorem mov_m {fu C u : Nat} {σ : rr_M} {T : Nat → Pl} {a : Int32} (hfu : 70000 < fu) (hu : u < 8) (hM : IMc C σ T) (b1 : pok (T u)) (ha : -1000 ≤ a.toInt ∧ a.toInt ≤ 1000) : wq (f_Mod_moves fu (nm C) C (nI u) a σ) (fun y => mok C T σ y.2 ∧ ((y.1 = 1 ∧ ∀ j, j < 9 → (mg_l y.2 (C + 8) (189 + j)).toInt = shR (T u) a.toInt 8 j ∧ abd 4294967296 (shR (T u) a.toInt 8 j)) ∨ (y.1 = 0 ∧ ¬ ∀ j, j < 9 → b8 (shR (T u) a.toInt 8 j)))) := by
  obtain ⟨Y1, L1⟩ := hM.1
  have hPb : ∀ j, b8 (T u j) := fun j => b1.2 j
  have sa : szb 10 a.toInt := by
    unfold szb
    have : (2 : Nat) ^ 10 = 1024 := by decide
    omega
  unfold f_Mod_moves
  refine wq_bd (wq_mo (tks_ok (row := 36) (r := u) hfu L1 (by omega) (by omega) (hM.2 u hu) (fun k _ => by have := b1.2 k; omega)) ?_)
  rintro ⟨x1, σ1⟩ ⟨Y2, g1, g2, g3, g4, g5, g6⟩
  dsimp only at g1 g2 g3 g6 ⊢
  refine wq_bd (wq_mo (mo_sets (s := 0) (v := a.toInt64) hfu g1 (by omega) (by rw [Int32.toInt_toInt64]; omega)) ?_)
  rintro ⟨x2, σ2⟩ ⟨l1, l2⟩
  dsimp only at l1 l2 ⊢
  rw [Int32.toInt_toInt64] at l1
  refine mvo_l (P := T u) (a := a.toInt) (σ0 := σ2) hfu hPb sa ?_ fu 0 σ2 _ (by omega) (by omega) l1 (frm_rfl _ _) (yup_s _ _ _) (fun j hj => ?_)
  · intro σ3 Y3 L3 F3 V3
    have F03 : mfr C σ σ3 := mfr_tr (frq_mfr g2) (mfr_tr (frm_mfr l2) (frm_mfr F3))
    have last : ∀ σ4, mlf C σ3 σ4 → (∀ a, a ≠ C + 8 → mg_l σ4 a = mg_l σ3 a) → mok C T σ σ4 := by
      intro σ4 F4 O4
      have F34 : mfr C σ3 σ4 := ⟨F4.1, fun x _ _ h => O4 x h, fun i hi => F4.2.2 i (by omega), fun x _ _ _ _ _ _ _ _ => by rw [F4.2.1], fun k _ _ => by rw [F4.2.1]⟩
      have L4 : LM C σ4 Y3 := LM_frm L3 F4.1 (by rw [F4.2.1]) (by rw [F4.2.1]) (by rw [F4.2.1])
      exact ⟨imc_mfr hM (mfr_tr F03 F34) L4, mfr_tr F03 F34⟩
    refine mvf_l (G := shR (T u) a.toInt 8) hfu L3 V3 ?_ ?_ fu 0 σ3 (by omega) (by omega) ⟨rfl, rfl, fun _ _ => rfl⟩ (fun _ _ => rfl) (fun j hj => absurd hj (by omega))
    · intro σ4 F4 W4 O4
      exact wq_ip (by decide) (wq_some ⟨last σ4 F4 O4, Or.inl ⟨rfl, W4⟩⟩)
    · intro σ4 F4 O4 hn
      exact ⟨last σ4 F4 O4, Or.inr ⟨rfl, hn⟩⟩
  · rw [yup_n (by unfold slt; omega)]
    exact g5 j hj
theorem oG_hi {P : Pl} {a : Int} {op : Nat} (h9 : pbd 9 P) (hop : op = 0 ∨ op = 1 ∨ op = 2 ∨ op = 3 ∨ op = 7 ∨ op = 8) {j : Nat} (hj : 10 ≤ j) : oG P a op j = 0 := by
  have e1 := h9 j (by omega)
  have e2 := h9 (j + 1) (by omega)
  have e3 : ahd P j = 0 := by
    unfold ahd
    rw [if_neg (by omega)]
    exact h9 _ (by omega)
  rcases hop with rfl | rfl | rfl | rfl | rfl | rfl
  · show 1 * ((j : Int) + 1) * P (j + 1) = 0
    rw [e2, Int.mul_zero]
  · show 1 * (j : Int) * P j = 0
    rw [e1, Int.mul_zero]
  · show 1 * P j + a * ((j : Int) + 1) * P (j + 1) = 0
    rw [e1, e2]
    simp
  · show 1 * ahd P j + a * P j = 0
    rw [e1, e3]
    simp
  · show 1 * P j + a * ahd P j + 1 * (j : Int) * P j + -1 * ((j : Int) - 1) * ahd P j = 0
    rw [e1, e3]
    simp
  · show 1 * ahd P j + 1 * (j : Int) * P j = 0
    rw [e1, e3]
    simp
theorem fl1_9 {G : Nat → Int} (h : ∀ j, 9 ≤ j → j < 17 → G j = 0) : (∀ j, j < 17 → fl1 G j) ↔ ∀ j, j < 9 → b8 (G j) := by
  unfold fl1
  constructor
  · intro h2 j hj
    have := h2 j (by omega)
    rw [if_neg (by omega)] at this
    exact this
  · intro h2 j hj
    by_cases h8 : 8 < j
    · rw [if_pos h8]; exact h j (by omega) hj
    · rw [if_neg h8]; exact h2 j (by omega)
