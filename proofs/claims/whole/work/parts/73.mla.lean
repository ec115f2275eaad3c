/-! ===== the model's sequence, whole ===== -/
theorem pws_a {fu C δ eG : Nat} {σ0 : rr_M} {Y0 : Nat → Int} {G : Int} (hfu : 70000 < fu) (hδ : δ < 9) (hG : Y0 6 = G) (sG : szb eG G) (hee : δ * eG ≤ 2400) {kk : rr_M → Option (Unit × rr_M)} {Q : Unit × rr_M → Prop}
    (hk : ∀ (σ : rr_M) (Y : Nat → Int), LM C σ Y → frm C σ0 σ → (∀ s, s ≠ 8 → s ≠ 9 → Y s = Y0 s) → Y 8 = G ^ δ → wq (kk σ) Q) :
    ∀ (f k : Nat) (σ : rr_M) (Y : Nat → Int), 1 ≤ k → k ≤ δ → δ + 1 - k ≤ f → LM C σ Y → frm C σ0 σ → (∀ s, s ≠ 8 → s ≠ 9 → Y s = Y0 s) → Y 8 = G ^ k →
      wq (l_Mod_powers_15 fu (nm C) C (nI δ) f (nI k) σ kk) Q
  | 0, k, σ, Y, h1, h1', h2, _, _, _, _ => by omega
  | f + 1, k, σ, Y, h1, h1', h2, hY, hF, hO, h8 => by
    rw [l_Mod_powers_15]
    by_cases hkt : k = δ
    · subst hkt
      exact wq_ip (nI_le (Nat.le_refl _) (by omega)) (hk σ Y hY hF hO h8)
    · have c0 : ¬ nI δ ≤ nI k := nI_ge (by omega) (by omega)
      have h6 : Y 6 = G := by rw [hO 6 (by omega) (by omega)]; exact hG
      have hb : eG * k + eG ≤ 2400 := by
        have : (k + 1) * eG ≤ δ * eG := Nat.mul_le_mul_right _ (by omega)
        rw [Nat.succ_mul, Nat.mul_comm k eG] at this
        omega
      rw [if_neg c0]
      refine wq_bd (wq_mo (mo_mulb (t := 9) (a := 8) (b := 6) (e1 := eG * k) (e2 := eG) hfu hY (by omega) (by omega) (by omega) (by omega) (by omega) (by rw [h8]; exact szb_pow sG k) (by rw [h6]; exact sG) (by omega)) ?_)
      rintro r1 ⟨L1, F1⟩
      refine wq_bd (wq_mo (mo_copies (t := 8) (s := 9) hfu L1 (by omega) (by omega)) ?_)
      rintro r2 ⟨L2, F2⟩
      dsimp only [rr_lt]
      rw [nI_1]
      refine pws_a hfu hδ hG sG hee hk f (k + 1) r2.2 _ (by omega) (by omega) (by omega) L2 (frm_tr hF (frm_tr F1 F2)) ?_ ?_
      · intro s s3 s4
        rw [yup_n s3, yup_n s4]
        exact hO s s3 s4
      · rw [yup_s, yup_s, h8, h6, Int.pow_succ]
theorem pws_b {fu C δ : Nat} {σ0 : rr_M} {Y0 : Nat → Int} {H X : Int} (hfu : 70000 < fu) (hδ : δ < 9) (hH : Y0 7 = H) (hH0 : H ≠ 0) {kk : rr_M → Option (Unit × rr_M)} {Q : Unit × rr_M → Prop}
    (hk : ∀ (σ : rr_M) (Y : Nat → Int), LM C σ Y → frm C σ0 σ → (∀ s, s ≠ 8 → s ≠ 9 → s ≠ 10 → Y s = Y0 s) → Y 8 = X → wq (kk σ) Q) :
    ∀ (f k : Nat) (σ : rr_M) (Y : Nat → Int), 1 ≤ k → k ≤ δ → δ + 1 - k ≤ f → LM C σ Y → frm C σ0 σ → (∀ s, s ≠ 8 → s ≠ 9 → s ≠ 10 → Y s = Y0 s) → Y 8 = X * H ^ (δ - k) →
      wq (l_Mod_powers_46 fu (nm C) C (nI δ) f (nI k) σ kk) Q
  | 0, k, σ, Y, h1, h1', h2, _, _, _, _ => by omega
  | f + 1, k, σ, Y, h1, h1', h2, hY, hF, hO, h8 => by
    rw [l_Mod_powers_46]
    by_cases hkt : k = δ
    · subst hkt
      refine wq_ip (nI_le (Nat.le_refl _) (by omega)) (hk σ Y hY hF hO ?_)
      rw [h8, Nat.sub_self]
      simp
    · have c0 : ¬ nI δ ≤ nI k := nI_ge (by omega) (by omega)
      have h7 : Y 7 = H := by rw [hO 7 (by omega) (by omega) (by omega)]; exact hH
      rw [if_neg c0]
      refine wq_bd (wq_mo (mo_parts (t := 9) (u := 10) (a := 8) (b := 7) hfu hY (by omega) (by omega) (by omega) (by omega) (by omega) (by omega) (by omega) (by omega) (by rw [h7]; exact hH0)) ?_)
      rintro r1 ⟨L1, F1⟩
      refine wq_bd (wq_mo (mo_copies (t := 8) (s := 9) hfu L1 (by omega) (by omega)) ?_)
      rintro r2 ⟨L2, F2⟩
      dsimp only [rr_lt]
      rw [nI_1]
      refine pws_b hfu hδ hH hH0 hk f (k + 1) r2.2 _ (by omega) (by omega) (by omega) L2 (frm_tr hF (frm_tr F1 F2)) ?_ ?_
      · intro s s3 s4 s5
        rw [yup_n s3, yup_n s5, yup_n s4]
        exact hO s s3 s4 s5
      · rw [yup_s, yup_n (by omega), yup_s, h8, h7, show δ - k = (δ - (k + 1)) + 1 by omega, Int.pow_succ, ← Int.mul_assoc, Int.mul_tdiv_cancel _ hH0]
theorem pws_ok {fu C δ eG : Nat} {σ : rr_M} {Y : Nat → Int} {G H X : Int} (hfu : 70000 < fu) (hδ : δ < 9) (hY : LM C σ Y) (hG : Y 6 = G) (hH : Y 7 = H) (hH0 : H ≠ 0) (sG : szb eG G) (hee : δ * eG ≤ 2400) (h0 : δ = 0 → X = H) (hX : 0 < δ → X * H ^ (δ - 1) = G ^ δ) :
    wq (f_Mod_powers fu (nm C) C (nI δ) σ) (fun r => frm C σ r.2 ∧ ∃ Y', LM C r.2 Y' ∧ (∀ s, s ≠ 7 → s ≠ 8 → s ≠ 9 → s ≠ 10 → Y' s = Y s) ∧ Y' 7 = X) := by
  unfold f_Mod_powers
  by_cases hz : δ = 0
  · subst hz
    refine wq_ip rfl (wq_some ⟨frm_rfl _ _, Y, hY, fun _ _ _ _ _ => rfl, ?_⟩)
    rw [hH, h0 rfl]
  · have c0 : ¬ nI δ = 0 := nI_ne0 (by omega) (by omega)
    rw [if_neg c0]
    refine wq_bd (wq_mo (mo_copies (t := 8) (s := 6) hfu hY (by omega) (by omega)) ?_)
    rintro r1 ⟨L1, F1⟩
    rw [hG] at L1
    refine pws_a (σ0 := r1.2) (Y0 := yup Y 8 G) (G := G) (eG := eG) (δ := δ) hfu hδ (by rw [yup_n (by omega)]; exact hG) sG hee ?_ fu 1 r1.2 (yup Y 8 G) (by omega) (by omega) (by omega) L1 (frm_rfl _ _) (fun _ _ _ => rfl) (by rw [yup_s, Int.pow_succ, Int.pow_zero, Int.one_mul])
    intro σ2 Y2 L2 F2 O2 V2
    refine pws_b (σ0 := σ2) (Y0 := Y2) (H := H) (X := X) (δ := δ) hfu hδ (by rw [O2 7 (by omega) (by omega), yup_n (by omega)]; exact hH) hH0 ?_ fu 1 σ2 Y2 (by omega) (by omega) (by omega) L2 (frm_rfl _ _) (fun _ _ _ _ => rfl) (by rw [V2, hX (by omega)])
    intro σ3 Y3 L3 F3 O3 V3
    refine wq_bd (wq_mo (mo_copies (t := 7) (s := 8) hfu L3 (by omega) (by omega)) ?_)
    rintro r4 ⟨L4, F4⟩
    refine wq_some ⟨frm_tr F1 (frm_tr F2 (frm_tr F3 F4)), _, L4, ?_, ?_⟩
    · intro s s7 s8 s9 s10
      rw [yup_n s7, O3 s s8 s9 s10, O2 s s8 s9, yup_n s8]
    · rw [yup_s, V3]
/-- rows first .. hold members 0 .. k -/
def mrs (C first k : Nat) (σ : rr_M) (Y : Nat → Int) (p q : Pl) : Prop := ∀ i, i ≤ k → rwY Y (first + i) (mm p q i) ∧ mg_i σ (C + 6) (first + i) = nI (dgg (mm p q i)) ∧ (mg_i σ (C + 7) (first + i)).toInt = lo p q i
theorem all_l {fu C first s : Nat} {σ0 : rr_M} {Y0 : Nat → Int} {p q : Pl} (hfu : 70000 < fu) (h : gdp p q s) (hf : first + 11 ≤ 48) {kk : Int32 → rr_M → Option (Int32 × rr_M)} {Q : Int32 × rr_M → Prop}
    (hk : ∀ (σ : rr_M) (Y : Nat → Int) (M : Nat), LM C σ Y → frq C first (first + 11) σ0 σ → (∀ s, 11 ≤ s → (s < slt first 0 ∨ slt (first + 11) 0 ≤ s) → Y s = Y0 s) → ends p q M → M ≤ 10 → mrs C first (M - 1) σ Y p q → wq (kk (nI M) σ) Q) :
    ∀ (f k : Nat) (σ : rr_M) (Y : Nat → Int), 1 ≤ k → 10 - k < f → LM C σ Y → frq C first (first + 11) σ0 σ → (∀ s, 11 ≤ s → (s < slt first 0 ∨ slt (first + 11) 0 ≤ s) → Y s = Y0 s) → mmn p q k → (∀ i, i < k → 1 ≤ i → 0 < dgg (mm p q i)) → mrs C first k σ Y p q → Y 6 = gm p q k → Y 7 = hm p q k →
      wq (l_Mod_leavesAll_32 fu (nm C) C (nI first) f (nI (k + 1)) σ kk) Q
  | 0, k, σ, Y, h1, h2, _, _, _, _, _, _, _, _ => by omega
  | f + 1, k, σ, Y, h1, h2, hY, hF, hO, hm1, hm2, hR, h6, h7 => by
    have hdec : k ≤ 9 := by
      have := ends_dec h.1 h.2.1 h.2.2.2.2.1 (k - 1) (by rw [show k - 1 + 1 = k by omega]; exact hm1) (fun i hi h3 => hm2 i (by omega) h3)
      have := dgg_lt q
      omega
    obtain ⟨g0, h0, hdl, hdg⟩ := gh_nz h h1 hm1 hm2
    obtain ⟨b1, b2, b3, b4, b5, b6⟩ := bits_ok h h1 hm1 hm2
    have sB : ∀ t, szb (mbt p q s k) (mm p q k t) := mm_bit h (fun i hi => hm1 i (by omega)) hm2
    have ra := hR (k - 1) (by omega)
    have rb := hR k (Nat.le_refl _)
    have e1 : nI first + nI (k + 1) - 2 = nI (first + (k - 1)) := by
      rw [nI_add, show (2 : Int32) = nI 2 from rfl, nI_sub (by omega)]
      congr 1
      omega
    have e2 : first + k = first + (k - 1) + 1 := by omega
    rw [e2] at rb
    rw [l_Mod_leavesAll_32, e1]
    refine wq_bd (wq_mo (mlv_ok (r := first + (k - 1)) (k := k) hfu h h1 hm1 hm2 (by omega) hY ra.1 rb.1 ra.2.1 rb.2.1 ra.2.2 h6 h7) ?_)
    rintro y ⟨y1, Y', y2, y3, y4, y5, y6, y7⟩
    have er : first + (k - 1) + 2 = first + (k + 1) := by omega
    rw [er] at y3 y4 y5 y6 y7
    have hm0 := (mm_dv h h1 hm1 hm2).2.2.2
    -- rows that were there
    have hold : ∀ i, i ≤ k → rwY Y' (first + i) (mm p q i) ∧ mg_i y.2 (C + 6) (first + i) = nI (dgg (mm p q i)) ∧ (mg_i y.2 (C + 7) (first + i)).toInt = lo p q i := by
      intro i hi
      obtain ⟨q1, q2, q3⟩ := hR i hi
      have q4 := y3.2.2.2 (first + i) (by omega)
      refine ⟨fun j hj => ?_, by rw [q4.1]; exact q2, by rw [q4.2]; exact q3⟩
      rw [y4 _ (by have := slt_ge (first + i) j; omega) (fun j' hj' => slt_ne hj hj' (by omega))]
      exact q1 j hj
    have hF2 : frq C first (first + 11) σ0 y.2 := frq_tr hF (frq_mono y3 (by omega) (by omega))
    have hO2 : ∀ s, 11 ≤ s → (s < slt first 0 ∨ slt (first + 11) 0 ≤ s) → Y' s = Y0 s := by
      intro s hs hs2
      rw [y4 s (by omega) (fun j hj => by unfold slt at *; omega)]
      exact hO s hs hs2
    by_cases hz : dln (mm p q (k + 1)) = 0
    · rw [if_pos hz] at y1
      rw [if_pos y1]
      refine hk y.2 Y' (k + 1) y2 hF2 hO2 ⟨by omega, hm1, hm2, fun _ => hz⟩ (by omega) ?_
      rw [Nat.add_sub_cancel]
      exact hold
    · rw [if_neg hz] at y1
      have c0 : ¬ y.1 = 0 := by rw [y1]; decide
      rw [if_neg c0]
      have hpos : 0 < dln (mm p q (k + 1)) := by omega
      have hm1' : mmn p q (k + 1) := fun i hi => by
        by_cases hik : i = k + 1
        · subst hik; exact hpos
        · exact hm1 i (by omega)
      have hb9 : pbd 9 (mm p q (k + 1)) := fun t ht => hm0 t (by have := dgg_lt (mm p q k); omega)
      have hdk : 0 < dgg (mm p q k) := by
        have h5 := (dln_top hb9 hpos).1.1
        apply Nat.pos_of_ne_zero
        intro h6
        exact h5 (hm0 _ (by omega))
      have hm2' : ∀ i, i < k + 1 → 1 ≤ i → 0 < dgg (mm p q i) := fun i hi h3 => by
        by_cases hik : i = k
        · subst hik; exact hdk
        · exact hm2 i (by omega) h3
      have e3 : nI first + nI (k + 1) - 1 = nI (first + k) := by
        rw [nI_add, show (1 : Int32) = nI 1 from rfl, nI_sub (by omega)]
        congr 1
      have e4 : nI (first + k) - 1 = nI (first + (k - 1)) := by
        rw [show (1 : Int32) = nI 1 from rfl, nI_sub (by omega)]
        congr 1
        omega
      have m1 : rr_n (nI (first + k)) = first + k := n_nI (by omega)
      have m2 : rr_n (nI (first + (k - 1))) = first + (k - 1) := n_nI (by omega)
      obtain ⟨a1, a2, a3⟩ := hold k (Nat.le_refl _)
      obtain ⟨c1, c2, c3⟩ := hold (k - 1) (by omega)
      dsimp only [rr_lt]
      rw [e3, e4, mrf_6 y2.1, m1, m2, a2, c2, nI_sub hdl, slot_ok]
      refine wq_ip (ix6 (by omega)) (wq_ip (ix6 (by omega)) (wq_ip (ix6 (by omega)) (wq_ob (wq_some ?_))))
      have sl := slt_lt (r := first + k) (k := dgg (mm p q k)) (by omega) (by have := dgg_lt (mm p q k); omega)
      refine wq_bd (wq_mo (mo_copies (t := 6) hfu y2 sl (by omega)) ?_)
      rintro r3 ⟨L3, F3⟩
      rw [a1 _ (by have := dgg_lt (mm p q k); omega)] at L3
      have y47 : Y' 7 = hm p q k := by rw [y4 7 (by omega) (fun j _ => by have := slt_ge (first + (k + 1)) j; omega)]; exact h7
      have hx := hm_ex h.1 h.2.1 h.2.2.2.2.1 h1 hm1 hm2
      have hd8 := dgg_lt (mm p q (k - 1))
      refine wq_bd (wq_mo (pws_ok (δ := dgg (mm p q (k - 1)) - dgg (mm p q k)) (eG := mbt p q s k) (G := mm p q k (dgg (mm p q k))) (H := hm p q k) (X := hm p q (k + 1)) hfu (by omega) L3 (yup_s _ _ _) (by rw [yup_n (by omega)]; exact y47) h0 (sB _) ?_ ?_ ?_) ?_)
      · have : (dgg (mm p q (k - 1)) - dgg (mm p q k)) * mbt p q s k ≤ (dgg (mm p q (k - 1)) - dgg (mm p q k) + 1) * mbt p q s k := Nat.mul_le_mul_right _ (by omega)
        omega
      · intro hz2
        obtain ⟨q1, q2, _⟩ := hx.2.1 (by omega)
        rw [q1, q2]
      · intro hz2
        exact (hx.1 (by omega)).1
      · rintro r4 ⟨F4, Y4, L4, O4, V4⟩
        rw [nI_1]
        refine all_l hfu h hf hk f (k + 1) r4.2 Y4 (by omega) (by omega) L4 (frq_tr hF2 (frq_tr (frm_frq F3 _ _) (frm_frq F4 _ _))) ?_ hm1' hm2' ?_ ?_ V4
        · intro s hs hs2
          rw [O4 s (by omega) (by omega) (by omega) (by omega), yup_n (by omega)]
          exact hO2 s hs hs2
        · intro i hi
          have k6 : mg_i r4.2 (C + 6) = mg_i y.2 (C + 6) := by rw [frm_i F4 (by omega) (by omega) (by omega), frm_i F3 (by omega) (by omega) (by omega)]
          have k7 : mg_i r4.2 (C + 7) = mg_i y.2 (C + 7) := by rw [frm_i F4 (by omega) (by omega) (by omega), frm_i F3 (by omega) (by omega) (by omega)]
          have kY : ∀ j, Y4 (slt (first + i) j) = Y' (slt (first + i) j) := fun j => by
            have := slt_ge (first + i) j
            rw [O4 _ (by omega) (by omega) (by omega) (by omega), yup_n (by omega)]
          rw [k6, k7]
          by_cases hik : i = k + 1
          · subst hik
            refine ⟨fun j hj => by rw [kY]; exact y5 j hj, ?_, y7⟩
            rw [y6, show (1 : Int32) = nI 1 from rfl, nI_sub (by omega)]
            rfl
          · obtain ⟨q1, q2, q3⟩ := hold i (by omega)
            exact ⟨fun j hj => by rw [kY]; exact q1 j hj, q2, q3⟩
        · rw [O4 6 (by omega) (by omega) (by omega) (by omega), yup_s, gm_step p q k h1]
theorem all_ok {fu C first s : Nat} {σ : rr_M} {Y : Nat → Int} {p q : Pl} (hfu : 70000 < fu) (h : gdp p q s) (hf : first + 11 ≤ 48) (hY : LM C σ Y) (rp : rwY Y first p) (rq : rwY Y (first + 1) q) (dp : mg_i σ (C + 6) first = nI (dgg p)) (dq : mg_i σ (C + 6) (first + 1) = nI (dgg q)) :
    wq (f_Mod_leavesAll fu (nm C) C (nI first) σ) (fun y => ∃ Y' M, y.1 = nI M ∧ LM C y.2 Y' ∧ frq C first (first + 11) σ y.2 ∧ (∀ s, 11 ≤ s → (s < slt first 0 ∨ slt (first + 11) 0 ≤ s) → Y' s = Y s) ∧ ends p q M ∧ M ≤ 10 ∧ mrs C first (M - 1) y.2 Y' p q) := by
  have m1 : rr_n (nI first) = first := n_nI (by omega)
  have m2 : rr_n (nI (first + 1)) = first + 1 := n_nI (by omega)
  unfold f_Mod_leavesAll
  dsimp only [rr_lt]
  rw [nI_1, mrf_7 hY.1, m1, m2, si_r, mrf_7 hY.1]
  refine wq_ip (ix7 (by omega)) (wq_ip (ix7 (by omega)) ?_)
  have L0 : LM C (ms_i (ms_i σ (C + 7) first 1) (C + 7) (first + 1) 1) Y := LM_ms (LM_ms hY (by omega)) (by omega)
  have F0 : frq C first (first + 11) σ (ms_i (ms_i σ (C + 7) first 1) (C + 7) (first + 1) 1) := frq_tr (frq_mono frq_7 (by omega) (by omega)) (frq_mono frq_7 (by omega) (by omega))
  refine wq_bd (wq_mo (mo_sets (s := 6) (v := 1) hfu L0 (by omega) (by decide)) ?_)
  rintro r1 ⟨L1, F1⟩
  refine wq_bd (wq_mo (mo_sets (s := 7) (v := 1) hfu L1 (by omega) (by decide)) ?_)
  rintro r2 ⟨L2, F2⟩
  have k6 : mg_i r2.2 (C + 6) = mg_i σ (C + 6) := by rw [frm_i F2 (by omega) (by omega) (by omega), frm_i F1 (by omega) (by omega) (by omega), si_row (by omega), si_row (by omega)]
  have k7 : mg_i r2.2 (C + 7) = mg_i (ms_i (ms_i σ (C + 7) first 1) (C + 7) (first + 1) 1) (C + 7) := by rw [frm_i F2 (by omega) (by omega) (by omega), frm_i F1 (by omega) (by omega) (by omega)]
  refine all_l (σ0 := σ) (Y0 := Y) hfu h hf ?_ fu 1 r2.2 _ (by omega) (by omega) L2 (frq_tr F0 (frq_tr (frm_frq F1 _ _) (frm_frq F2 _ _))) ?_ ?_ (fun i hi h3 => by omega) ?_ ?_ ?_
  · intro σ3 Y3 M a1 a2 a3 a4 a5 a6
    exact wq_some ⟨Y3, M, rfl, a1, a2, a3, a4, a5, a6⟩
  · intro s hs _
    rw [yup_n (by omega), yup_n (by omega)]
  · intro i hi
    rcases (by omega : i = 0 ∨ i = 1) with h5 | h5
    · subst h5; exact h.2.2.1
    · subst h5; exact h.2.2.2.1
  · intro i hi
    rw [k6, k7]
    rcases (by omega : i = 0 ∨ i = 1) with h5 | h5
    · subst h5
      refine ⟨fun j hj => ?_, dp, ?_⟩
      · have := slt_ge (first + 0) j
        rw [yup_n (by omega), yup_n (by omega)]
        exact rp j hj
      · rw [show first + 0 = first from rfl, si_n (Or.inr (by omega)), si_s]
        rfl
    · subst h5
      refine ⟨fun j hj => ?_, dq, ?_⟩
      · have := slt_ge (first + 1) j
        rw [yup_n (by omega), yup_n (by omega)]
        exact rq j hj
      · rw [si_s]
        rfl
  · rw [yup_n (by omega), yup_s]; rfl
  · rw [yup_s]; rfl
