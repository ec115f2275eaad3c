/-! ===== the model: polynomials, proofs, signs far out ===== -/
def mpo (C : Nat) (σ : rr_M) (r : Nat) (f : Pl) : Prop := ∀ k, k < 9 → (mg_l σ (C + 8) (9 * r + k)).toInt = f k
theorem e9 (r k : Nat) : (9 * nI r) + nI k = nI (9 * r + k) := by rw [show (9 : Int32) = nI 9 from rfl, nI_mul, nI_add]
theorem ix8 {C k : Nat} (hs : k < 207) : rr_ix (nI k) (nm C (C + 8)) = true := by rw [nm_8]; exact ix_nI hs (by omega)
theorem mat_ok {C r k : Nat} {σ : rr_M} (hm : mrf C σ) (hr : r < 23) (hk : k < 9) : f_Mod_at (nm C) C (nI r) (nI k) σ = some (mg_l σ (C + 8) (9 * r + k)) := by
  unfold f_Mod_at
  have m1 : rr_n (nI (9 * r + k)) = 9 * r + k := n_nI (by omega)
  simp only [rr_lt, mrf_8 hm, e9, ix8 (C := C) (show 9 * r + k < 207 by omega), m1, if_true]
theorem mdg_l {fu C r : Nat} {σ : rr_M} {f : Pl} (hm : mrf C σ) (hr : r < 23) (hf : mpo C σ r f) : ∀ (n fl : Nat), n ≤ 9 → n < fl → l_Mod_degreeOf_3 fu (nm C) C (nI r) σ fl (nI n - 1) (fun v => some v) = some (nI (lnn n f) - 1)
  | 0, fl + 1, _, _ => by
    rw [l_Mod_degreeOf_3, if_pos (by decide)]
    rfl
  | n + 1, fl + 1, h1, h2 => by
    have e1 : nI (n + 1) - 1 = nI n := nI_pred n
    have c1 : ¬ nI n < 0 := nI_pos (by omega)
    have e2 : nI n + (-1) = nI n - 1 := (Int32.sub_eq_add_neg (nI n) 1).symm
    rw [l_Mod_degreeOf_3, e1, if_neg c1, mat_ok hm hr (by omega)]
    simp only [rr_lt, Option.bind, e2, lnn]
    have h0 : mg_l σ (C + 8) (9 * r + n) = 0 ↔ f n = 0 := by rw [j_eq0, hf n (by omega)]
    by_cases h : f n = 0
    · rw [if_pos (h0.mpr h), if_pos h]
      exact mdg_l hm hr hf n fl (by omega) (by omega)
    · rw [if_neg (fun hh => h (h0.mp hh)), if_neg h, e1]
theorem mdg_ok {fu C r : Nat} {σ : rr_M} {f : Pl} (hfu : 400 < fu) (hm : mrf C σ) (hr : r < 23) (hf : mpo C σ r f) : f_Mod_degreeOf fu (nm C) C (nI r) σ = some (nI (dln f) - 1) := by
  unfold f_Mod_degreeOf
  exact mdg_l hm hr hf 9 fu (by omega) (by omega)
theorem frm_po {C r : Nat} {σ σ' : rr_M} {f : Pl} (h : frm C σ σ') (hf : mpo C σ r f) : mpo C σ' r f := fun k hk => by rw [h.2.1 _ (by omega) (by omega)]; exact hf k hk
theorem frq_po {C r a b : Nat} {σ σ' : rr_M} {f : Pl} (h : frq C a b σ σ') (hf : mpo C σ r f) : mpo C σ' r f := fun k hk => by rw [h.2.1 _ (by omega) (by omega)]; exact hf k hk
theorem tks_l {fu C row r : Nat} {σ0 : rr_M} {Y0 : Nat → Int} {f : Pl} (hfu : 70000 < fu) (hrow : row < 48) (hr : r < 23) (hf : mpo C σ0 r f) {kk : rr_M → Option (Unit × rr_M)} {Q : Unit × rr_M → Prop}
    (hk : ∀ (σ : rr_M) (Y : Nat → Int), LM C σ Y → frm C σ0 σ → (∀ s, (∀ j, j < 9 → s ≠ slt row j) → Y s = Y0 s) → rwY Y row f → wq (kk σ) Q) (hmin : ∀ k, k < 9 → -9223372036854775808 < f k) :
    ∀ (fl k : Nat) (σ : rr_M) (Y : Nat → Int), k ≤ 9 → 10 - k ≤ fl → LM C σ Y → frm C σ0 σ → (∀ s, (∀ j, j < 9 → s ≠ slt row j) → Y s = Y0 s) → (∀ j, j < k → Y (slt row j) = f j) →
      wq (l_Mod_takes_2 fu (nm C) C (nI row) (nI r) fl (nI k) σ kk) Q
  | 0, k, σ, Y, h1, h2, _, _, _, _ => by omega
  | fl + 1, k, σ, Y, h1, h2, hY, hF, hO, hN => by
    rw [l_Mod_takes_2]
    by_cases hkt : k = 9
    · subst hkt
      exact wq_ip (by decide) (hk σ Y hY hF hO hN)
    · have c0 : ¬ (9 : Int32) ≤ nI k := nI_ge (b := 9) (by omega) (by omega)
      have hv := frm_po hF hf k (by omega)
      rw [if_neg c0, slot_ok, mat_ok hY.1 hr (by omega)]
      refine wq_ob (wq_some (wq_ob (wq_some (wq_bd (wq_mo (mo_sets hfu hY (slt_lt hrow (show k < 9 by omega)) (by rw [hv]; exact hmin k (by omega))) ?_)))))
      rintro r1 ⟨L1, F1⟩
      rw [hv] at L1
      dsimp only [rr_lt]
      rw [nI_1]
      refine tks_l hfu hrow hr hf hk hmin fl (k + 1) r1.2 _ (by omega) (by omega) L1 (frm_tr hF F1) ?_ ?_
      · intro s hs
        rw [yup_n (hs k (by omega))]
        exact hO s hs
      · intro j hj
        by_cases hjk : j = k
        · subst hjk; rw [yup_s]
        · rw [yup_n (by unfold slt; omega)]; exact hN j (by omega)
theorem tks_ok {fu C row r : Nat} {σ : rr_M} {Y : Nat → Int} {f : Pl} (hfu : 70000 < fu) (hY : LM C σ Y) (hrow : row < 48) (hr : r < 23) (hf : mpo C σ r f) (hmin : ∀ k, k < 9 → -9223372036854775808 < f k) :
    wq (f_Mod_takes fu (nm C) C (nI row) (nI r) σ) (fun y => ∃ Y', LM C y.2 Y' ∧ frq C row (row + 1) σ y.2 ∧ mg_i y.2 (C + 7) = mg_i σ (C + 7) ∧ (∀ s, (∀ j, j < 9 → s ≠ slt row j) → Y' s = Y s) ∧ rwY Y' row f ∧ mg_i y.2 (C + 6) row = nI (dln f) - 1) := by
  unfold f_Mod_takes
  refine tks_l (σ0 := σ) (Y0 := Y) hfu hrow hr hf ?_ hmin fu 0 σ Y (by omega) (by omega) hY (frm_rfl _ _) (fun _ _ => rfl) (fun j hj => absurd hj (by omega))
  intro σ1 Y1 L1 F1 O1 V1
  have mr : rr_n (nI row) = row := n_nI (by omega)
  dsimp only [rr_lt]
  rw [mdg_ok (by omega) L1.1 hr (frm_po F1 hf), mrf_6 L1.1, mr]
  refine wq_ob (wq_some (wq_ip (ix6 hrow) (wq_some ⟨Y1, LM_ms L1 (by omega), frq_tr (frm_frq F1 _ _) frq_6, ?_, O1, V1, si_s _ _ _ _⟩)))
  show mg_i (ms_i σ1 (C + 6) row _) (C + 7) = _
  rw [si_row (by omega), frm_i F1 (by omega) (by omega) (by omega)]
theorem slp_l {fu C row r : Nat} {σ0 : rr_M} {Y0 : Nat → Int} {f : Pl} (hfu : 70000 < fu) (hrow : row < 48) (hr : r < 23) (hf : mpo C σ0 r f) (hf9 : pbd 9 f) (hsz : ∀ k, -1099511627776 ≤ f k ∧ f k ≤ 1099511627776) {kk : rr_M → Option (Unit × rr_M)} {Q : Unit × rr_M → Prop}
    (hk : ∀ (σ : rr_M) (Y : Nat → Int), LM C σ Y → frm C σ0 σ → (∀ s, (∀ j, j < 9 → s ≠ slt row j) → Y s = Y0 s) → rwY Y row (der f) → wq (kk σ) Q) :
    ∀ (fl k : Nat) (σ : rr_M) (Y : Nat → Int), k ≤ 9 → 10 - k ≤ fl → LM C σ Y → frm C σ0 σ → (∀ s, (∀ j, j < 9 → s ≠ slt row j) → Y s = Y0 s) → (∀ j, j < k → Y (slt row j) = der f j) →
      wq (l_Mod_slopes_2 fu (nm C) C (nI row) (nI r) fl (nI k) σ kk) Q
  | 0, k, σ, Y, h1, h2, _, _, _, _ => by omega
  | fl + 1, k, σ, Y, h1, h2, hY, hF, hO, hN => by
    rw [l_Mod_slopes_2]
    by_cases hkt : k = 9
    · subst hkt
      exact wq_ip (by decide) (hk σ Y hY hF hO hN)
    · have c0 : ¬ (9 : Int32) ≤ nI k := nI_ge (b := 9) (by omega) (by omega)
      rw [if_neg c0, slot_ok]
      refine wq_ob (wq_some ?_)
      dsimp only [rr_lt, rr_jn]
      have fin : ∀ t : Int64, t.toInt = der f k → wq (rr_bd (f_Mod_sets fu (nm C) C (nI (slt row k)) t σ) fun _ σ_5 => l_Mod_slopes_2 fu (nm C) C (nI row) (nI r) fl (nI k + 1) σ_5 kk) Q := by
        intro t ht
        have hb := hsz (k + 1)
        have hd : -9223372036854775808 < der f k := by
          show -9223372036854775808 < ((k : Int) + 1) * f (k + 1)
          have := Int.mul_le_mul_of_nonneg_left hb.1 (show 0 ≤ (k : Int) + 1 by omega)
          omega
        refine wq_bd (wq_mo (mo_sets hfu hY (slt_lt hrow (show k < 9 by omega)) (by rw [ht]; exact hd)) ?_)
        rintro r1 ⟨L1, F1⟩
        rw [ht] at L1
        rw [nI_1]
        refine slp_l hfu hrow hr hf hf9 hsz hk fl (k + 1) r1.2 _ (by omega) (by omega) L1 (frm_tr hF F1) ?_ ?_
        · intro s hs
          rw [yup_n (hs k (by omega))]
          exact hO s hs
        · intro j hj
          by_cases hjk : j = k
          · subst hjk; rw [yup_s]
          · rw [yup_n (by unfold slt; omega)]; exact hN j (by omega)
      by_cases hk8 : k = 8
      · have c1 : (8 : Int32) ≤ nI k := by rw [hk8]; decide
        rw [if_pos c1]
        refine fin 0 ?_
        show 0 = ((k : Int) + 1) * f (k + 1)
        rw [hf9 (k + 1) (by omega), Int.mul_zero]
      · have c1 : ¬ (8 : Int32) ≤ nI k := nI_ge (b := 8) (by omega) (by omega)
        rw [if_neg c1, nI_1, mat_ok hY.1 hr (by omega)]
        refine wq_ob (wq_some ?_)
        have := fin ((nI (k + 1)).toInt64 * mg_l σ (C + 8) (9 * r + (k + 1))) ?_
        · rw [nI_1] at this
          exact this
        · have hv := frm_po hF hf (k + 1) (by omega)
          have w1 : (nI (k + 1)).toInt64.toInt = (k : Int) + 1 := by rw [Jvm.Kit.i64_of_i32, nI_t _ (by omega)]; omega
          have hb := hsz (k + 1)
          have b1 := Int.mul_le_mul_of_nonneg_left hb.1 (show 0 ≤ (k : Int) + 1 by omega)
          have b2 := Int.mul_le_mul_of_nonneg_left hb.2 (show 0 ≤ (k : Int) + 1 by omega)
          rw [j_mul (by rw [w1, hv]; omega) (by rw [w1, hv]; omega), w1, hv]
          rfl
theorem slp_ok {fu C row r : Nat} {σ : rr_M} {Y : Nat → Int} {f : Pl} (hfu : 70000 < fu) (hY : LM C σ Y) (hrow : row < 48) (hr : r < 23) (hf : mpo C σ r f) (hf9 : pbd 9 f) (hsz : ∀ k, -1099511627776 ≤ f k ∧ f k ≤ 1099511627776) :
    wq (f_Mod_slopes fu (nm C) C (nI row) (nI r) σ) (fun y => ∃ Y', LM C y.2 Y' ∧ frq C row (row + 1) σ y.2 ∧ mg_i y.2 (C + 7) = mg_i σ (C + 7) ∧ (∀ s, (∀ j, j < 9 → s ≠ slt row j) → Y' s = Y s) ∧ rwY Y' row (der f) ∧ mg_i y.2 (C + 6) row = nI (dln f) - 1 - 1) := by
  unfold f_Mod_slopes
  refine slp_l (σ0 := σ) (Y0 := Y) hfu hrow hr hf hf9 hsz ?_ fu 0 σ Y (by omega) (by omega) hY (frm_rfl _ _) (fun _ _ => rfl) (fun j hj => absurd hj (by omega))
  intro σ1 Y1 L1 F1 O1 V1
  have mr : rr_n (nI row) = row := n_nI (by omega)
  dsimp only [rr_lt]
  rw [mdg_ok (by omega) L1.1 hr (frm_po F1 hf), mrf_6 L1.1, mr]
  refine wq_ob (wq_some (wq_ip (ix6 hrow) (wq_some ⟨Y1, LM_ms L1 (by omega), frq_tr (frm_frq F1 _ _) frq_6, ?_, O1, V1, si_s _ _ _ _⟩)))
  show mg_i (ms_i σ1 (C + 6) row _) (C + 7) = _
  rw [si_row (by omega), frm_i F1 (by omega) (by omega) (by omega)]
theorem der_dgr {f : Pl} {d : Nat} (h : dgr f (d + 1)) : dgr (der f) d := ⟨by
  show ((d : Int) + 1) * f (d + 1) ≠ 0
  exact Int.mul_ne_zero (by omega) h.1, fun k hk => by
  show ((k : Int) + 1) * f (k + 1) = 0
  rw [h.2 (k + 1) (by omega), Int.mul_zero]⟩
theorem der_pbd {f : Pl} (h : pbd 9 f) : pbd 9 (der f) := fun k hk => by
  show ((k : Int) + 1) * f (k + 1) = 0
  rw [h (k + 1) (by omega), Int.mul_zero]
theorem dgg_der {f : Pl} (h9 : pbd 9 f) (h : 0 < dgg f) : dln (der f) = dgg f ∧ dgg (der f) + 1 = dgg f ∧ dln f = dgg f + 1 := by
  have h0 : 0 < dln f := by unfold dgg at h; omega
  obtain ⟨hd, h8⟩ := dln_top h9 h0
  obtain ⟨d, hd2⟩ : ∃ d, dgg f = d + 1 := ⟨dgg f - 1, by omega⟩
  rw [hd2] at hd
  have e := dln_dgr (der_dgr hd) (by omega)
  refine ⟨by omega, ?_, ?_⟩
  · unfold dgg; rw [e]; unfold dgg at hd2; omega
  · unfold dgg at *; omega
theorem prv_ok {fu C first r s : Nat} {σ : rr_M} {Y : Nat → Int} {f : Pl} (hfu : 70000 < fu) (hY : LM C σ Y) (hf1 : first + 11 ≤ 48) (hr : r < 23) (hf : mpo C σ r f) (h : gdp f (der f) s) (hd : 0 < dgg f) (hsz : ∀ k, -1099511627776 ≤ f k ∧ f k ≤ 1099511627776) :
    wq (f_Mod_proves fu (nm C) C (nI first) (nI r) σ) (fun y => ∃ Y' M, y.1 = nI M ∧ LM C y.2 Y' ∧ frq C first (first + 11) σ y.2 ∧ (∀ s, 11 ≤ s → (s < slt first 0 ∨ slt (first + 11) 0 ≤ s) → Y' s = Y s) ∧ ends f (der f) M ∧ M ≤ 10 ∧ mrs C first (M - 1) y.2 Y' f (der f)) := by
  have hg := dgg_der h.1 hd
  have h8 := dgg_lt f
  unfold f_Mod_proves
  refine wq_bd (wq_mo (tks_ok hfu hY (show first < 48 by omega) hr hf (fun k _ => by have := hsz k; omega)) ?_)
  rintro r1 ⟨Y1, L1, F1, K1, O1, V1, D1⟩
  rw [nI_1]
  refine wq_bd (wq_mo (slp_ok hfu L1 (show first + 1 < 48 by omega) hr (frq_po F1 hf) h.1 hsz) ?_)
  rintro r2 ⟨Y2, L2, F2, K2, O2, V2, D2⟩
  have e1 : nI (dln f) - 1 = nI (dgg f) := by rw [hg.2.2]; exact nI_pred _
  have e2 : nI (dln f) - 1 - 1 = nI (dgg (der f)) := by rw [e1, ← hg.2.1]; exact nI_pred _
  refine wq_bd (wq_mo (all_ok (first := first) hfu h hf1 L2 ?_ V2 ?_ ?_) ?_)
  · intro j hj
    rw [O2 _ (fun j' hj' => slt_ne hj hj' (by omega))]
    exact V1 j hj
  · rw [(F2.2.2.2 first (by omega)).1, D1, e1]
  · rw [D2, e2]
  · rintro r3 ⟨Y3, M, q1, q2, q3, q4, q5, q6, q7⟩
    refine wq_some ⟨Y3, M, q1, q2, frq_tr (frq_mono F1 (by omega) (by omega)) (frq_tr (frq_mono F2 (by omega) (by omega)) q3), ?_, q5, q6, q7⟩
    intro s hs hs2
    rw [q4 s hs hs2, O2 s (fun j hj => by unfold slt at *; omega), O1 s (fun j hj => by unfold slt at *; omega)]
