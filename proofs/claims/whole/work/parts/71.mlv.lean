/-! ===== the model's sequence: one step ===== -/
theorem slt_ne {r r' k k' : Nat} (hk : k < 9) (hk' : k' < 9) (h : r ≠ r') : slt r k ≠ slt r' k' := by unfold slt; omega
theorem slt_lt {r k : Nat} (hr : r < 48) (hk : k < 9) : slt r k < 460 := by unfold slt; omega
theorem slt_ge (r k : Nat) : 20 ≤ slt r k := by unfold slt; omega
theorem lvs_cp {fu C ra rc dA : Nat} {σ0 : rr_M} {Y0 : Nat → Int} {A : Pl} (hfu : 70000 < fu) (hra : ra < 48) (hrc : rc < 48) (hac : ra ≠ rc) (hdA : dA < 9) (hA : rwY Y0 ra A) (hA0 : ∀ k, dA < k → A k = 0) (hdg : mg_i σ0 (C + 6) ra = nI dA) {kk : rr_M → Option (Int32 × rr_M)} {Q : Int32 × rr_M → Prop}
    (hk : ∀ (σ : rr_M) (Y : Nat → Int), LM C σ Y → frm C σ0 σ → (∀ s, (∀ j, j < 9 → s ≠ slt rc j) → Y s = Y0 s) → rwY Y rc A → wq (kk σ) Q) :
    ∀ (f k : Nat) (σ : rr_M) (Y : Nat → Int), k ≤ 9 → 10 - k ≤ f → LM C σ Y → frm C σ0 σ → (∀ s, (∀ j, j < 9 → s ≠ slt rc j) → Y s = Y0 s) → (∀ j, j < k → Y (slt rc j) = A j) →
      wq (l_Mod_leaves_33 fu (nm C) C (nI ra) (nI rc) f (nI k) σ kk) Q
  | 0, k, σ, Y, h1, h2, _, _, _, _ => by omega
  | f + 1, k, σ, Y, h1, h2, hY, hF, hO, hN => by
    rw [l_Mod_leaves_33]
    by_cases hkt : k = 9
    · subst hkt
      exact wq_ip (by decide) (hk σ Y hY hF hO hN)
    · have c0 : ¬ (9 : Int32) ≤ nI k := nI_ge (b := 9) (by omega) (by omega)
      have ma : rr_n (nI ra) = ra := n_nI (by omega)
      have hd1 : mg_i σ (C + 6) ra = nI dA := by rw [frm_i hF (by omega) (by omega) (by omega)]; exact hdg
      rw [if_neg c0]
      dsimp only [rr_lt, rr_jn]
      rw [mrf_6 hY.1, ma, hd1]
      refine wq_ip (ix6 hra) ?_
      have fin : ∀ (r : Unit × rr_M) (v : Int), LM C r.2 (yup Y (slt rc k) v) → frm C σ r.2 → v = A k → wq (l_Mod_leaves_33 fu (nm C) C (nI ra) (nI rc) f (nI k + 1) r.2 kk) Q := by
        intro r v L F hv
        rw [nI_1]
        refine lvs_cp hfu hra hrc hac hdA hA hA0 hdg hk f (k + 1) r.2 _ (by omega) (by omega) L (frm_tr hF F) ?_ ?_
        · intro s hs
          rw [yup_n (hs k (by omega))]
          exact hO s hs
        · intro j hj
          by_cases hjk : j = k
          · subst hjk; rw [yup_s]; exact hv
          · rw [yup_n (by unfold slt; omega)]; exact hN j (by omega)
      by_cases hd : dA < k
      · rw [if_pos (nI_lt hd (by omega)), slot_ok]
        refine wq_ob (wq_some (wq_bd (wq_mo (mo_sets (v := 0) hfu hY (slt_lt hrc (by omega)) (by decide)) ?_)))
        rintro r ⟨L, F⟩
        exact fin r _ L F (by rw [hA0 k hd]; rfl)
      · rw [if_neg (nI_nlt (by omega) (by omega)), slot_ok, slot_ok]
        refine wq_ob (wq_some (wq_ob (wq_some (wq_bd (wq_mo (mo_copies hfu hY (slt_lt hra (by omega)) (slt_lt hrc (by omega))) ?_)))))
        rintro r ⟨L, F⟩
        refine fin r _ L F ?_
        rw [hO _ (fun j hj => slt_ne (by omega) hj hac)]
        exact hA k (by omega)
theorem lvs_out {fu C rb rc dA dB eA eB : Nat} {σ0 : rr_M} {Y0 : Nat → Int} {A B : Pl} (hfu : 70000 < fu) (hrb : rb < 48) (hrc : rc < 48) (hbc : rb ≠ rc) (hdA : dA < 9) (hdB : dB ≤ dA) (hB : rwY Y0 rb B) (hdg : mg_i σ0 (C + 6) rb = nI dB) (hA0 : ∀ t, dA < t → A t = 0) (hB0 : ∀ t, dB < t → B t = 0) (sA : ∀ j, szb eA (A j)) (sB : ∀ j, szb eB (B j)) (hee : eA + (dA - dB + 1) * (eB + 1) + eB ≤ 3000) {kk : rr_M → Option (Int32 × rr_M)} {Q : Int32 × rr_M → Prop}
    (hk : ∀ (σ : rr_M) (Y : Nat → Int), LM C σ Y → frm C σ0 σ → (∀ s, s ≠ 0 → s ≠ 1 → s ≠ 2 → (∀ j, j < 9 → s ≠ slt rc j) → Y s = Y0 s) → rwY Y rc (prs (B dB) B dB A dA (dA - dB + 1)) → wq (kk σ) Q) :
    ∀ (f t : Nat) (σ : rr_M) (Y : Nat → Int), dB ≤ t → t ≤ dA + 1 → t + 1 - dB ≤ f → LM C σ Y → frm C σ0 σ → (∀ s, s ≠ 0 → s ≠ 1 → s ≠ 2 → (∀ j, j < 9 → s ≠ slt rc j) → Y s = Y0 s) → rwY Y rc (prs (B dB) B dB A dA (dA + 1 - t)) →
      wq (l_Mod_leaves_114 fu (nm C) C (nI rb) (nI rc) (nI (slt rb dB)) f (nI t - 1) σ kk) Q
  | 0, t, σ, Y, h1, h1', h2, _, _, _, _ => by omega
  | f + 1, t, σ, Y, h1, h1', h2, hY, hF, hO, hN => by
    rw [l_Mod_leaves_114]
    have mb : rr_n (nI rb) = rb := n_nI (by omega)
    have hd1 : mg_i σ (C + 6) rb = nI dB := by rw [frm_i hF (by omega) (by omega) (by omega)]; exact hdg
    dsimp only [rr_lt, rr_jn]
    rw [mrf_6 hY.1, mb, hd1]
    refine wq_ip (ix6 hrb) ?_
    by_cases htd : t = dB
    · have c0 : nI t - 1 < nI dB := by
        rw [Int32.lt_iff_toInt_lt, show (1 : Int32) = nI 1 from rfl, nI_subT (by omega) (by omega), nI_t dB (by omega)]
        omega
      rw [if_pos c0]
      refine hk σ Y hY hF hO ?_
      rw [htd, show dA + 1 - dB = dA - dB + 1 by omega] at hN
      exact hN
    · obtain ⟨top, rfl⟩ : ∃ top, t = top + 1 := ⟨t - 1, by omega⟩
      have e1 : nI (top + 1) - 1 = nI top := nI_pred top
      have c0 : ¬ nI top < nI dB := nI_nlt (by omega) (by omega)
      obtain ⟨m, hm⟩ : ∃ m, m = dA + 1 - (top + 1) := ⟨_, rfl⟩
      have htop : top = dA - m := by omega
      rw [e1, if_neg c0, slot_ok]
      refine wq_ob (wq_some (wq_bd (wq_mo (mo_copies (t := 0) hfu hY (slt_lt hrc (show top < 9 by omega)) (by omega)) ?_)))
      rintro r1 ⟨L1, F1⟩
      have hY1 : ∀ i, i < 9 → yup Y 0 (Y (slt rc top)) (slt rb i) = B i := fun i hi => by
        have := slt_ge rb i
        rw [yup_n (by omega), hO _ (by omega) (by omega) (by omega) (fun j hj => slt_ne hi hj hbc)]
        exact hB i hi
      rw [← hm] at hN
      have hee2 : eA + m * (eB + 1) + eB ≤ 3000 := by
        have : m * (eB + 1) ≤ (dA - dB + 1) * (eB + 1) := Nat.mul_le_mul_right _ (by omega)
        omega
      refine lvs_in (σ0 := r1.2) (Y0 := yup Y 0 (Y (slt rc top))) (od := prs (B dB) B dB A dA m) (B := B) (top := top) (dB := dB) (eO := eA + m * (eB + 1)) (eB := eB) hfu hrb hrc hbc (by omega) (by omega) (by rw [yup_s]; exact hN top (by omega)) hY1 (by rw [frm_i F1 (by omega) (by omega) (by omega)]; exact hd1) (prs_bit (sB dB) sB sA m) sB hee2 ?_ fu 0 r1.2 _ (by omega) (by omega) L1 (frm_rfl _ _) (fun _ _ _ _ => rfl) (fun j hj => ?_)
      · intro σ2 Y2 L2 F2 O2 V2
        refine wq_ob (wq_some (wq_bd (wq_mo (mo_sets (v := 0) hfu L2 (slt_lt hrc (show top < 9 by omega)) (by decide)) ?_)))
        rintro r3 ⟨L3, F3⟩
        have e2 : nI top + (-1) = nI top - 1 := (Int32.sub_eq_add_neg (nI top) 1).symm
        rw [e2]
        refine lvs_out hfu hrb hrc hbc hdA hdB hB hdg hA0 hB0 sA sB hee hk f top r3.2 _ (by omega) (by omega) (by omega) L3 (frm_tr hF (frm_tr F1 (frm_tr F2 F3))) ?_ ?_
        · intro s s0 s1 s2 s3
          rw [yup_n (s3 top (by omega)), O2 s s1 s2 s3, yup_n s0]
          exact hO s s0 s1 s2 s3
        · intro j hj
          rw [show dA + 1 - top = m + 1 by omega]
          have hhi := prs_hi (b := B dB) (B := B) (A := A) hdB rfl hA0 hB0
          by_cases hjt : j = top
          · subst hjt
            rw [yup_s, hhi (m + 1) (by omega) j (by omega)]
            rfl
          · rw [yup_n (by unfold slt; omega), V2 j hj]
            by_cases hj2 : j < top
            · rw [if_pos hj2]
              simp only [prs, pad, psc, shf, ← htop]
              by_cases hj3 : top - dB ≤ j
              · rw [if_pos hj3, if_neg (by omega)]
                grind
              · rw [if_neg hj3, if_pos (by omega)]
                omega
            · rw [if_neg hj2, hhi m (by omega) j (by omega), hhi (m + 1) (by omega) j (by omega)]
      · rw [if_neg (by omega), yup_n (by have := slt_ge rc j; omega)]
        exact hN j hj
theorem lvs_gh {fu C δ eg eh hs : Nat} {σ0 : rr_M} {Y0 : Nat → Int} (hfu : 70000 < fu) (hhs : 6 ≤ hs) (hhs2 : hs < 460) (hδ : δ < 9) (sg : szb eg (Y0 3)) (sh : szb eh (Y0 hs)) (hee : eg + δ * eh ≤ 3000) {kk : rr_M → Option (Int32 × rr_M)} {Q : Int32 × rr_M → Prop}
    (hk : ∀ (σ : rr_M) (Y : Nat → Int), LM C σ Y → frm C σ0 σ → (∀ s, s ≠ 3 → s ≠ 4 → Y s = Y0 s) → Y 3 = Y0 3 * Y0 hs ^ δ → wq (kk σ) Q) :
    ∀ (f k : Nat) (σ : rr_M) (Y : Nat → Int), k ≤ δ → δ + 1 - k ≤ f → LM C σ Y → frm C σ0 σ → (∀ s, s ≠ 3 → s ≠ 4 → Y s = Y0 s) → Y 3 = Y0 3 * Y0 hs ^ k →
      wq (l_Mod_leaves_248 fu (nm C) C (nI hs) (nI δ) f (nI k) σ kk) Q
  | 0, k, σ, Y, h1, h2, _, _, _, _ => by omega
  | f + 1, k, σ, Y, h1, h2, hY, hF, hO, h3 => by
    rw [l_Mod_leaves_248]
    by_cases hkt : k = δ
    · subst hkt
      exact wq_ip (nI_le (Nat.le_refl _) (by omega)) (hk σ Y hY hF hO h3)
    · have c0 : ¬ nI δ ≤ nI k := nI_ge (by omega) (by omega)
      have hYh : Y hs = Y0 hs := hO hs (by omega) (by omega)
      have hb : eg + k * eh + eh ≤ 3000 := by
        have : (k + 1) * eh ≤ δ * eh := Nat.mul_le_mul_right _ (by omega)
        rw [Nat.succ_mul] at this
        omega
      rw [if_neg c0]
      refine wq_bd (wq_mo (mo_mulb (t := 4) (a := 3) (e1 := eg + k * eh) (e2 := eh) hfu hY (by omega) (by omega) hhs2 (by omega) (by omega) (by rw [h3, Nat.mul_comm k eh]; exact szb_mul sg (szb_pow sh k)) (by rw [hYh]; exact sh) (by omega)) ?_)
      rintro r1 ⟨L1, F1⟩
      refine wq_bd (wq_mo (mo_copies (t := 3) (s := 4) hfu L1 (by omega) (by omega)) ?_)
      rintro r2 ⟨L2, F2⟩
      dsimp only [rr_lt]
      rw [nI_1]
      refine lvs_gh hfu hhs hhs2 hδ sg sh hee hk f (k + 1) r2.2 _ (by omega) (by omega) L2 (frm_tr hF (frm_tr F1 F2)) ?_ ?_
      · intro s s3 s4
        rw [yup_n s3, yup_n s4]
        exact hO s s3 s4
      · rw [yup_s, yup_s, h3, hYh, Int.pow_succ, Int.mul_assoc]
theorem lvs_dv {fu C rb rc dB : Nat} {σ0 : rr_M} {Y0 : Nat → Int} {R m : Pl} (hfu : 70000 < fu) (hrb : rb < 48) (hrc : rc < 48) (hdB : dB < 9) (hdg : mg_i σ0 (C + 6) rb = nI dB) (hR : rwY Y0 rc R) (hd0 : Y0 3 ≠ 0) (hm : ∀ k, Y0 3 * m k = R k) (hR0 : ∀ k, dB ≤ k → R k = 0) {kk : rr_M → Option (Int32 × rr_M)} {Q : Int32 × rr_M → Prop}
    (hk : ∀ (σ : rr_M) (Y : Nat → Int), LM C σ Y → frm C σ0 σ → (∀ s, s ≠ 4 → s ≠ 5 → (∀ j, j < 9 → s ≠ slt rc j) → Y s = Y0 s) → rwY Y rc m → wq (kk σ) Q) :
    ∀ (f k : Nat) (σ : rr_M) (Y : Nat → Int), k ≤ dB → dB + 1 - k ≤ f → LM C σ Y → frm C σ0 σ → (∀ s, s ≠ 4 → s ≠ 5 → (∀ j, j < 9 → s ≠ slt rc j) → Y s = Y0 s) → (∀ j, j < 9 → Y (slt rc j) = if j < k then m j else R j) →
      wq (l_Mod_leaves_285 fu (nm C) C (nI rb) (nI rc) f (nI k) σ kk) Q
  | 0, k, σ, Y, h1, h2, _, _, _, _ => by omega
  | f + 1, k, σ, Y, h1, h2, hY, hF, hO, hN => by
    rw [l_Mod_leaves_285]
    have mb : rr_n (nI rb) = rb := n_nI (by omega)
    have hd1 : mg_i σ (C + 6) rb = nI dB := by rw [frm_i hF (by omega) (by omega) (by omega)]; exact hdg
    dsimp only [rr_lt, rr_jn]
    rw [mrf_6 hY.1, mb, hd1]
    refine wq_ip (ix6 hrb) ?_
    by_cases hkt : k = dB
    · subst hkt
      refine wq_ip (nI_le (Nat.le_refl _) (by omega)) (hk σ Y hY hF hO (fun j hj => ?_))
      rw [hN j hj]
      split
      · rfl
      · rename_i hj2
        have h5 := hm j
        rw [hR0 j (by omega)] at h5
        rw [hR0 j (by omega)]
        rcases Int.mul_eq_zero.mp h5 with h | h
        · exact absurd h hd0
        · exact h.symm
    · have c0 : ¬ nI dB ≤ nI k := nI_ge (by omega) (by omega)
      have h3 : Y 3 = Y0 3 := hO 3 (by omega) (by omega) (fun j _ => by have := slt_ge rc j; omega)
      have hYk : Y (slt rc k) = R k := by rw [hN k (by omega), if_neg (by omega)]
      have hsl := slt_ge rc k
      rw [if_neg c0, slot_ok]
      refine wq_ob (wq_some (wq_bd (wq_mo (mo_parts (t := 4) (u := 5) (b := 3) hfu hY (by omega) (by omega) (slt_lt hrc (show k < 9 by omega)) (by omega) (by omega) (by omega) (by omega) (by omega) (by rw [h3]; exact hd0)) ?_)))
      rintro r1 ⟨L1, F1⟩
      refine wq_ob (wq_some (wq_bd (wq_mo (mo_copies (s := 4) hfu L1 (by omega) (slt_lt hrc (show k < 9 by omega))) ?_)))
      rintro r2 ⟨L2, F2⟩
      rw [nI_1]
      refine lvs_dv hfu hrb hrc hdB hdg hR hd0 hm hR0 hk f (k + 1) r2.2 _ (by omega) (by omega) L2 (frm_tr hF (frm_tr F1 F2)) ?_ ?_
      · intro s s4 s5 s6
        rw [yup_n (s6 k (by omega)), yup_n s5, yup_n s4]
        exact hO s s4 s5 s6
      · intro j hj
        by_cases hjk : j = k
        · subst hjk
          rw [yup_s, yup_n (by omega), yup_s, if_pos (by omega), hYk, h3, ← hm j, Int.mul_tdiv_cancel_left _ hd0]
        · have := slt_ge rc j
          rw [yup_n (by unfold slt; omega), yup_n (by omega), yup_n (by omega), hN j hj]
          by_cases hj2 : j < k
          · rw [if_pos hj2, if_pos (show j < k + 1 by omega)]
          · rw [if_neg hj2, if_neg (show ¬ j < k + 1 by omega)]
theorem lvs_dg {fu C r : Nat} {σ : rr_M} {Y : Nat → Int} {f : Pl} (hr : r < 48) (hY : LM C σ Y) (hf : rwY Y r f) : ∀ (n fl : Nat), n ≤ 9 → n < fl → l_Mod_degreeOfRow_2 fu (nm C) C (nI r) σ fl (nI n - 1) (fun v => some v) = some (nI (lnn n f) - 1)
  | 0, fl + 1, _, _ => by
    rw [l_Mod_degreeOfRow_2, if_pos (by decide)]
    rfl
  | n + 1, fl + 1, h1, h2 => by
    have e1 : nI (n + 1) - 1 = nI n := nI_pred n
    have c1 : ¬ nI n < 0 := nI_pos (by omega)
    have e2 : nI n + (-1) = nI n - 1 := (Int32.sub_eq_add_neg (nI n) 1).symm
    have ms : rr_n (nI (slt r n)) = slt r n := n_nI (by have := slt_lt hr (show n < 9 by omega); omega)
    rw [l_Mod_degreeOfRow_2, e1, if_neg c1, slot_ok]
    simp only [rr_lt, Option.bind, mrf_3 hY.1, ix3 (C := C) (slt_lt hr (show n < 9 by omega)), ms, if_true, mo_sign hY (slt_lt hr (show n < 9 by omega)), hf n (by omega), e2, lnn, sgI_0]
    by_cases h0 : f n = 0
    · rw [if_pos h0, if_pos h0]
      exact lvs_dg hr hY hf n fl (by omega) (by omega)
    · rw [if_neg h0, if_neg h0, e1]
theorem lnn_cut {f : Pl} {n : Nat} (h : ∀ t, n ≤ t → f t = 0) : ∀ m, n ≤ m → lnn m f = lnn n f
  | 0, hm => by rw [show n = 0 by omega]
  | m + 1, hm => by
    by_cases hmn : n = m + 1
    · rw [hmn]
    · rw [lnn, if_pos (h m (by omega))]
      exact lnn_cut h m (by omega)
