/-! ===== the model: division of rows; what a row's numbers share ===== -/
theorem mdv_z {fu C ri rp : Nat} {σ : rr_M} {g0 : Nat → Int64} (hm : mrf C σ) (hri : ri < 22) (hrp : rp < 22) (hip : ri ≠ rp) {kk : rr_M → Option (Unit × rr_M)} {Q : Unit × rr_M → Prop}
    (hk : ∀ g, (∀ i, i < 198 → (i < 9 * ri ∨ 9 * ri + 9 ≤ i) → g i = g0 i) → (∀ j, j < 9 → g (9 * ri + j) = 0) → (∀ j, j < 9 → g (198 + j) = g0 (9 * rp + j)) → wq (kk (mw_l σ (C + 8) g)) Q) :
    ∀ (fl k : Nat) (g : Nat → Int64), k ≤ 9 → 10 - k ≤ fl → (∀ i, i < 198 → (i < 9 * ri ∨ 9 * ri + 9 ≤ i) → g i = g0 i) → (∀ j, j < k → g (9 * ri + j) = 0) → (∀ j, j < k → g (198 + j) = g0 (9 * rp + j)) →
      wq (l_Mod_divides_3 fu (nm C) C (nI ri) (nI rp) fl (nI k) (mw_l σ (C + 8) g) kk) Q
  | 0, k, g, h1, h2, _, _, _ => by omega
  | fl + 1, k, g, h1, h2, hg, hz, hr => by
    have hmw : mrf C (mw_l σ (C + 8) g) := hm
    rw [l_Mod_divides_3]
    by_cases hk9 : k = 9
    · subst hk9
      exact wq_ip (by decide) (hk g hg hz hr)
    · have c0 : ¬ (9 : Int32) ≤ nI k := nI_ge (b := 9) (by omega) (by omega)
      have e22 : (22 : Int32) = nI 22 := rfl
      rw [if_neg c0, mat_ok hmw (by omega) (by omega), e22]
      refine wq_ob (wq_some ?_)
      rw [mput_ok hmw (by omega) (by omega)]
      refine wq_bd (wq_some ?_)
      dsimp only
      rw [mw_ms, mw_gsk]
      have hmw2 : mrf C (mw_l σ (C + 8) (vp_updL g (9 * 22 + k) (g (9 * rp + k)))) := hm
      rw [mput_ok hmw2 (by omega) (by omega)]
      refine wq_bd (wq_some ?_)
      dsimp only [rr_lt]
      rw [mw_ms, nI_1]
      refine mdv_z hm hri hrp hip hk fl (k + 1) _ (by omega) (by omega) (fun i hi hi2 => ?_) (fun j hj => ?_) (fun j hj => ?_)
      · rw [upL_n (by omega), upL_n (by omega)]; exact hg i hi hi2
      · by_cases hjk : j = k
        · subst hjk; rw [upL_s]
        · rw [upL_n (by omega), upL_n (by omega)]; exact hz j (by omega)
      · by_cases hjk : j = k
        · subst hjk
          rw [upL_n (by omega), show 9 * 22 + j = 198 + j by omega, upL_s, hg _ (by omega) (by omega)]
        · rw [upL_n (by omega), upL_n (by omega)]; exact hr j (by omega)
theorem mdv_ok {fu C ri rp rb d n : Nat} {σ : rr_M} {D H : Pl} (hfu : 400 < fu) (hm : mrf C σ) (hri : ri < 22) (hrp : rp < 22) (hrb : rb < 22) (hip : ri ≠ rp) (hib : ri ≠ rb) (hnd : n + d < 9) (hdD : dgr D d) (hdH : dgr H n) (hD : mpo C σ rb D) (hP : mpo C σ rp (pmu D H)) (hsz : ∀ k, -4611686018427387904 < D d * H k ∧ D d * H k < 4611686018427387904) :
    wq (f_Mod_divides fu (nm C) C (nI ri) (nI rp) (nI rb) σ) (fun y => ∃ g, y.2 = mw_l σ (C + 8) g ∧ (∀ i, i < 198 → (i < 9 * ri ∨ 9 * ri + 9 ≤ i) → g i = mg_l σ (C + 8) i) ∧ mpo C y.2 ri H) := by
  have e1 : dln D = d + 1 := dln_dgr hdD (by omega)
  have hdP : dgr (pmu D H) (n + d) := by
    refine ⟨?_, fun t ht => pmu_hi (m := d) (n := n) (fun t ht => hdD.2 t ht) (fun t ht => hdH.2 t ht) t (by omega)⟩
    rw [Nat.add_comm, pmu_top (m := d) (n := n) (fun t ht => hdD.2 t ht) (fun t ht => hdH.2 t ht)]
    exact Int.mul_ne_zero hdD.1 hdH.1
  have e2 : dln (pmu D H) = n + d + 1 := dln_dgr hdP hnd
  unfold f_Mod_divides
  have key : wq (l_Mod_divides_3 fu (nm C) C (nI ri) (nI rp) fu (nI 0) (mw_l σ (C + 8) (mg_l σ (C + 8))) (fun σ_9 =>
      Option.bind (f_Mod_degreeOf fu (nm C) C (nI rb) σ_9) fun r_10 => Option.bind (f_Mod_degreeOf fu (nm C) C (nI rp) σ_9) fun r_12 => l_Mod_divides_56 fu (nm C) C (nI ri) (nI rb) r_10 fu (r_12 - r_10) σ_9 (fun σ_34 => some ((), σ_34)))) (fun y => ∃ g, y.2 = mw_l σ (C + 8) g ∧ (∀ i, i < 198 → (i < 9 * ri ∨ 9 * ri + 9 ≤ i) → g i = mg_l σ (C + 8) i) ∧ mpo C y.2 ri H) := by
    refine mdv_z (g0 := mg_l σ (C + 8)) hm hri hrp hip ?_ fu 0 _ (by omega) (by omega) (fun _ _ _ => rfl) (fun j hj => absurd hj (by omega)) (fun j hj => absurd hj (by omega))
    intro g hg hz hr
    have hmw : mrf C (mw_l σ (C + 8) g) := hm
    have hDg : mpo C (mw_l σ (C + 8) g) rb D := fun j hj => by rw [mw_gsk, hg _ (by omega) (by omega)]; exact hD j hj
    have hPg : mpo C (mw_l σ (C + 8) g) rp (pmu D H) := fun j hj => by rw [mw_gsk, hg _ (by omega) (by omega)]; exact hP j hj
    rw [mdg_ok hfu hmw (by omega) hDg, mdg_ok hfu hmw (by omega) hPg, e1, e2]
    refine wq_ob (wq_some (wq_ob (wq_some ?_)))
    have ed : nI (d + 1) - 1 = nI d := nI_pred d
    have en : nI (n + d + 1) - 1 - nI d = nI (n + 1) - 1 := by
      rw [nI_pred, nI_pred, nI_sub (by omega), Nat.add_sub_cancel]
    rw [ed, en]
    have htr : trn (n + 1) H = H := pl_ext (fun t => by
      show (if t < n + 1 then H t else 0) = H t
      by_cases h : t < n + 1
      · rw [if_pos h]
      · rw [if_neg h, hdH.2 t (by omega)])
    refine mdv_out (g0 := g) (D := D) (H := H) (n := n) hfu hm hri hrb hib hnd hdD (fun j hj => by have := hDg j hj; rw [mw_gsk] at this; exact this) hsz ?_ (n + 1) fu g (Nat.le_refl _) (by omega) (fun _ _ _ => rfl) (fun j hj => by rw [hz j hj, if_neg (by omega)]; rfl) (fun j hj => ?_)
    · intro g' hg' hu'
      refine wq_some ⟨g', rfl, fun i hi hi2 => by rw [hg' i hi hi2]; exact hg i hi hi2, fun j hj => ?_⟩
      show (mg_l (mw_l σ (C + 8) g') (C + 8) (9 * ri + j)).toInt = H j
      rw [mw_gsk, hu' j hj]
      by_cases h : j < n + 1
      · rw [if_pos h]
      · rw [if_neg h, hdH.2 j (by omega)]
    · rw [htr, hr j hj, ← hP j hj]; exact cg_rfl _
  rw [mw_id] at key
  exact key
-- what a row's numbers share
theorem LM_abs {C s : Nat} {σ : rr_M} {Y : Nat → Int} (h : LM C σ Y) (hs : s < 460) (h0 : Y s ≠ 0) : LM C (ms_i σ (C + 3) s 1) (yup Y s ((Y s).natAbs : Int)) := by
  refine LM_onl h onl_sign ?_
  obtain ⟨n, z1, z2, z3, z4, z5, z6⟩ := h.2 s hs
  refine ⟨n, z1, by rw [si_row (by omega)]; exact z2, by rw [si_row (by omega)]; exact z3, by rw [si_row (by omega)]; exact z4, by rw [si_row (by omega), z5]; simp, ?_⟩
  rw [si_s, Int.sign_eq_one_of_pos (by omega)]
  rfl
theorem tmod_abs (a b : Int) : (a.tmod b).natAbs = a.natAbs % b.natAbs := Int.natAbs_tmod a b
theorem euc_half {b r : Nat} (h : r < b) (hr : 0 < r) : 2 * (b % r) < b := by
  rcases Nat.lt_or_ge b (2 * r) with h1 | h1
  · rw [Nat.mod_eq_sub_mod (by omega), Nat.mod_eq_of_lt (by omega)]
    omega
  · have := Nat.mod_lt b hr
    omega
theorem ctt_e {fu C : Nat} {σ0 : rr_M} {Y0 : Nat → Int} (hfu : 70000 < fu) {kk : rr_M → Option (Unit × rr_M)} {Q : Unit × rr_M → Prop} {G : Nat}
    (hk : ∀ (σ : rr_M) (Y : Nat → Int), LM C σ Y → frm C σ0 σ → (∀ s, s ≠ 11 → s ≠ 12 → s ≠ 13 → s ≠ 14 → Y s = Y0 s) → Y 11 ≠ 0 → (Y 11).natAbs = G → wq (kk σ) Q) :
    ∀ (e f : Nat) (σ : rr_M) (Y : Nat → Int), (Y 12).natAbs < 2 ^ e → 2 * e + 2 ≤ f → LM C σ Y → frm C σ0 σ → (∀ s, s ≠ 11 → s ≠ 12 → s ≠ 13 → s ≠ 14 → Y s = Y0 s) → Y 11 ≠ 0 → Nat.gcd (Y 11).natAbs (Y 12).natAbs = G →
      wq (l_Mod_contents_48 fu (nm C) C f σ kk) Q := by
  have one : ∀ (f : Nat) (σ : rr_M) (Y : Nat → Int), LM C σ Y → frm C σ0 σ → (∀ s, s ≠ 11 → s ≠ 12 → s ≠ 13 → s ≠ 14 → Y s = Y0 s) → Y 12 ≠ 0 →
      (∀ (σ' : rr_M) (Y' : Nat → Int), LM C σ' Y' → frm C σ0 σ' → (∀ s, s ≠ 11 → s ≠ 12 → s ≠ 13 → s ≠ 14 → Y' s = Y0 s) → Y' 11 = Y 12 → Y' 12 = (Y 11).tmod (Y 12) → wq (l_Mod_contents_48 fu (nm C) C f σ' kk) Q) → wq (l_Mod_contents_48 fu (nm C) C (f + 1) σ kk) Q := by
    intro f σ Y hY hF hO h0 hnext
    have i12 : rr_ix 12 (nm C (C + 3)) = true := ix3 (s := 12) (by omega)
    have m12 : rr_n 12 = 12 := rfl
    rw [l_Mod_contents_48]
    dsimp only [rr_lt]
    rw [mrf_3 hY.1, m12, mo_sign hY (show 12 < 460 by omega), if_neg (fun hh => h0 (sgI_0.mp hh))]
    refine wq_ip i12 ?_
    refine wq_bd (wq_mo (mo_parts (t := 13) (u := 14) (a := 11) (b := 12) hfu hY (by omega) (by omega) (by omega) (by omega) (by omega) (by omega) (by omega) (by omega) h0) ?_)
    rintro r1 ⟨L1, F1⟩
    refine wq_bd (wq_mo (mo_copies (t := 11) (s := 12) hfu L1 (by omega) (by omega)) ?_)
    rintro r2 ⟨L2, F2⟩
    refine wq_bd (wq_mo (mo_copies (t := 12) (s := 14) hfu L2 (by omega) (by omega)) ?_)
    rintro r3 ⟨L3, F3⟩
    refine hnext r3.2 _ L3 (frm_tr hF (frm_tr F1 (frm_tr F2 F3))) (fun s s1 s2 s3 s4 => ?_) ?_ ?_
    · rw [yup_n s2, yup_n s1, yup_n s4, yup_n s3]
      exact hO s s1 s2 s3 s4
    · rw [yup_n (by omega), yup_s, yup_n (by omega), yup_n (by omega)]
    · rw [yup_s, yup_n (by omega), yup_s]
  have stop : ∀ (f : Nat) (σ : rr_M) (Y : Nat → Int), LM C σ Y → frm C σ0 σ → (∀ s, s ≠ 11 → s ≠ 12 → s ≠ 13 → s ≠ 14 → Y s = Y0 s) → Y 11 ≠ 0 → Y 12 = 0 → Nat.gcd (Y 11).natAbs (Y 12).natAbs = G → wq (l_Mod_contents_48 fu (nm C) C (f + 1) σ kk) Q := by
    intro f σ Y hY hF hO h11 h12 hG
    have i12 : rr_ix 12 (nm C (C + 3)) = true := ix3 (s := 12) (by omega)
    have m12 : rr_n 12 = 12 := rfl
    rw [l_Mod_contents_48]
    dsimp only [rr_lt]
    rw [mrf_3 hY.1, m12, mo_sign hY (show 12 < 460 by omega), h12, if_pos (show sgI 0 = 0 from rfl)]
    rw [h12] at hG
    simp only [Int.natAbs_zero, Nat.gcd_zero_right] at hG
    exact wq_ip i12 (hk σ Y hY hF hO h11 hG)
  intro e
  induction e with
  | zero =>
    intro f σ Y hlt hf hY hF hO h11 hG
    obtain ⟨f', rfl⟩ : ∃ f', f = f' + 1 := ⟨f - 1, by omega⟩
    exact stop f' σ Y hY hF hO h11 (by simp at hlt; omega) hG
  | succ e ih =>
    intro f σ Y hlt hf hY hF hO h11 hG
    obtain ⟨f', rfl⟩ : ∃ f', f = f' + 1 + 1 := ⟨f - 2, by omega⟩
    by_cases h0 : Y 12 = 0
    · exact stop (f' + 1) σ Y hY hF hO h11 h0 hG
    · refine one (f' + 1) σ Y hY hF hO h0 (fun σ1 Y1 L1 F1 O1 a1 b1 => ?_)
      have hG1 : Nat.gcd (Y1 11).natAbs (Y1 12).natAbs = G := by
        rw [a1, b1, tmod_abs, ← hG, Nat.gcd_comm (Y 12).natAbs, ← Nat.gcd_rec, Nat.gcd_comm]
      by_cases h1 : Y1 12 = 0
      · exact stop f' σ1 Y1 L1 F1 O1 (by rw [a1]; exact h0) h1 hG1
      · refine one f' σ1 Y1 L1 F1 O1 h1 (fun σ2 Y2 L2 F2 O2 a2 b2 => ?_)
        refine ih f' σ2 Y2 ?_ (by omega) L2 F2 O2 (by rw [a2]; exact h1) ?_
        · rw [b2, tmod_abs, a1]
          have hr : (Y1 12).natAbs < (Y 12).natAbs := by rw [b1, tmod_abs]; exact Nat.mod_lt _ (by omega)
          have := euc_half hr (by omega)
          rw [Nat.pow_succ] at hlt
          omega
        · rw [a2, b2, tmod_abs, ← hG1, Nat.gcd_comm (Y1 12).natAbs, ← Nat.gcd_rec, Nat.gcd_comm]
