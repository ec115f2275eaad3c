/-! ===== quotients of polynomials in longs, whole ===== -/
theorem cqo_z {fu B o0 : Nat} {σ : rr_M} (n0 : nx B (B + o0) = 9) {kk : rr_M → Option (Unit × rr_M)} {Q : Unit × rr_M → Prop} (hk : ∀ u : Nat → Int64, (∀ j, j < 9 → u j = 0) → wq (kk (mw_l σ (B + o0) u)) Q) :
    ∀ (fl k : Nat) (u : Nat → Int64), k ≤ 9 → 10 - k ≤ fl → (∀ j, j < k → u j = 0) → wq (l_Num_setQuotient_8 fu (nx B) (B + o0) fl (nI k) (mw_l σ (B + o0) u) kk) Q
  | 0, k, u, h1, h2, _ => by omega
  | fl + 1, k, u, h1, h2, hu => by
    rw [l_Num_setQuotient_8, n0]
    by_cases hk9 : k = 9
    · subst hk9
      exact wq_ip (by decide) (hk u hu)
    · have c0 : ¬ nI 9 ≤ nI k := nI_ge (by omega) (by omega)
      have mk : rr_n (nI k) = k := n_nI (by omega)
      dsimp only [rr_lt]
      rw [if_neg c0, mk, mw_ms, nI_1]
      refine wq_ip (ix_nI (by omega) (by omega)) (cqo_z n0 hk fl (k + 1) _ (by omega) (by omega) (fun j hj => ?_))
      by_cases hjk : j = k
      · subst hjk; rw [upL_s]
      · rw [upL_n hjk]; exact hu j (by omega)
theorem cqo_ok {fu B o0 o1 o2 d n : Nat} {σ : rr_M} {D H : Pl} (hfu : 400 < fu) (h01 : o0 ≠ o1) (h02 : o2 ≠ o0) (h12 : o2 ≠ o1) (n0 : nx B (B + o0) = 9) (n1 : nx B (B + o1) = 9) (n2 : nx B (B + o2) = 9) (hnd : n + d < 9) (hdD : dgr D d) (hdH : dgr H n) (hD : ∀ j, j < 9 → (mg_l σ (B + o2) j).toInt = D j) (hP : ∀ j, j < 9 → (mg_l σ (B + o1) j).toInt = pmu D H j) (hsz : ∀ k, -4611686018427387904 < D d * H k ∧ D d * H k < 4611686018427387904) :
    wq (f_Num_setQuotient fu (nx B) (B + o0) (B + o1) (B + o2) σ) (fun y => ∃ u r, y.2 = mw2 σ (B + o0) (B + o1) u r ∧ ∀ j, j < 9 → (u j).toInt = H j) := by
  have e1 : dln D = d + 1 := dln_dgr hdD (by omega)
  have hdP : dgr (pmu D H) (n + d) := by
    refine ⟨?_, fun t ht => pmu_hi (m := d) (n := n) (fun t ht => hdD.2 t ht) (fun t ht => hdH.2 t ht) t (by omega)⟩
    rw [Nat.add_comm, pmu_top (m := d) (n := n) (fun t ht => hdD.2 t ht) (fun t ht => hdH.2 t ht)]
    exact Int.mul_ne_zero hdD.1 hdH.1
  have e2 : dln (pmu D H) = n + d + 1 := dln_dgr hdP hnd
  have hne0 : B + o2 ≠ B + o0 := by omega
  have hne1 : B + o1 ≠ B + o0 := by omega
  have m3 : rr_n (nI d) = d := n_nI (by omega)
  have x2 : rr_ix (nI d) (nx B (B + o2)) = true := by rw [n2]; exact ix_nI (by omega) (by omega)
  have hDd : (mg_l σ (B + o2) d).toInt = D d := hD d (by omega)
  have hne : ¬ mg_l σ (B + o2) d = 0 := fun hh => hdD.1 (by rw [← hDd, hh]; rfl)
  unfold f_Num_setQuotient
  rw [num_deg hfu n2 hD, e1]
  refine wq_ob (wq_some ?_)
  have ed : nI (d + 1) - 1 = nI d := nI_pred d
  rw [ed]
  have hst : σ = mw_l σ (B + o0) (mg_l σ (B + o0)) := (mw_id σ _).symm
  have key : wq (l_Num_setQuotient_8 fu (nx B) (B + o0) fu (nI 0) (mw_l σ (B + o0) (mg_l σ (B + o0))) (fun σ_6 => if nI d < 0 then some ((), σ_6) else if rr_ix (nI d) (nx B (B + o2)) = true then if mg_l σ_6 (B + o2) (rr_n (nI d)) = 0 then some ((), σ_6) else Option.bind (f_Num_degreeOf fu (nx B) (B + o1) σ_6) fun r_9 => l_Num_setQuotient_47 fu (nx B) (B + o0) (B + o1) (B + o2) (nI d) fu (r_9 - nI d) σ_6 (fun σ_23 => some ((), σ_23)) else none)) (fun y => ∃ u r, y.2 = mw2 σ (B + o0) (B + o1) u r ∧ ∀ j, j < 9 → (u j).toInt = H j) := by
    refine cqo_z n0 ?_ fu 0 _ (by omega) (by omega) (fun j hj => absurd hj (by omega))
    intro u hu
    rw [if_neg (nI_pos (by omega)), m3, mw_gn _ hne0, if_neg hne]
    refine wq_ip x2 ?_
    rw [num_deg (f := pmu D H) hfu n1 (fun j hj => by rw [mw_gn _ hne1]; exact hP j hj), e2]
    refine wq_ob (wq_some ?_)
    have en : nI (n + d + 1) - 1 - nI d = nI (n + 1) - 1 := by
      rw [nI_pred, nI_pred, nI_sub (by omega), Nat.add_sub_cancel]
    rw [en]
    have hs2 : mw_l σ (B + o0) u = mw2 σ (B + o0) (B + o1) u (mg_l σ (B + o1)) := by
      unfold mw2
      have : mg_l σ (B + o1) = mg_l (mw_l σ (B + o0) u) (B + o1) := (mw_gn _ hne1).symm
      rw [this, mw_id]
    rw [hs2]
    have htr : trn (n + 1) H = H := pl_ext (fun t => by
      show (if t < n + 1 then H t else 0) = H t
      by_cases h : t < n + 1
      · rw [if_pos h]
      · rw [if_neg h, hdH.2 t (by omega)])
    refine cqo_out (D := D) (H := H) (n := n) hfu h01 h02 h12 n0 n1 n2 hnd hdD hD hsz ?_ (n + 1) fu u _ (Nat.le_refl _) (by omega) (fun j hj => ?_) (fun j hj => ?_)
    · intro u' r' hu'
      refine wq_some ⟨u', r', rfl, fun j hj => ?_⟩
      rw [hu' j hj]
      by_cases h : j < n + 1
      · rw [if_pos h]
      · rw [if_neg h, hdH.2 j (by omega)]
    · rw [hu j hj, if_neg (by omega)]; rfl
    · rw [htr, ← hP j hj]; exact cg_rfl _
  rw [mw_id] at key
  exact key
-- the model's
theorem mput_ok {C r k : Nat} {σ : rr_M} {v : Int64} (hm : mrf C σ) (hr : r < 23) (hk : k < 9) : f_Mod_puts (nm C) C (nI r) (nI k) v σ = some ((), ms_l σ (C + 8) (9 * r + k) v) := by
  unfold f_Mod_puts
  have m1 : rr_n (nI (9 * r + k)) = 9 * r + k := n_nI (by omega)
  simp only [rr_lt, mrf_8 hm, e9, ix8 (C := C) (show 9 * r + k < 207 by omega), m1, if_true]
theorem mdv_in {fu C rb k d : Nat} {σ : rr_M} {D T0 : Pl} {c : Int} {v : Int64} {g0 : Nat → Int64} (hm : mrf C σ) (hrb : rb < 22) (hkd : k + d < 9) (hD : ∀ j, j < 9 → (g0 (9 * rb + j)).toInt = D j) (hv : v.toInt = c) {kk : rr_M → Option (Unit × rr_M)} {Q : Unit × rr_M → Prop}
    (hk : ∀ g, (∀ i, i < 198 → g i = g0 i) → (∀ j, j < 9 → cg (g (198 + j)) (if k ≤ j ∧ j ≤ k + d then T0 j - c * D (j - k) else T0 j)) → wq (kk (mw_l σ (C + 8) g)) Q) :
    ∀ (fl i : Nat) (g : Nat → Int64), i ≤ d + 1 → d + 2 - i ≤ fl → (∀ i, i < 198 → g i = g0 i) → (∀ j, j < 9 → cg (g (198 + j)) (if k ≤ j ∧ j < k + i then T0 j - c * D (j - k) else T0 j)) →
      wq (l_Mod_divides_94 fu (nm C) C (nI rb) (nI d) (nI k) v fl (nI i) (mw_l σ (C + 8) g) kk) Q
  | 0, i, g, h1, h2, _, _ => by omega
  | fl + 1, i, g, h1, h2, hg, hr => by
    have hmw : mrf C (mw_l σ (C + 8) g) := hm
    rw [l_Mod_divides_94]
    by_cases hit : i = d + 1
    · subst hit
      refine wq_ip (nI_lt (by omega) (by omega)) (hk g hg (fun j hj => ?_))
      have := hr j hj
      by_cases hc : k ≤ j ∧ j ≤ k + d
      · rw [if_pos (by omega)] at this; rw [if_pos hc]; exact this
      · rw [if_neg (by omega)] at this; rw [if_neg hc]; exact this
    · have c0 : ¬ nI d < nI i := nI_nlt (by omega) (by omega)
      have e22 : (22 : Int32) = nI 22 := rfl
      rw [if_neg c0, nI_add, e22, mat_ok hmw (by omega) (by omega), mat_ok hmw (by omega) (by omega)]
      refine wq_ob (wq_some (wq_ob (wq_some ?_)))
      rw [mput_ok hmw (by omega) (by omega)]
      refine wq_bd (wq_some ?_)
      dsimp only [rr_lt]
      rw [mw_gsk, mw_gsk, mw_ms, nI_1]
      refine mdv_in (T0 := T0) hm hrb hkd hD hv hk fl (i + 1) _ (by omega) (by omega) (fun i' hi' => ?_) (fun j hj => ?_)
      · rw [upL_n (by omega)]; exact hg i' hi'
      · by_cases hji : j = k + i
        · subst hji
          rw [show 9 * 22 + (k + i) = 198 + (k + i) by omega, upL_s, if_pos (by omega), show k + i - k = i by omega]
          have hc := hr (k + i) (by omega)
          rw [if_neg (by omega)] at hc
          refine cg_sub hc (cg_mul ?_ ?_)
          · rw [← hv]; exact cg_rfl _
          · rw [hg _ (by omega), ← hD i (by omega)]; exact cg_rfl _
        · rw [upL_n (by omega)]
          have := hr j hj
          by_cases hc : k ≤ j ∧ j < k + i
          · rw [if_pos hc] at this; rw [if_pos (by omega)]; exact this
          · rw [if_neg hc] at this; rw [if_neg (by omega)]; exact this
theorem mdv_out {fu C ri rb d n : Nat} {σ : rr_M} {D H : Pl} {g0 : Nat → Int64} (hfu : 400 < fu) (hm : mrf C σ) (hri : ri < 22) (hrb : rb < 22) (hib : ri ≠ rb) (hnd : n + d < 9) (hdD : dgr D d) (hD : ∀ j, j < 9 → (g0 (9 * rb + j)).toInt = D j) (hsz : ∀ k, -4611686018427387904 < D d * H k ∧ D d * H k < 4611686018427387904) {kk : rr_M → Option (Unit × rr_M)} {Q : Unit × rr_M → Prop}
    (hk : ∀ g, (∀ i, i < 198 → (i < 9 * ri ∨ 9 * ri + 9 ≤ i) → g i = g0 i) → (∀ j, j < 9 → (g (9 * ri + j)).toInt = if j < n + 1 then H j else 0) → wq (kk (mw_l σ (C + 8) g)) Q) :
    ∀ (k fl : Nat) (g : Nat → Int64), k ≤ n + 1 → k < fl → (∀ i, i < 198 → (i < 9 * ri ∨ 9 * ri + 9 ≤ i) → g i = g0 i) → (∀ j, j < 9 → (g (9 * ri + j)).toInt = if k ≤ j ∧ j < n + 1 then H j else 0) → (∀ j, j < 9 → cg (g (198 + j)) (pmu D (trn k H) j)) →
      wq (l_Mod_divides_56 fu (nm C) C (nI ri) (nI rb) (nI d) fl (nI k - 1) (mw_l σ (C + 8) g) kk) Q
  | 0, fl + 1, g, h1, h2, hg, hu, hr => by
    rw [l_Mod_divides_56, if_pos (by decide)]
    refine hk g hg (fun j hj => ?_)
    rw [hu j hj]
    by_cases hc : j < n + 1
    · rw [if_pos hc, if_pos (by omega)]
    · rw [if_neg hc, if_neg (by omega)]
  | k + 1, fl + 1, g, h1, h2, hg, hu, hr => by
    have hmw : mrf C (mw_l σ (C + 8) g) := hm
    have e1 : nI (k + 1) - 1 = nI k := nI_pred k
    have c1 : ¬ nI k < 0 := nI_pos (by omega)
    have e2 : nI k + (-1) = nI k - 1 := (Int32.sub_eq_add_neg (nI k) 1).symm
    have e22 : (22 : Int32) = nI 22 := rfl
    have hDd : (g (9 * rb + d)).toInt = D d := by rw [hg _ (by omega) (by omega)]; exact hD d (by omega)
    have hne : ¬ g (9 * rb + d) = 0 := fun hh => hdD.1 (by rw [← hDd, hh]; rfl)
    rw [l_Mod_divides_56, e1, if_neg c1, nI_add, e22, mat_ok hmw (by omega) (by omega), mat_ok hmw (by omega) (by omega)]
    refine wq_ob (wq_some (wq_ob (wq_some ?_)))
    rw [mw_gsk, mw_gsk, if_neg hne]
    dsimp only [rr_lt]
    rw [mput_ok hmw (by omega) (by omega)]
    refine wq_bd (wq_some ?_)
    dsimp only
    rw [mw_ms]
    have ht := hr (k + d) (by omega)
    rw [Nat.add_comm k d, trn_top hdD] at ht
    have hs := hsz k
    have htop := cg_eq ht (by omega) (by omega)
    rw [Nat.add_comm d k] at htop
    have hq : (g (9 * 22 + (k + d)) / g (9 * rb + d)).toInt = H k := by
      rw [show 9 * 22 + (k + d) = 198 + (k + d) by omega, Jvm.Kit.i64_div (by rw [htop]; omega), htop, hDd, Int.mul_tdiv_cancel_left _ hdD.1]
    generalize g (9 * 22 + (k + d)) / g (9 * rb + d) = v at *
    refine mdv_in (g0 := vp_updL g (9 * ri + k) v) (T0 := pmu D (trn (k + 1) H)) (c := H k) (d := d) (D := D) hm hrb (by omega) (fun j hj => by rw [upL_n (by omega), hg _ (by omega) (by omega)]; exact hD j hj) hq ?_ fu 0 _ (by omega) (by omega) (fun _ _ => rfl) (fun j hj => by rw [if_neg (by omega), upL_n (by omega)]; exact hr j hj)
    intro g' hg' hr'
    rw [e2]
    refine mdv_out hfu hm hri hrb hib hnd hdD hD hsz hk k fl g' (by omega) (by omega) (fun i hi hi2 => ?_) (fun j hj => ?_) (fun j hj => ?_)
    · rw [hg' i hi, upL_n (by omega)]; exact hg i hi hi2
    · rw [hg' _ (by omega)]
      by_cases hjk : j = k
      · subst hjk; rw [upL_s, if_pos (by omega)]; exact hq
      · rw [upL_n (by omega), hu j hj]
        by_cases hc : k + 1 ≤ j ∧ j < n + 1
        · rw [if_pos hc, if_pos (by omega)]
        · rw [if_neg hc, if_neg (by omega)]
    · have h3 := hr' j hj
      rw [trn_mu D H k j] at h3
      have hsh : shf k D j = if k ≤ j ∧ j ≤ k + d then D (j - k) else 0 := by
        simp only [shf]
        by_cases hc : j < k
        · rw [if_pos hc, if_neg (by omega)]
        · rw [if_neg hc]
          by_cases hc2 : j ≤ k + d
          · rw [if_pos ⟨by omega, hc2⟩]
          · rw [if_neg (by omega), hdD.2 (j - k) (by omega)]
      rw [hsh] at h3
      by_cases hc : k ≤ j ∧ j ≤ k + d
      · rw [if_pos hc, if_pos hc, Int.add_sub_cancel] at h3; exact h3
      · rw [if_neg hc, if_neg hc, Int.mul_zero, Int.add_zero] at h3; exact h3
