/-! ===== both signs have one sequence ===== -/
theorem dln_psc {a : Int} (ha : a ≠ 0) (f : Pl) : dln (psc a f) = dln f := by
  have : ∀ n, lnn n (psc a f) = lnn n f := by
    intro n
    induction n with
    | zero => rfl
    | succ n ih =>
      simp only [lnn, ih]
      have : (psc a f n = 0) ↔ f n = 0 := by
        show a * f n = 0 ↔ _
        constructor
        · intro h
          rcases Int.mul_eq_zero.mp h with h | h
          · exact absurd h ha
          · exact h
        · intro h; rw [h, Int.mul_zero]
      simp only [this]
  exact this 9
theorem dgg_psc {a : Int} (ha : a ≠ 0) (f : Pl) : dgg (psc a f) = dgg f := by unfold dgg; rw [dln_psc ha]
theorem mm_cc {p q : Pl} {k : Nat} (h : lo p q k = 1 ∨ lo p q k = -1) : mm p q k = psc (lo p q k) (cc p q k) := pl_ext (fun t => by
  show _ = lo p q k * (lo p q k * mm p q k t)
  rw [← Int.mul_assoc, pm_sq h, Int.one_mul])
theorem nsz_psc {a : Int} (ha : a = 1 ∨ a = -1) (f : Pl) : ∀ n, nsz n (psc a f) = nsz n f
  | 0 => rfl
  | n + 1 => by
    simp only [nsz, nsz_psc ha f n]
    congr 1
    show (a * f n).natAbs = _
    rw [Int.natAbs_mul]
    rcases ha with e | e <;> rw [e] <;> simp
theorem gdp_psc {a : Int} (ha : a = 1 ∨ a = -1) {p q : Pl} {s : Nat} (h : gdp p q s) : gdp (psc a p) (psc a q) s := by
  obtain ⟨h1, h2, h3, h4, h5, h6, h7, h8, h9, h10⟩ := h
  have a0 : a ≠ 0 := by omega
  exact ⟨psc_pbd h1, psc_pbd h2, by rw [dln_psc a0]; exact h3, by rw [dln_psc a0]; exact h4, by rw [dgg_psc a0, dgg_psc a0]; exact h5, by rw [dgg_psc a0, nsz_psc ha]; exact h6, by rw [dgg_psc a0, nsz_psc ha]; exact h7, h8, by rw [dgg_psc a0, dgg_psc a0]; exact h9, h10⟩
theorem cc_neg {a : Int} (ha : a = 1 ∨ a = -1) {p q : Pl} {s : Nat} (h : gdp p q s) : ∀ k, (k = 0 ∨ mmn p q (k - 1) ∧ (∀ i, i < k - 1 → 1 ≤ i → 0 < dgg (mm p q i))) → (∀ i, i ≤ k → cc (psc a p) (psc a q) i = psc a (cc p q i) ∧ dln (mm (psc a p) (psc a q) i) = dln (mm p q i)) ∧ (∀ i, 1 ≤ i → i ≤ k → (gm (psc a p) (psc a q) i).natAbs = (gm p q i).natAbs ∧ (hm (psc a p) (psc a q) i).natAbs = (hm p q i).natAbs)
  | 0, _ => by
    have a0 : a ≠ 0 := by omega
    refine ⟨fun i hi => ?_, fun i h1 h2 => by omega⟩
    have : i = 0 := by omega
    subst this
    exact ⟨by rw [cc_0, cc_0], dln_psc a0 p⟩
  | 1, _ => by
    have a0 : a ≠ 0 := by omega
    refine ⟨fun i hi => ?_, fun i h1 h2 => ?_⟩
    · rcases (by omega : i = 0 ∨ i = 1) with e | e
      · subst e; exact ⟨by rw [cc_0, cc_0], dln_psc a0 p⟩
      · subst e; exact ⟨by rw [cc_1, cc_1], dln_psc a0 q⟩
    · have : i = 1 := by omega
      subst this
      exact ⟨rfl, rfl⟩
  | k + 2, hyp => by
    have a0 : a ≠ 0 := by omega
    have hyp : mmn p q (k + 1) ∧ (∀ i, i < k + 1 → 1 ≤ i → 0 < dgg (mm p q i)) := by
      rcases hyp with e | e
      · omega
      · exact e
    obtain ⟨hm1, hm2⟩ := hyp
    obtain ⟨ih1, ih2⟩ := cc_neg ha h (k + 1) (Or.inr ⟨fun i hi => hm1 i (by omega), fun i hi h3 => hm2 i (by omega) h3⟩)
    have h' := gdp_psc ha h
    have hdd : ∀ i, i ≤ k + 1 → dgg (mm (psc a p) (psc a q) i) = dgg (mm p q i) := fun i hi => by unfold dgg; rw [(ih1 i hi).2]
    have hm1' : mmn (psc a p) (psc a q) (k + 1) := fun i hi => by rw [(ih1 i hi).2]; exact hm1 i hi
    have hm2' : ∀ i, i < k + 1 → 1 ≤ i → 0 < dgg (mm (psc a p) (psc a q) i) := fun i hi h3 => by rw [hdd i (by omega)]; exact hm2 i hi h3
    obtain ⟨g0, h0, hdl, hdg⟩ := gh_nz h (k := k + 1) (by omega) hm1 hm2
    have l1 := lo_pm h (k + 1) (fun i hi => hm1 i (by omega)) (fun i hi h3 => hm2 i (by omega) h3)
    have hb0 : cc p q (k + 1) (dgg (mm p q (k + 1))) ≠ 0 := by
      show lo p q (k + 1) * mm p q (k + 1) (dgg (mm p q (k + 1))) ≠ 0
      exact Int.mul_ne_zero (by omega) (hdg (k + 1) (Nat.le_refl _)).1
    have hcc : cc (psc a p) (psc a q) (k + 2) = psc a (cc p q (k + 2)) := by
      refine pl_ext (fun t => ?_)
      have r1 := cc_rest h (k := k + 1) (by omega) hm1 hm2 t
      have r2 := cc_rest h' (k := k + 1) (by omega) hm1' hm2' t
      rw [hdd (k + 1) (Nat.le_refl _), hdd (k + 1 - 1) (by omega), (ih1 (k + 1) (Nat.le_refl _)).1, (ih1 (k + 1 - 1) (by omega)).1, (ih2 (k + 1) (by omega) (Nat.le_refl _)).1, (ih2 (k + 1) (by omega) (Nat.le_refl _)).2] at r2
      have e1 : psc a (cc p q (k + 1)) (dgg (mm p q (k + 1))) = a * cc p q (k + 1) (dgg (mm p q (k + 1))) := rfl
      rw [e1, prs_sc, Int.sign_mul] at r2
      have hsa : a.sign = a := by rcases ha with e | e <;> rw [e] <;> rfl
      rw [hsa, Int.mul_pow] at r2
      have hD : -(((gm p q (k + 1)).natAbs : Int) * ((hm p q (k + 1)).natAbs : Int) ^ (dgg (mm p q (k + 1 - 1)) - dgg (mm p q (k + 1)))) ≠ 0 := by
        have : ((gm p q (k + 1)).natAbs : Int) * ((hm p q (k + 1)).natAbs : Int) ^ (dgg (mm p q (k + 1 - 1)) - dgg (mm p q (k + 1))) ≠ 0 := Int.mul_ne_zero (by omega) (Int.pow_ne_zero (by omega))
        omega
      apply Int.eq_of_mul_eq_mul_left hD
      show _ * cc (psc a p) (psc a q) (k + 1 + 1) t = _ * (a * cc p q (k + 1 + 1) t)
      rw [← r2]
      show _ * (a ^ _ * a * prs _ _ _ _ _ _ t) = _
      have hsq := pm_sq (pm_pow ha (dgg (mm p q (k + 1 - 1)) - dgg (mm p q (k + 1)) + 1))
      generalize a ^ (dgg (mm p q (k + 1 - 1)) - dgg (mm p q (k + 1)) + 1) = A at *
      generalize (cc p q (k + 1) (dgg (mm p q (k + 1)))).sign ^ (dgg (mm p q (k + 1 - 1)) - dgg (mm p q (k + 1)) + 1) = S at *
      generalize prs (cc p q (k + 1) (dgg (mm p q (k + 1)))) (cc p q (k + 1)) (dgg (mm p q (k + 1))) (cc p q (k + 1 - 1)) (dgg (mm p q (k + 1 - 1))) (dgg (mm p q (k + 1 - 1)) - dgg (mm p q (k + 1)) + 1) t = R at *
      calc A * S * (A * a * R) = (A * A) * (a * (S * R)) := by grind
        _ = a * (S * R) := by rw [hsq, Int.one_mul]
        _ = _ := by rw [r1]; grind
    have l2 := lo_pm h (k + 2) hm1 (fun i hi h3 => hm2 i (by omega) h3)
    have l2' := lo_pm h' (k + 2) hm1' (fun i hi h3 => hm2' i (by omega) h3)
    have hln : dln (mm (psc a p) (psc a q) (k + 2)) = dln (mm p q (k + 2)) := by
      rw [mm_cc l2', mm_cc l2, dln_psc (by omega), dln_psc (by omega), hcc, dln_psc a0]
    have hna : (mm (psc a p) (psc a q) (k + 1) (dgg (mm p q (k + 1)))).natAbs = (mm p q (k + 1) (dgg (mm p q (k + 1)))).natAbs := by
      have l1' := lo_pm h' (k + 1) (fun i hi => hm1' i (by omega)) (fun i hi h3 => hm2' i (by omega) h3)
      generalize dgg (mm p q (k + 1)) = dd
      rw [mm_cc l1', mm_cc l1, (ih1 (k + 1) (Nat.le_refl _)).1]
      show (lo (psc a p) (psc a q) (k + 1) * (a * cc p q (k + 1) dd)).natAbs = (lo p q (k + 1) * cc p q (k + 1) dd).natAbs
      rw [Int.natAbs_mul, Int.natAbs_mul, Int.natAbs_mul]
      rcases l1' with x | x <;> rcases l1 with y | y <;> rcases ha with z | z <;> rw [x, y, z] <;> simp
    refine ⟨fun i hi => ?_, fun i h1 h2 => ?_⟩
    · by_cases hik : i = k + 2
      · subst hik; exact ⟨hcc, hln⟩
      · exact ih1 i (by omega)
    · by_cases hik : i = k + 2
      · subst hik
        refine ⟨?_, ?_⟩
        · rw [gm_step _ _ (k + 1) (by omega), gm_step _ _ (k + 1) (by omega), hdd (k + 1) (Nat.le_refl _)]
          exact hna
        · have x1 := hm_ex h.1 h.2.1 h.2.2.2.2.1 (k := k + 1) (by omega) hm1 hm2
          have x2 := hm_ex h'.1 h'.2.1 h'.2.2.2.2.1 (k := k + 1) (by omega) hm1' hm2'
          rw [hdd (k + 1) (Nat.le_refl _), hdd (k + 1 - 1) (by omega)] at x2
          by_cases hlt : dgg (mm p q (k + 1)) < dgg (mm p q (k + 1 - 1))
          · have y1 := congrArg Int.natAbs (x1.1 hlt).1
            have y2 := congrArg Int.natAbs (x2.1 hlt).1
            rw [Int.natAbs_mul, Int.natAbs_pow, Int.natAbs_pow] at y1 y2
            rw [hna, (ih2 (k + 1) (by omega) (Nat.le_refl _)).2, ← y1] at y2
            exact Nat.eq_of_mul_eq_mul_right (Nat.pow_pos (by omega)) y2
          · have heq : dgg (mm p q (k + 1)) = dgg (mm p q (k + 1 - 1)) := by omega
            rw [(x1.2.1 heq).1, (x2.2.1 heq).1]
      · exact ih2 i h1 (by omega)
theorem ends_psc {a : Int} (ha : a = 1 ∨ a = -1) {p q : Pl} {s M : Nat} (h : gdp p q s) (he : ends p q M) : ends (psc a p) (psc a q) M ∧ (∀ i, i < M → cc (psc a p) (psc a q) i = psc a (cc p q i)) ∧ (∀ i, i < M → dgg (mm (psc a p) (psc a q) i) = dgg (mm p q i)) := by
  have h2 := he.1
  obtain ⟨c1, c2⟩ := cc_neg ha h (M - 1) (Or.inr ⟨fun i hi => he.2.1 i (by omega), fun i hi h3 => he.2.2.1 i (by omega) h3⟩)
  have hdd : ∀ i, i < M → dgg (mm (psc a p) (psc a q) i) = dgg (mm p q i) := fun i hi => by unfold dgg; rw [(c1 i (by omega)).2]
  refine ⟨⟨h2, fun i hi => by rw [(c1 i hi).2]; exact he.2.1 i hi, fun i hi h3 => by rw [hdd i (by omega)]; exact he.2.2.1 i hi h3, fun hd => ?_⟩, fun i hi => (c1 i (by omega)).1, hdd⟩
  rw [hdd (M - 1) (by omega)] at hd
  obtain ⟨d1, _⟩ := cc_neg ha h M (Or.inr ⟨he.2.1, fun i hi h3 => he.2.2.1 i hi h3⟩)
  rw [(d1 M (Nat.le_refl _)).2]
  exact he.2.2.2 hd
theorem chs_psc {a : Int} (ha : a = 1 ∨ a = -1) {p q : Pl} {s M : Nat} (h : gdp p q s) (he : ends p q M) : chR (psc a p) (psc a q) (M - 1) = chR p q (M - 1) ∧ chL (psc a p) (psc a q) (M - 1) = chL p q (M - 1) := by
  have h2 := he.1
  obtain ⟨e1, e2, e3⟩ := ends_psc ha h he
  have hR : ∀ k, k < M → sgR (psc a p) (psc a q) k = a * sgR p q k := fun k hk => by
    unfold sgR
    rw [e2 k hk, e3 k hk]
    show (a * _).sign = _
    rw [Int.sign_mul]
    rcases ha with e | e <;> rw [e] <;> rfl
  have hL : ∀ k, k < M → sgL (psc a p) (psc a q) k = a * sgL p q k := fun k hk => by
    unfold sgL
    rw [hR k hk, e3 k hk]
    grind
  have key : ∀ (σ τ : Nat → Int) (n : Nat), (∀ k, k ≤ n → σ k = a * τ k) → cnn σ n = cnn τ n := by
    intro σ τ n
    induction n with
    | zero => intro _; rfl
    | succ n ih =>
      intro hs
      simp only [cnn, ih (fun k hk => hs k (by omega)), hs n (by omega), hs (n + 1) (by omega)]
      have : (a * τ (n + 1) = a * τ n) ↔ τ (n + 1) = τ n := by rcases ha with e | e <;> rw [e] <;> omega
      simp only [this]
  rw [chR_cn, chR_cn, chL_cn, chL_cn]
  exact ⟨key _ _ _ (fun k hk => hR k (by omega)), key _ _ _ (fun k hk => hL k (by omega))⟩
