/-! ===== the sequence of two, each by a sign ===== -/
def ee (a b : Int) (i : Nat) : Int := if i % 2 = 0 then a else b
theorem ee_pm {a b : Int} (ha : a = 1 ∨ a = -1) (hb : b = 1 ∨ b = -1) (i : Nat) : ee a b i = 1 ∨ ee a b i = -1 := by
  unfold ee
  split
  · exact ha
  · exact hb
theorem ee_2 (a b : Int) (k : Nat) : ee a b (k + 2) = ee a b k := by
  unfold ee
  rw [show (k + 2) % 2 = k % 2 by omega]
theorem gdp_ee {a b : Int} (ha : a = 1 ∨ a = -1) (hb : b = 1 ∨ b = -1) {p q : Pl} {s : Nat} (h : gdp p q s) : gdp (psc a p) (psc b q) s := by
  obtain ⟨h1, h2, h3, h4, h5, h6, h7, h8, h9, h10⟩ := h
  have a0 : a ≠ 0 := by omega
  have b0 : b ≠ 0 := by omega
  exact ⟨psc_pbd h1, psc_pbd h2, by rw [dln_psc a0]; exact h3, by rw [dln_psc b0]; exact h4, by rw [dgg_psc a0, dgg_psc b0]; exact h5, by rw [dgg_psc a0, nsz_psc ha]; exact h6, by rw [dgg_psc b0, nsz_psc hb]; exact h7, h8, by rw [dgg_psc a0, dgg_psc b0]; exact h9, h10⟩
theorem cc_ee {a b : Int} (ha : a = 1 ∨ a = -1) (hb : b = 1 ∨ b = -1) {p q : Pl} {s : Nat} (h : gdp p q s) : ∀ k, (k = 0 ∨ mmn p q (k - 1) ∧ (∀ i, i < k - 1 → 1 ≤ i → 0 < dgg (mm p q i))) → (∀ i, i ≤ k → cc (psc a p) (psc b q) i = psc (ee a b i) (cc p q i) ∧ dln (mm (psc a p) (psc b q) i) = dln (mm p q i)) ∧ (∀ i, 1 ≤ i → i ≤ k → (gm (psc a p) (psc b q) i).natAbs = (gm p q i).natAbs ∧ (hm (psc a p) (psc b q) i).natAbs = (hm p q i).natAbs)
  | 0, _ => by
    have a0 : a ≠ 0 := by omega
    refine ⟨fun i hi => ?_, fun i h1 h2 => by omega⟩
    have : i = 0 := by omega
    subst this
    exact ⟨by rw [cc_0, cc_0]; rfl, dln_psc a0 p⟩
  | 1, _ => by
    have a0 : a ≠ 0 := by omega
    have b0 : b ≠ 0 := by omega
    refine ⟨fun i hi => ?_, fun i h1 h2 => ?_⟩
    · rcases (by omega : i = 0 ∨ i = 1) with e | e
      · subst e; exact ⟨by rw [cc_0, cc_0]; rfl, dln_psc a0 p⟩
      · subst e; exact ⟨by rw [cc_1, cc_1]; rfl, dln_psc b0 q⟩
    · have : i = 1 := by omega
      subst this
      exact ⟨rfl, rfl⟩
  | k + 2, hyp => by
    have hyp : mmn p q (k + 1) ∧ (∀ i, i < k + 1 → 1 ≤ i → 0 < dgg (mm p q i)) := by
      rcases hyp with e | e
      · omega
      · exact e
    obtain ⟨hm1, hm2⟩ := hyp
    obtain ⟨ih1, ih2⟩ := cc_ee ha hb h (k + 1) (Or.inr ⟨fun i hi => hm1 i (by omega), fun i hi h3 => hm2 i (by omega) h3⟩)
    have h' := gdp_ee ha hb h
    have hdd : ∀ i, i ≤ k + 1 → dgg (mm (psc a p) (psc b q) i) = dgg (mm p q i) := fun i hi => by unfold dgg; rw [(ih1 i hi).2]
    have hm1' : mmn (psc a p) (psc b q) (k + 1) := fun i hi => by rw [(ih1 i hi).2]; exact hm1 i hi
    have hm2' : ∀ i, i < k + 1 → 1 ≤ i → 0 < dgg (mm (psc a p) (psc b q) i) := fun i hi h3 => by rw [hdd i (by omega)]; exact hm2 i hi h3
    obtain ⟨g0, h0, hdl, hdg⟩ := gh_nz h (k := k + 1) (by omega) hm1 hm2
    have l1 := lo_pm h (k + 1) (fun i hi => hm1 i (by omega)) (fun i hi h3 => hm2 i (by omega) h3)
    have p2 := ee_pm ha hb (k + 2)
    have p1 := ee_pm ha hb (k + 1)
    have hcc : cc (psc a p) (psc b q) (k + 2) = psc (ee a b (k + 2)) (cc p q (k + 2)) := by
      refine pl_ext (fun t => ?_)
      have r1 := cc_rest h (k := k + 1) (by omega) hm1 hm2 t
      have r2 := cc_rest h' (k := k + 1) (by omega) hm1' hm2' t
      rw [hdd (k + 1) (Nat.le_refl _), hdd (k + 1 - 1) (by omega), (ih1 (k + 1) (Nat.le_refl _)).1, (ih1 (k + 1 - 1) (by omega)).1, (ih2 (k + 1) (by omega) (Nat.le_refl _)).1, (ih2 (k + 1) (by omega) (Nat.le_refl _)).2] at r2
      have e2 : ee a b (k + 2) = ee a b (k + 1 - 1) := by rw [Nat.add_sub_cancel]; exact ee_2 a b k
      rw [e2]
      generalize ee a b (k + 1) = E1 at p1 r2
      generalize ee a b (k + 1 - 1) = E0 at r2 ⊢
      have e1 : psc E1 (cc p q (k + 1)) (dgg (mm p q (k + 1))) = E1 * cc p q (k + 1) (dgg (mm p q (k + 1))) := rfl
      rw [e1, prs_sc, Int.sign_mul] at r2
      have hsa : E1.sign = E1 := by rcases p1 with e | e <;> rw [e] <;> rfl
      rw [hsa, Int.mul_pow] at r2
      have hD : -(((gm p q (k + 1)).natAbs : Int) * ((hm p q (k + 1)).natAbs : Int) ^ (dgg (mm p q (k + 1 - 1)) - dgg (mm p q (k + 1)))) ≠ 0 := by
        have : ((gm p q (k + 1)).natAbs : Int) * ((hm p q (k + 1)).natAbs : Int) ^ (dgg (mm p q (k + 1 - 1)) - dgg (mm p q (k + 1))) ≠ 0 := Int.mul_ne_zero (by omega) (Int.pow_ne_zero (by omega))
        omega
      apply Int.eq_of_mul_eq_mul_left hD
      show _ * cc (psc a p) (psc b q) (k + 1 + 1) t = _ * (E0 * cc p q (k + 1 + 1) t)
      rw [← r2]
      show _ * (E1 ^ _ * E0 * prs _ _ _ _ _ _ t) = _
      have hsq := pm_sq (pm_pow p1 (dgg (mm p q (k + 1 - 1)) - dgg (mm p q (k + 1)) + 1))
      generalize E1 ^ (dgg (mm p q (k + 1 - 1)) - dgg (mm p q (k + 1)) + 1) = A at *
      generalize (cc p q (k + 1) (dgg (mm p q (k + 1)))).sign ^ (dgg (mm p q (k + 1 - 1)) - dgg (mm p q (k + 1)) + 1) = S at *
      generalize prs (cc p q (k + 1) (dgg (mm p q (k + 1)))) (cc p q (k + 1)) (dgg (mm p q (k + 1))) (cc p q (k + 1 - 1)) (dgg (mm p q (k + 1 - 1))) (dgg (mm p q (k + 1 - 1)) - dgg (mm p q (k + 1)) + 1) t = R at *
      calc A * S * (A * E0 * R) = (A * A) * (E0 * (S * R)) := by grind
        _ = E0 * (S * R) := by rw [hsq, Int.one_mul]
        _ = _ := by rw [r1]; grind
    have l2 := lo_pm h (k + 2) hm1 (fun i hi h3 => hm2 i (by omega) h3)
    have l2' := lo_pm h' (k + 2) hm1' (fun i hi h3 => hm2' i (by omega) h3)
    have hln : dln (mm (psc a p) (psc b q) (k + 2)) = dln (mm p q (k + 2)) := by
      rw [mm_cc l2', mm_cc l2, dln_psc (by omega), dln_psc (by omega), hcc, dln_psc (by omega)]
    have hna : (mm (psc a p) (psc b q) (k + 1) (dgg (mm p q (k + 1)))).natAbs = (mm p q (k + 1) (dgg (mm p q (k + 1)))).natAbs := by
      have l1' := lo_pm h' (k + 1) (fun i hi => hm1' i (by omega)) (fun i hi h3 => hm2' i (by omega) h3)
      generalize dgg (mm p q (k + 1)) = dd
      rw [mm_cc l1', mm_cc l1, (ih1 (k + 1) (Nat.le_refl _)).1]
      show (lo (psc a p) (psc b q) (k + 1) * (ee a b (k + 1) * cc p q (k + 1) dd)).natAbs = (lo p q (k + 1) * cc p q (k + 1) dd).natAbs
      rw [Int.natAbs_mul, Int.natAbs_mul, Int.natAbs_mul]
      rcases l1' with x | x <;> rcases l1 with y | y <;> rcases p1 with z | z <;> rw [x, y, z] <;> simp
    refine ⟨fun i hi => ?_, fun i h1 h2 => ?_⟩
    · by_cases hik : i = k + 2
      · subst hik; exact ⟨hcc, hln⟩
      · exact ih1 i (by omega)
    · by_cases hik : i = k + 2
      · subst hik
        refine ⟨?_, ?_⟩
        · rw [gm_step _ _ (k + 1) (by omega), gm_step _ _ (k + 1) (by omega), hdd (k + 1) (Nat.le_refl _)]
          exact hna
        · have x1 := hm_ex h.1 h.2.1 h.2.2.2.2.1 (k := k + 1) (by omega) hm1 hm2
          have x2 := hm_ex h'.1 h'.2.1 h'.2.2.2.2.1 (k := k + 1) (by omega) hm1' hm2'
          rw [hdd (k + 1) (Nat.le_refl _), hdd (k + 1 - 1) (by omega)] at x2
          by_cases hlt : dgg (mm p q (k + 1)) < dgg (mm p q (k + 1 - 1))
          · have y1 := congrArg Int.natAbs (x1.1 hlt).1
            have y2 := congrArg Int.natAbs (x2.1 hlt).1
            rw [Int.natAbs_mul, Int.natAbs_pow, Int.natAbs_pow] at y1 y2
            rw [hna, (ih2 (k + 1) (by omega) (Nat.le_refl _)).2, ← y1] at y2
            exact Nat.eq_of_mul_eq_mul_right (Nat.pow_pos (by omega)) y2
          · have heq : dgg (mm p q (k + 1)) = dgg (mm p q (k + 1 - 1)) := by omega
            rw [(x1.2.1 heq).1, (x2.2.1 heq).1]
      · exact ih2 i h1 (by omega)
theorem ends_ee {a b : Int} (ha : a = 1 ∨ a = -1) (hb : b = 1 ∨ b = -1) {p q : Pl} {s M : Nat} (h : gdp p q s) (he : ends p q M) : ends (psc a p) (psc b q) M ∧ (∀ i, i < M → cc (psc a p) (psc b q) i = psc (ee a b i) (cc p q i)) ∧ (∀ i, i < M → dgg (mm (psc a p) (psc b q) i) = dgg (mm p q i)) := by
  have h2 := he.1
  obtain ⟨c1, c2⟩ := cc_ee ha hb h (M - 1) (Or.inr ⟨fun i hi => he.2.1 i (by omega), fun i hi h3 => he.2.2.1 i (by omega) h3⟩)
  have hdd : ∀ i, i < M → dgg (mm (psc a p) (psc b q) i) = dgg (mm p q i) := fun i hi => by unfold dgg; rw [(c1 i (by omega)).2]
  refine ⟨⟨h2, fun i hi => by rw [(c1 i hi).2]; exact he.2.1 i hi, fun i hi h3 => by rw [hdd i (by omega)]; exact he.2.2.1 i hi h3, fun hd => ?_⟩, fun i hi => (c1 i (by omega)).1, hdd⟩
  rw [hdd (M - 1) (by omega)] at hd
  obtain ⟨d1, _⟩ := cc_ee ha hb h M (Or.inr ⟨he.2.1, fun i hi h3 => he.2.2.1 i hi h3⟩)
  rw [(d1 M (Nat.le_refl _)).2]
  exact he.2.2.2 hd
theorem cnn_ee {a b : Int} (ha : a = 1 ∨ a = -1) (hb : b = 1 ∨ b = -1) (σ τ : Nat → Int) : ∀ n : Nat, (∀ k, k ≤ n → τ k = 1 ∨ τ k = -1) → (∀ k, k ≤ n → σ k = ee a b k * τ k) → (a = b → cnn σ n = cnn τ n) ∧ (a ≠ b → cnn σ n + cnn τ n = n)
  | 0, _, _ => ⟨fun _ => rfl, fun _ => rfl⟩
  | n + 1, ht, hs => by
    obtain ⟨i1, i2⟩ := cnn_ee ha hb σ τ n (fun k hk => ht k (by omega)) (fun k hk => hs k (by omega))
    have s0 := hs n (by omega)
    have s1 := hs (n + 1) (by omega)
    have t0 := ht n (by omega)
    have t1 := ht (n + 1) (by omega)
    have e01 : (ee a b n = a ∧ ee a b (n + 1) = b) ∨ (ee a b n = b ∧ ee a b (n + 1) = a) := by
      unfold ee
      by_cases hp : n % 2 = 0
      · left; rw [if_pos hp, if_neg (by omega)]; exact ⟨rfl, rfl⟩
      · right; rw [if_neg hp, if_pos (by omega)]; exact ⟨rfl, rfl⟩
    show (a = b → cnn σ n + (if σ (n + 1) = σ n then 0 else 1) = cnn τ n + (if τ (n + 1) = τ n then 0 else 1)) ∧ (a ≠ b → cnn σ n + (if σ (n + 1) = σ n then 0 else 1) + (cnn τ n + (if τ (n + 1) = τ n then 0 else 1)) = n + 1)
    rw [s0, s1]
    rcases e01 with ⟨x0, x1⟩ | ⟨x0, x1⟩ <;> rw [x0, x1] <;> rcases t0 with y0 | y0 <;> rcases t1 with y1 | y1 <;> rw [y0, y1] <;> rcases ha with ha | ha <;> rcases hb with hb | hb <;> subst ha <;> subst hb <;> simp at i1 i2 ⊢ <;> omega
theorem chs_ee {a b : Int} (ha : a = 1 ∨ a = -1) (hb : b = 1 ∨ b = -1) {p q : Pl} {s M : Nat} (h : gdp p q s) (he : ends p q M) : ends (psc a p) (psc b q) M ∧ (∀ i, i < M → dgg (mm (psc a p) (psc b q) i) = dgg (mm p q i)) ∧ (chL (psc a p) (psc b q) (M - 1) : Int) - chR (psc a p) (psc b q) (M - 1) = a * b * ((chL p q (M - 1) : Int) - chR p q (M - 1)) := by
  have h2 := he.1
  obtain ⟨e1, e2, e3⟩ := ends_ee ha hb h he
  refine ⟨e1, e3, ?_⟩
  have hR : ∀ k, k ≤ M - 1 → sgR (psc a p) (psc b q) k = ee a b k * sgR p q k := fun k hk => by
    unfold sgR
    rw [e2 k (by omega), e3 k (by omega)]
    show (ee a b k * _).sign = _
    rw [Int.sign_mul]
    rcases ee_pm ha hb k with e | e <;> rw [e] <;> rfl
  have hL : ∀ k, k ≤ M - 1 → sgL (psc a p) (psc b q) k = ee a b k * sgL p q k := fun k hk => by
    unfold sgL
    rw [hR k hk, e3 k (by omega)]
    grind
  have tR : ∀ k, k ≤ M - 1 → sgR p q k = 1 ∨ sgR p q k = -1 := fun k hk => (ends_sg h he (show k < M by omega)).2.2
  have tL : ∀ k, k ≤ M - 1 → sgL p q k = 1 ∨ sgL p q k = -1 := fun k hk => by
    unfold sgL
    rw [m1_pow]
    rcases tR k hk with e | e <;> rw [e] <;> split <;> simp
  obtain ⟨u1, u2⟩ := cnn_ee ha hb _ _ (M - 1) tR hR
  obtain ⟨w1, w2⟩ := cnn_ee ha hb _ _ (M - 1) tL hL
  rw [chR_cn, chR_cn, chL_cn, chL_cn]
  by_cases hab : a = b
  · rw [u1 hab, w1 hab, hab, pm_sq hb, Int.one_mul]
  · have g1 := u2 hab
    have g2 := w2 hab
    have hm : a * b = -1 := by rcases ha with x | x <;> rcases hb with y | y <;> subst x <;> subst y <;> first | rfl | exact absurd rfl hab
    rw [hm]
    omega
