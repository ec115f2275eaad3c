/-! ===== the signs that the members have lost ===== -/
def lo (p q : Pl) : Nat → Int
  | 0 => 1
  | 1 => 1
  | k + 2 => -(if (dgg (mm p q k) - dgg (mm p q (k + 1))) % 2 = 0 then (mm p q (k + 1) (dgg (mm p q (k + 1)))).sign else 1) * lo p q k * (gm p q (k + 1) * hm p q (k + 1) ^ (dgg (mm p q k) - dgg (mm p q (k + 1)))).sign
theorem gh_nz {p q : Pl} {s : Nat} (h : gdp p q s) {k : Nat} (hk : 1 ≤ k) (hm1 : mmn p q k) (hm2 : ∀ i, i < k → 1 ≤ i → 0 < dgg (mm p q i)) : gm p q k ≠ 0 ∧ hm p q k ≠ 0 ∧ dgg (mm p q k) ≤ dgg (mm p q (k - 1)) ∧ (∀ i, i ≤ k → dgr (mm p q i) (dgg (mm p q i))) := by
  obtain ⟨h1, h2, h3, h4, h5, _⟩ := h
  obtain ⟨H, hb⟩ := mm_chn h1 h2 h5 k hk hm1 hm2
  obtain ⟨a, b⟩ := chn_h0 H k hk (Nat.le_refl _)
  have a : 0 < (gm p q k).natAbs := a
  have b : 0 < (hm p q k).natAbs := b
  refine ⟨by omega, by omega, (chn_d H k hk (Nat.le_refl _)).1, fun i hi => (dln_top (hb i hi) (hm1 i hi)).1⟩
theorem sign_pm {z : Int} (h : z ≠ 0) : z.sign = 1 ∨ z.sign = -1 := by
  rcases Int.lt_or_gt_of_ne h with h | h
  · right; exact Int.sign_eq_neg_one_of_neg h
  · left; exact Int.sign_eq_one_of_pos h
theorem lo_pm {p q : Pl} {s : Nat} (h : gdp p q s) : ∀ (k : Nat), mmn p q (k - 1) → (∀ i, i < k - 1 → 1 ≤ i → 0 < dgg (mm p q i)) → lo p q k = 1 ∨ lo p q k = -1
  | 0, _, _ => Or.inl rfl
  | 1, _, _ => Or.inl rfl
  | k + 2, h1, h2 => by
    have ih := lo_pm h k (fun i hi => h1 i (by omega)) (fun i hi h3 => h2 i (by omega) h3)
    obtain ⟨a, b, c, d⟩ := gh_nz h (k := k + 1) (by omega) h1 (fun i hi h3 => h2 i (by omega) h3)
    have e0 : hm p q (k + 1) ^ (dgg (mm p q k) - dgg (mm p q (k + 1))) ≠ 0 := Int.pow_ne_zero b
    have e1 := sign_pm (Int.mul_ne_zero a e0)
    have e2 := sign_pm (d (k + 1) (Nat.le_refl _)).1
    simp only [lo]
    have e3 : (if (dgg (mm p q k) - dgg (mm p q (k + 1))) % 2 = 0 then (mm p q (k + 1) (dgg (mm p q (k + 1)))).sign else 1) = 1 ∨ (if (dgg (mm p q k) - dgg (mm p q (k + 1))) % 2 = 0 then (mm p q (k + 1) (dgg (mm p q (k + 1)))).sign else 1) = -1 := by
      split
      · exact e2
      · exact Or.inl rfl
    rcases ih with x | x <;> rcases e1 with y | y <;> rcases e3 with z | z <;> rw [x, y, z] <;> decide
/-- what the step to member k + 1 divides by, and that it goes out -/
theorem mm_dv {p q : Pl} {s : Nat} (h : gdp p q s) {k : Nat} (hk : 1 ≤ k) (hm1 : mmn p q k) (hm2 : ∀ i, i < k → 1 ≤ i → 0 < dgg (mm p q i)) :
    gm p q k * hm p q k ^ (dgg (mm p q (k - 1)) - dgg (mm p q k)) ≠ 0 ∧ (∀ t, gm p q k * hm p q k ^ (dgg (mm p q (k - 1)) - dgg (mm p q k)) * mm p q (k + 1) t = rem2 (mm p q (k - 1)) (mm p q k) t) ∧ (∀ t, dgg (mm p q k) ≤ t → rem2 (mm p q (k - 1)) (mm p q k) t = 0) ∧ (∀ t, dgg (mm p q k) ≤ t → mm p q (k + 1) t = 0) := by
  obtain ⟨a, b, c, d⟩ := gh_nz h hk hm1 hm2
  have hs0 : gm p q k * hm p q k ^ (dgg (mm p q (k - 1)) - dgg (mm p q k)) ≠ 0 := Int.mul_ne_zero a (Int.pow_ne_zero b)
  have hR2 := prs_hi (b := mm p q k (dgg (mm p q k))) (B := mm p q k) (A := mm p q (k - 1)) c rfl (fun t ht => (d (k - 1) (by omega)).2 t (by omega)) (fun t ht => (d k (by omega)).2 t (by omega)) _ (Nat.le_refl _)
  have hR3 : ∀ t, dgg (mm p q k) ≤ t → rem2 (mm p q (k - 1)) (mm p q k) t = 0 := fun t ht => hR2 t (by omega)
  have hex : ∀ t, gm p q k * hm p q k ^ (dgg (mm p q (k - 1)) - dgg (mm p q k)) * mm p q (k + 1) t = rem2 (mm p q (k - 1)) (mm p q k) t := by
    intro t
    by_cases hd : 0 < dgg (mm p q k)
    · have e := (mm_ex h.1 h.2.1 h.2.2.2.2.1 hk hm1 (fun i hi h3 => by
        by_cases hik : i = k
        · subst hik; exact hd
        · exact hm2 i (by omega) h3)).1
      exact congrFun e t
    · rw [hR3 t (by omega), mm_step p q k hk]
      simp only [pdv]
      rw [hR3 t (by omega), Int.zero_ediv, Int.mul_zero]
  refine ⟨hs0, hex, hR3, fun t ht => ?_⟩
  have e := hex t
  rw [hR3 t ht] at e
  rcases Int.mul_eq_zero.mp e with h | h
  · exact absurd h hs0
  · exact h
