/-! ===== how many bits there are ===== -/
theorem dgg_lt (f : Pl) : dgg f ≤ 8 := by
  have := lnn_le 9 f
  unfold dgg dln
  omega
theorem bit_tab {D δ X Y H : Nat} (hD1 : 1 ≤ D) (hD2 : D ≤ 8) (hδ : δ ≤ D) (hX : X ≤ 512 - 64 * (D - 1)) (hY : Y ≤ 512 - 64 * (D - 1)) (hH : H ≤ 512 - 64 * D) :
    Y + (δ + 1) * (X + 1) + X ≤ 2400 ∧ Y + δ * H ≤ 2400 ∧ (δ + 1) * X ≤ 2400 := by
  have h1 : (δ + 1) * (X + 1) ≤ (D + 1) * (512 - 64 * (D - 1) + 1) := Nat.mul_le_mul (by omega) (by omega)
  have h2 : δ * H ≤ D * (512 - 64 * D) := Nat.mul_le_mul hδ hH
  have h3 : (δ + 1) * X ≤ (D + 1) * (512 - 64 * (D - 1)) := Nat.mul_le_mul (by omega) hX
  rcases (by omega : D = 1 ∨ D = 2 ∨ D = 3 ∨ D = 4 ∨ D = 5 ∨ D = 6 ∨ D = 7 ∨ D = 8) with h | h | h | h | h | h | h | h <;> subst h <;> simp at * <;> omega
theorem bit_mul {s E D : Nat} (h32 : 32 ≤ s) (hE : s * E ≤ 512) (hD : 2 * D ≤ E) : s * (E - 2 * D) ≤ 512 - 64 * D := by
  have h1 : s * (E - 2 * D) + s * (2 * D) = s * E := by rw [← Nat.mul_add, Nat.sub_add_cancel hD]
  have h2 : 32 * (2 * D) ≤ s * (2 * D) := Nat.mul_le_mul_right _ h32
  omega
theorem bits_ok {p q : Pl} {s : Nat} (h : gdp p q s) {k : Nat} (hk : 1 ≤ k) (hm1 : mmn p q k) (hm2 : ∀ i, i < k → 1 ≤ i → 0 < dgg (mm p q i)) :
    mbt p q s (k - 1) + (dgg (mm p q (k - 1)) - dgg (mm p q k) + 1) * (mbt p q s k + 1) + mbt p q s k ≤ 2400 ∧ mbt p q s (k - 1) + (dgg (mm p q (k - 1)) - dgg (mm p q k)) * hbt p q s k ≤ 2400 ∧
    (dgg (mm p q (k - 1)) - dgg (mm p q k) + 1) * mbt p q s k ≤ 2400 ∧ mbt p q s k ≤ 512 ∧ mbt p q s (k - 1) ≤ 512 ∧ hbt p q s k ≤ 512 := by
  obtain ⟨h1, h2, h3, h4, h5, h6, h7, h8, h9, h10⟩ := h
  have hdp := dgg_lt p
  have hdq := dgg_lt q
  obtain ⟨H, hb⟩ := mm_chn h1 h2 h5 k hk hm1 hm2
  have hdec : ∀ i, 1 ≤ i → i ≤ k → dgg (mm p q i) ≤ dgg (mm p q (i - 1)) := fun i a b => (chn_d H i a b).1
  have hle1 : ∀ i, 1 ≤ i → i ≤ k → dgg (mm p q i) ≤ dgg q := by
    intro i
    induction i with
    | zero => intro h; omega
    | succ i ih =>
      intro a b
      by_cases hi : i = 0
      · subst hi; exact Nat.le_refl _
      · have := hdec (i + 1) (by omega) b
        rw [Nat.add_sub_cancel] at this
        exact Nat.le_trans this (ih (by omega) (by omega))
  match k, hk with
  | 1, _ =>
    show s + (dgg p - dgg q + 1) * (s + 1) + s ≤ 2400 ∧ s + (dgg p - dgg q) * 0 ≤ 2400 ∧ (dgg p - dgg q + 1) * s ≤ 2400 ∧ s ≤ 512 ∧ s ≤ 512 ∧ 0 ≤ 512
    have e1 : (dgg p - dgg q + 1) * (s + 1) ≤ 9 * 65 := Nat.mul_le_mul (by omega) (by omega)
    have e2 : (dgg p - dgg q + 1) * s ≤ 9 * 64 := Nat.mul_le_mul (by omega) (by omega)
    omega
  | k + 2, _ =>
    have hD := hm2 (k + 1) (by omega) (by omega)
    have hDq := hle1 (k + 1) (by omega) (by omega)
    have hX : mbt p q s (k + 2) ≤ 512 - 64 * (dgg (mm p q (k + 1)) - 1) := by
      have e : mbt p q s (k + 2) = s * ((dgg p + dgg q) - 2 * (dgg (mm p q (k + 1)) - 1)) := by
        show s * _ = s * _
        congr 1
        omega
      rw [e]
      exact bit_mul h8 h9 (by omega)
    have hH : hbt p q s (k + 2) ≤ 512 - 64 * dgg (mm p q (k + 1)) := by
      have e : hbt p q s (k + 2) = s * ((dgg p + dgg q) - 2 * dgg (mm p q (k + 1))) := by
        show s * _ = s * _
        congr 1
        omega
      rw [e]
      exact bit_mul h8 h9 (by omega)
    have hY : mbt p q s (k + 1) ≤ 512 - 64 * (dgg (mm p q (k + 1)) - 1) := by
      match k with
      | 0 =>
        show s ≤ 512 - 64 * (dgg (mm p q 1) - 1)
        have : dgg (mm p q 1) ≤ 8 := dgg_lt _
        omega
      | k + 1 =>
        have hd2 := hdec (k + 2) (by omega) (by omega)
        have hd2 : dgg (mm p q (k + 1 + 1)) ≤ dgg (mm p q (k + 1)) := hd2
        have hDq2 := hle1 (k + 1) (by omega) (by omega)
        have e : mbt p q s (k + 1 + 1) = s * ((dgg p + dgg q) - 2 * (dgg (mm p q (k + 1)) - 1)) := by
          show s * _ = s * _
          congr 1
          omega
        rw [e]
        have := bit_mul (D := dgg (mm p q (k + 1)) - 1) h8 h9 (by omega)
        omega
    have hd3 := hdec (k + 2) (by omega) (by omega)
    have hd8 := dgg_lt (mm p q (k + 1))
    have T := bit_tab (δ := dgg (mm p q (k + 1)) - dgg (mm p q (k + 2))) hD hd8 (by omega) hX hY hH
    show mbt p q s (k + 1) + (dgg (mm p q (k + 1)) - dgg (mm p q (k + 2)) + 1) * (mbt p q s (k + 2) + 1) + mbt p q s (k + 2) ≤ 2400 ∧ mbt p q s (k + 1) + (dgg (mm p q (k + 1)) - dgg (mm p q (k + 2))) * hbt p q s (k + 2) ≤ 2400 ∧ (dgg (mm p q (k + 1)) - dgg (mm p q (k + 2)) + 1) * mbt p q s (k + 2) ≤ 2400 ∧ mbt p q s (k + 2) ≤ 512 ∧ mbt p q s (k + 1) ≤ 512 ∧ hbt p q s (k + 2) ≤ 512
    refine ⟨T.1, T.2.1, T.2.2, by omega, by omega, by omega⟩
