/-! ===== two turns are not near: the core ===== -/
theorem small_e {T a : Rat} (hT : 0 ≤ T) (ha : 0 < a) : ∃ ε, 0 < ε ∧ T * ε < a := by
  have h1 : 0 < T + 1 := by grind
  have h2 : 0 < (T + 1)⁻¹ := Rat.inv_pos.mpr h1
  refine ⟨a * (T + 1)⁻¹, Rat.mul_pos ha h2, ?_⟩
  have h3 : (T + 1) * (T + 1)⁻¹ = 1 := Rat.mul_inv_cancel _ (by grind)
  have h4 : 0 < a * (T + 1)⁻¹ := Rat.mul_pos ha h2
  have h5 : (T + 1) * (a * (T + 1)⁻¹) = a := by
    have : (T + 1) * (a * (T + 1)⁻¹) = a * ((T + 1) * (T + 1)⁻¹) := by grind
    rw [this, h3]; grind
  grind
theorem sep_core {h : Pl} (hh : fin h) {U W : Rat → Rat} {κ : Int} (hκ : κ ≠ 0) {V : Rat → Nat} (H : stv h V) {x y : Rat} (hxy : x < y)
    (hk : ∀ z, x ≤ z → z ≤ y → U z * vl h z + W z * vl (der h) z = κ) {Ku Kv C : Rat} (hKu : 0 ≤ Ku) (hKv : 0 ≤ Kv) (hC : 0 ≤ C) (bu : ∀ z, x ≤ z → z ≤ y → inM Ku (U z)) (bv : ∀ z, x ≤ z → z ≤ y → inM Kv (W z))
    (ht : ∀ a b, x ≤ a → a ≤ y → x ≤ b → b ≤ y → inM (C * ((b - a) * (b - a))) (vl h b - vl h a - (b - a) * vl (der h) a))
    (hs : 2 * (Ku * (C * ((y - x) * (y - x)))) < 1) : V x ≤ V y + 1 := by
  apply Classical.byContradiction
  intro hn
  have hδ : 0 < y - x := by grind
  have hT : 0 ≤ 2 * (Ku * (1 + (y - x)) + Kv) := by
    have := Rat.mul_nonneg hKu (b := 1 + (y - x)) (by grind)
    grind
  obtain ⟨η, hη, hη2⟩ := small_e hT (a := 1) (by decide)
  obtain ⟨a, a1, a2, a3⟩ := sep_h hh H hxy (by omega) hη
  obtain ⟨b, b1, b2, b3⟩ := sep_d hh H hxy (by omega) hη
  have t1 := ht b a b1 b2 a1 a2
  have t2 : inM (y - x) (a - b) := by constructor <;> grind
  have t3 := inM_mul t2 t2 (Rat.le_of_lt hδ) (Rat.le_of_lt hδ)
  have t4 : C * ((a - b) * (a - b)) ≤ C * ((y - x) * (y - x)) := Rat.mul_le_mul_of_nonneg_left t3.2 hC
  have t5 := inM_mul t2 b3 (Rat.le_of_lt hδ) (Rat.le_of_lt hη)
  have t6 : inM (η + (y - x) * η + C * ((y - x) * (y - x))) (vl h b) := by
    obtain ⟨c1, c2⟩ := t1
    obtain ⟨c3, c4⟩ := t5
    obtain ⟨c5, c6⟩ := a3
    constructor <;> grind
  have hsq : 0 ≤ C * ((y - x) * (y - x)) := Rat.mul_nonneg hC (Rat.mul_nonneg (Rat.le_of_lt hδ) (Rat.le_of_lt hδ))
  have hη3 := Rat.mul_nonneg (Rat.le_of_lt hδ) (Rat.le_of_lt hη)
  have t7 := inM_mul (bu b b1 b2) t6 hKu (by grind)
  have t8 := inM_mul (bv b b1 b2) b3 hKv (Rat.le_of_lt hη)
  have t9 := inM_add t7 t8
  rw [hk b b1 b2] at t9
  obtain ⟨c1, c2⟩ := t9
  have e1 : Ku * (η + (y - x) * η + C * ((y - x) * (y - x))) + Kv * η < 1 := by grind
  have e2 : κ ≤ -1 ∨ 1 ≤ κ := by omega
  have e3 : ((1 : Int) : Rat) = 1 := rfl
  have e4 : ((-1 : Int) : Rat) = -1 := rfl
  rcases e2 with h | h
  · have := Rat.intCast_le_intCast.mpr h
    rw [e4] at this
    grind
  · have := Rat.intCast_le_intCast.mpr h
    rw [e3] at this
    grind
