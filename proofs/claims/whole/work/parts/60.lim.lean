/-! ===== large numbers of the model: limbs ===== -/
def lv (g : Nat → Int32) (o : Nat) : Nat → Int
  | 0 => 0
  | n + 1 => lv g o n + (g (o + n)).toInt * 65536 ^ n
def lok (g : Nat → Int32) (o n : Nat) : Prop := ∀ k, k < n → 0 ≤ (g (o + k)).toInt ∧ (g (o + k)).toInt < 65536
theorem pL_pos (n : Nat) : (0 : Int) < 65536 ^ n := Int.pow_pos (by decide)
theorem pL_s (n : Nat) : (65536 : Int) ^ (n + 1) = 65536 ^ n * 65536 := Int.pow_succ _ _
theorem lok_lt {g : Nat → Int32} {o : Nat} : ∀ {n : Nat}, lok g o n → 0 ≤ lv g o n ∧ lv g o n < 65536 ^ n
  | 0, _ => by simp [lv]
  | n + 1, h => by
    obtain ⟨h1, h2⟩ := lok_lt (n := n) (fun k hk => h k (by omega))
    obtain ⟨h3, h4⟩ := h n (by omega)
    have hp := pL_pos n
    simp only [lv, pL_s]
    have h5 : (g (o + n)).toInt * 65536 ^ n ≤ 65535 * 65536 ^ n := Int.mul_le_mul_of_nonneg_right (by omega) (by omega)
    have h6 : 0 ≤ (g (o + n)).toInt * 65536 ^ n := Int.mul_nonneg h3 (by omega)
    omega
theorem lv_congr {g g' : Nat → Int32} {o o' : Nat} : ∀ {n : Nat}, (∀ k, k < n → g (o + k) = g' (o' + k)) → lv g o n = lv g' o' n
  | 0, _ => rfl
  | n + 1, h => by simp only [lv]; rw [lv_congr (fun k hk => h k (by omega)), h n (by omega)]
/-- nothing but the number in slot s has changed -/
def onl (C s : Nat) (σ σ' : rr_M) : Prop := mg_r σ' = mg_r σ ∧ mg_l σ' = mg_l σ ∧ (∀ a, a ≠ C + 1 → a ≠ C + 2 → a ≠ C + 3 → mg_i σ' a = mg_i σ a) ∧ (∀ j, (j < 200 * s ∨ 200 * s + 200 ≤ j) → mg_i σ' (C + 1) j = mg_i σ (C + 1) j) ∧ (∀ j, j ≠ s → mg_i σ' (C + 2) j = mg_i σ (C + 2) j) ∧ (∀ j, j ≠ s → mg_i σ' (C + 3) j = mg_i σ (C + 3) j)
theorem onl_rfl (C s : Nat) (σ : rr_M) : onl C s σ σ := ⟨rfl, rfl, fun _ _ _ _ => rfl, fun _ _ => rfl, fun _ _ => rfl, fun _ _ => rfl⟩
theorem onl_tr {C s : Nat} {σ σ' σ'' : rr_M} (h1 : onl C s σ σ') (h2 : onl C s σ' σ'') : onl C s σ σ'' :=
  ⟨h2.1.trans h1.1, h2.2.1.trans h1.2.1, fun a x y z => (h2.2.2.1 a x y z).trans (h1.2.2.1 a x y z), fun j hj => (h2.2.2.2.1 j hj).trans (h1.2.2.2.1 j hj), fun j hj => (h2.2.2.2.2.1 j hj).trans (h1.2.2.2.2.1 j hj), fun j hj => (h2.2.2.2.2.2 j hj).trans (h1.2.2.2.2.2 j hj)⟩
theorem si_row {σ : rr_M} {a k b : Nat} {v : Int32} (h : b ≠ a) : mg_i (ms_i σ a k v) b = mg_i σ b := rr_oI h
theorem onl_limb {C s k : Nat} {σ : rr_M} {v : Int32} (h1 : 200 * s ≤ k) (h2 : k < 200 * s + 200) : onl C s σ (ms_i σ (C + 1) k v) := by
  refine ⟨rfl, rfl, fun a x _ _ => si_row x, fun j hj => si_n (Or.inr (by omega)), fun j _ => ?_, fun j _ => ?_⟩
  · rw [si_row (by omega)]
  · rw [si_row (by omega)]
theorem onl_long {C s : Nat} {σ : rr_M} {v : Int32} : onl C s σ (ms_i σ (C + 2) s v) := by
  refine ⟨rfl, rfl, fun a _ x _ => si_row x, fun j hj => ?_, fun j hj => si_n (Or.inr hj), fun j _ => ?_⟩
  · rw [si_row (by omega)]
  · rw [si_row (by omega)]
theorem onl_sign {C s : Nat} {σ : rr_M} {v : Int32} : onl C s σ (ms_i σ (C + 3) s v) := by
  refine ⟨rfl, rfl, fun a _ _ x => si_row x, fun j hj => ?_, fun j _ => ?_, fun j hj => si_n (Or.inr hj)⟩
  · rw [si_row (by omega)]
  · rw [si_row (by omega)]
/-- the number z lies in slot s, in n limbs -/
def lmn (C : Nat) (σ : rr_M) (s : Nat) (z : Int) (n : Nat) : Prop := n ≤ 200 ∧ mg_i σ (C + 2) s = nI n ∧ lok (mg_i σ (C + 1)) (200 * s) n ∧ (0 < n → (mg_i σ (C + 1) (200 * s + (n - 1))).toInt ≠ 0) ∧ lv (mg_i σ (C + 1)) (200 * s) n = z.natAbs ∧ (mg_i σ (C + 3) s).toInt = z.sign
def lm (C : Nat) (σ : rr_M) (s : Nat) (z : Int) : Prop := ∃ n, lmn C σ s z n
theorem lmn_ge {C : Nat} {σ : rr_M} {s n : Nat} {z : Int} (h : lmn C σ s z n) (h0 : 0 < n) : (65536 : Int) ^ (n - 1) ≤ z.natAbs := by
  obtain ⟨_, _, h1, h2, h3, _⟩ := h
  obtain ⟨m, rfl⟩ : ∃ m, n = m + 1 := ⟨n - 1, by omega⟩
  rw [← h3, lv]
  have h4 := lok_lt (n := m) (fun k hk => h1 k (by omega))
  have h5 := h1 m (by omega)
  have h6 := h2 h0
  rw [Nat.add_sub_cancel] at h6 ⊢
  have := Int.mul_le_mul_of_nonneg_right (show 1 ≤ (mg_i σ (C + 1) (200 * s + m)).toInt by omega) (Int.le_of_lt (pL_pos m))
  omega
theorem lmn_lt {C : Nat} {σ : rr_M} {s n : Nat} {z : Int} (h : lmn C σ s z n) : (z.natAbs : Int) < 65536 ^ n := by
  rw [← h.2.2.2.2.1]
  exact (lok_lt h.2.2.1).2
theorem lmn_len {C : Nat} {σ : rr_M} {s n m : Nat} {z : Int} (h : lmn C σ s z n) (hz : (z.natAbs : Int) < 65536 ^ m) : n ≤ m := by
  rcases Nat.eq_zero_or_pos n with h0 | h0
  · omega
  · apply Nat.le_of_not_lt
    intro h1
    have h2 := lmn_ge h h0
    have h3 : (65536 : Int) ^ m ≤ 65536 ^ (n - 1) := pw_mono (by decide) (by omega)
    omega
theorem lmn_zero {C : Nat} {σ : rr_M} {s n : Nat} {z : Int} (h : lmn C σ s z n) : n = 0 ↔ z = 0 := by
  constructor
  · intro h0
    have := lmn_lt h
    rw [h0] at this
    simp at this
    omega
  · intro h0
    rcases Nat.eq_zero_or_pos n with h1 | h1
    · exact h1
    · have := lmn_ge h h1
      have := pL_pos (n - 1)
      rw [h0] at *
      simp at *
      omega
theorem lm_onl {C s s' : Nat} {σ σ' : rr_M} {z : Int} (h : onl C s σ σ') (hne : s' ≠ s) (hl : lm C σ s' z) : lm C σ' s' z := by
  obtain ⟨n, h1, h2, h3, h4, h5, h6⟩ := hl
  obtain ⟨_, _, _, q4, q5, q6⟩ := h
  have hj : ∀ k, k < 200 → mg_i σ' (C + 1) (200 * s' + k) = mg_i σ (C + 1) (200 * s' + k) := fun k hk => q4 _ (by omega)
  refine ⟨n, h1, (q5 s' hne).trans h2, fun k hk => ?_, fun h0 => ?_, ?_, ?_⟩
  · rw [hj k (by omega)]; exact h3 k hk
  · rw [hj _ (by omega)]; exact h4 h0
  · rw [← h5]; exact lv_congr (fun k hk => hj k (by omega))
  · rw [q6 s' hne]; exact h6
-- the layout of the model
theorem nm_1 (C : Nat) : nm C (C + 1) = 92000 := by simp [nm, NM, lm_N]
theorem nm_2 (C : Nat) : nm C (C + 2) = 460 := by simp [nm, NM, lm_N]
theorem nm_3 (C : Nat) : nm C (C + 3) = 460 := by simp [nm, NM, lm_N]
theorem nm_4 (C : Nat) : nm C (C + 4) = 401 := by simp [nm, NM, lm_N]
theorem nm_5 (C : Nat) : nm C (C + 5) = 201 := by simp [nm, NM, lm_N]
theorem nm_6 (C : Nat) : nm C (C + 6) = 48 := by simp [nm, NM, lm_N]
theorem nm_7 (C : Nat) : nm C (C + 7) = 48 := by simp [nm, NM, lm_N]
theorem nm_8 (C : Nat) : nm C (C + 8) = 207 := by simp [nm, NM, lm_N]
theorem nm_9 (C : Nat) : nm C (C + 9) = 9 := by simp [nm, NM, lm_N]
theorem nm_10 (C : Nat) : nm C (C + 10) = 9 := by simp [nm, NM, lm_N]
theorem nm_11 (C : Nat) : nm C (C + 11) = 81 := by simp [nm, NM, lm_N]
theorem nm_12 (C : Nat) : nm C (C + 12) = 200 := by simp [nm, NM, lm_N]
def mrf (C : Nat) (σ : rr_M) : Prop := mg_r σ C = fun k => C + RM 0 k
theorem mrf_1 {C : Nat} {σ : rr_M} (h : mrf C σ) : mg_r σ C 1 = C + 1 := by rw [h]; rfl
theorem mrf_2 {C : Nat} {σ : rr_M} (h : mrf C σ) : mg_r σ C 2 = C + 2 := by rw [h]; rfl
theorem mrf_3 {C : Nat} {σ : rr_M} (h : mrf C σ) : mg_r σ C 3 = C + 3 := by rw [h]; rfl
theorem mrf_4 {C : Nat} {σ : rr_M} (h : mrf C σ) : mg_r σ C 4 = C + 4 := by rw [h]; rfl
theorem mrf_5 {C : Nat} {σ : rr_M} (h : mrf C σ) : mg_r σ C 5 = C + 5 := by rw [h]; rfl
theorem mrf_6 {C : Nat} {σ : rr_M} (h : mrf C σ) : mg_r σ C 6 = C + 6 := by rw [h]; rfl
theorem mrf_7 {C : Nat} {σ : rr_M} (h : mrf C σ) : mg_r σ C 7 = C + 7 := by rw [h]; rfl
theorem mrf_8 {C : Nat} {σ : rr_M} (h : mrf C σ) : mg_r σ C 8 = C + 8 := by rw [h]; rfl
theorem mrf_9 {C : Nat} {σ : rr_M} (h : mrf C σ) : mg_r σ C 9 = C + 9 := by rw [h]; rfl
theorem mrf_10 {C : Nat} {σ : rr_M} (h : mrf C σ) : mg_r σ C 10 = C + 10 := by rw [h]; rfl
theorem mrf_12 {C : Nat} {σ : rr_M} (h : mrf C σ) : mg_r σ C 12 = C + 11 := by rw [h]; rfl
theorem mrf_13 {C : Nat} {σ : rr_M} (h : mrf C σ) : mg_r σ C 13 = C + 12 := by rw [h]; rfl
theorem mrf_of {C : Nat} {σ σ' : rr_M} (h : mrf C σ) (e : mg_r σ' = mg_r σ) : mrf C σ' := by unfold mrf; rw [e]; exact h
theorem e200 (s k : Nat) : (200 * nI s) + nI k = nI (200 * s + k) := by
  rw [show (200 : Int32) = nI 200 from rfl, nI_mul, nI_add]
theorem lim_at {C : Nat} {σ : rr_M} {s k : Nat} (h : mrf C σ) (hk : 200 * s + k < 92000) : f_Mod_limbAt (nm C) C (nI s) (nI k) σ = some (mg_i σ (C + 1) (200 * s + k)) := by
  have i1 : rr_ix (nI (200 * s + k)) (nm C (C + 1)) = true := by rw [nm_1]; exact ix_nI hk (by omega)
  have m1 : rr_n (nI (200 * s + k)) = 200 * s + k := n_nI (by omega)
  unfold f_Mod_limbAt
  simp only [rr_lt, mrf_1 h, e200, i1, m1, if_true]
