/-! ===== the pure part: memory rows, numbers ===== -/
/-- the long array d becomes g -/
def mw_l (σ : rr_M) (d : Nat) (g : Nat → Int64) : rr_M := (σ.1, (fun a => if a = d then g else σ.2.1 a), σ.2.2)
theorem mw_id (σ : rr_M) (d : Nat) : mw_l σ d (mg_l σ d) = σ := by
  unfold mw_l mg_l
  have : (fun a => if a = d then (fun k => σ.2.1 d k) else σ.2.1 a) = σ.2.1 := by
    funext a
    by_cases h : a = d
    · subst h; simp
    · simp [h]
  show (σ.1, (fun a => if a = d then (fun k => σ.2.1 d k) else σ.2.1 a), σ.2.2) = σ
  rw [this]
theorem mw_mw (σ : rr_M) (d : Nat) (g g' : Nat → Int64) : mw_l (mw_l σ d g) d g' = mw_l σ d g' := by
  unfold mw_l
  simp only
  congr 2
  funext a
  by_cases h : a = d <;> simp [h]
theorem mw_gs (σ : rr_M) (d : Nat) (g : Nat → Int64) : mg_l (mw_l σ d g) d = g := by
  funext k
  simp [mg_l, mw_l]
theorem mw_gsk (σ : rr_M) (d : Nat) (g : Nat → Int64) (k : Nat) : mg_l (mw_l σ d g) d k = g k := by rw [mw_gs]
theorem mw_gn {σ : rr_M} {d a : Nat} (g : Nat → Int64) (h : a ≠ d) : mg_l (mw_l σ d g) a = mg_l σ a := by
  funext k
  simp [mg_l, mw_l, h]
theorem mw_i (σ : rr_M) (d : Nat) (g : Nat → Int64) : mg_i (mw_l σ d g) = mg_i σ := rfl
theorem mw_r (σ : rr_M) (d : Nat) (g : Nat → Int64) : mg_r (mw_l σ d g) = mg_r σ := rfl
theorem mw_ms (σ : rr_M) (d k : Nat) (g : Nat → Int64) (v : Int64) : ms_l (mw_l σ d g) d k v = mw_l σ d (vp_updL g k v) := by
  unfold ms_l mw_l
  congr 2
  funext a j
  by_cases h : a = d
  · subst h
    simp [rr_u2, vp_updL]
  · simp [rr_u2, h]
theorem mw_of_ms (σ : rr_M) (d k : Nat) (v : Int64) : ms_l σ d k v = mw_l σ d (vp_updL (mg_l σ d) k v) := by
  rw [← mw_ms, mw_id]
theorem si_l (σ : rr_M) (a k : Nat) (v : Int32) : mg_l (ms_i σ a k v) = mg_l σ := rfl
theorem si_r (σ : rr_M) (a k : Nat) (v : Int32) : mg_r (ms_i σ a k v) = mg_r σ := rfl
theorem si_s (σ : rr_M) (a k : Nat) (v : Int32) : mg_i (ms_i σ a k v) a k = v := by simp [mg_i, ms_i, rr_u2]
theorem si_n {σ : rr_M} {a k b j : Nat} {v : Int32} (h : b ≠ a ∨ j ≠ k) : mg_i (ms_i σ a k v) b j = mg_i σ b j := by
  have : ¬ (b = a ∧ j = k) := by omega
  simp [mg_i, ms_i, rr_u2, this]
theorem sl_i (σ : rr_M) (a k : Nat) (v : Int64) : mg_i (ms_l σ a k v) = mg_i σ := rfl
theorem sl_r (σ : rr_M) (a k : Nat) (v : Int64) : mg_r (ms_l σ a k v) = mg_r σ := rfl
theorem sl_s (σ : rr_M) (a k : Nat) (v : Int64) : mg_l (ms_l σ a k v) a k = v := by simp [mg_l, ms_l, rr_u2]
theorem sl_n {σ : rr_M} {a k b j : Nat} {v : Int64} (h : b ≠ a ∨ j ≠ k) : mg_l (ms_l σ a k v) b j = mg_l σ b j := by
  have : ¬ (b = a ∧ j = k) := by omega
  simp [mg_l, ms_l, rr_u2, this]
theorem sr_i (σ : rr_M) (a k : Nat) (v : Nat) : mg_i (ms_r σ a k v) = mg_i σ := rfl
theorem sr_l (σ : rr_M) (a k : Nat) (v : Nat) : mg_l (ms_r σ a k v) = mg_l σ := rfl
theorem sr_s (σ : rr_M) (a k : Nat) (v : Nat) : mg_r (ms_r σ a k v) a k = v := by simp [mg_r, ms_r, rr_u2]
theorem sr_n {σ : rr_M} {a k b j v : Nat} (h : b ≠ a ∨ j ≠ k) : mg_r (ms_r σ a k v) b j = mg_r σ b j := by
  have : ¬ (b = a ∧ j = k) := by omega
  simp [mg_r, ms_r, rr_u2, this]
-- indices
theorem ix_nI {k n : Nat} (h : k < n) (hk : k < 2 ^ 31) : rr_ix (nI k) n = true := by
  simp only [rr_ix, nI_toInt hk, Bool.and_eq_true, decide_eq_true_eq]
  omega
theorem n_nI {k : Nat} (hk : k < 2 ^ 31) : rr_n (nI k) = k := nI_clamp hk
theorem upL_s (g : Nat → Int64) (k : Nat) (v : Int64) : vp_updL g k v k = v := by simp [vp_updL]
theorem upL_n {g : Nat → Int64} {k j : Nat} {v : Int64} (h : j ≠ k) : vp_updL g k v j = g j := by simp [vp_updL, h]
-- numbers
theorem jm30 (x : Int64) : (x &&& 1073741823).toInt = x.toInt % 1073741824 := Jvm.Kit.i64_mask x 1073741823 (k := 30) (by decide) (by decide)
theorem js30 (x : Int64) : (x >>> ((30 : Int32).toInt64 &&& 63)).toInt = x.toInt / 1073741824 := Jvm.Kit.i64_shr x _ (k := 30) (by decide)
theorem j_inj {x y : Int64} (h : x.toInt = y.toInt) : x = y := Int64.toInt_inj.mp h
theorem i_inj {x y : Int32} (h : x.toInt = y.toInt) : x = y := Int32.toInt_inj.mp h
theorem j_add {x y : Int64} (h1 : -9223372036854775808 ≤ x.toInt + y.toInt) (h2 : x.toInt + y.toInt < 9223372036854775808) : (x + y).toInt = x.toInt + y.toInt := Jvm.Kit.i64_add h1 h2
theorem j_sub {x y : Int64} (h1 : -9223372036854775808 ≤ x.toInt - y.toInt) (h2 : x.toInt - y.toInt < 9223372036854775808) : (x - y).toInt = x.toInt - y.toInt := Jvm.Kit.i64_sub h1 h2
theorem j_mul {x y : Int64} (h1 : -9223372036854775808 ≤ x.toInt * y.toInt) (h2 : x.toInt * y.toInt < 9223372036854775808) : (x * y).toInt = x.toInt * y.toInt := Jvm.Kit.i64_mul h1 h2
theorem j_eq0 {x : Int64} : x = 0 ↔ x.toInt = 0 := by rw [← Int64.toInt_inj]; rfl
theorem j_eqm1 {x : Int64} : x = -1 ↔ x.toInt = -1 := by rw [← Int64.toInt_inj]; rfl
/-- the number that n digits tell -/
def dv (g : Nat → Int64) : Nat → Int
  | 0 => 0
  | n + 1 => dv g n + (g n).toInt * 1073741824 ^ n
def dl (g : Nat → Int64) (n : Nat) : Prop := ∀ k, k < n → 0 ≤ (g k).toInt ∧ (g k).toInt < 1073741824
theorem pB_pos (n : Nat) : (0 : Int) < 1073741824 ^ n := Int.pow_pos (by decide)
theorem pB_s (n : Nat) : (1073741824 : Int) ^ (n + 1) = 1073741824 ^ n * 1073741824 := Int.pow_succ _ _
theorem dl_lt {g : Nat → Int64} : ∀ {n : Nat}, dl g n → 0 ≤ dv g n ∧ dv g n < 1073741824 ^ n
  | 0, _ => by simp [dv]
  | n + 1, h => by
    obtain ⟨h1, h2⟩ := dl_lt (n := n) (fun k hk => h k (by omega))
    obtain ⟨h3, h4⟩ := h n (by omega)
    have hp := pB_pos n
    simp only [dv, pB_s]
    have h5 : (g n).toInt * 1073741824 ^ n ≤ 1073741823 * 1073741824 ^ n := Int.mul_le_mul_of_nonneg_right (by omega) (by omega)
    have h6 : 0 ≤ (g n).toInt * 1073741824 ^ n := Int.mul_nonneg h3 (by omega)
    omega
theorem dv_congr {g g' : Nat → Int64} : ∀ {n : Nat}, (∀ k, k < n → g k = g' k) → dv g n = dv g' n
  | 0, _ => rfl
  | n + 1, h => by simp only [dv]; rw [dv_congr (fun k hk => h k (by omega)), h n (by omega)]
theorem dv_up {g : Nat → Int64} {k : Nat} {v : Int64} : ∀ {n : Nat}, k < n → dv (vp_updL g k v) n = dv g n + (v.toInt - (g k).toInt) * 1073741824 ^ k
  | 0, h => by omega
  | n + 1, h => by
    simp only [dv]
    by_cases hk : k = n
    · subst hk
      rw [upL_s, dv_congr (g' := g) (fun j hj => upL_n (by omega)), Int.sub_mul]
      omega
    · rw [upL_n (by omega), dv_up (by omega)]
      omega
theorem dv_up_hi {g : Nat → Int64} {k n : Nat} {v : Int64} (h : n ≤ k) : dv (vp_updL g k v) n = dv g n := dv_congr (fun j hj => upL_n (by omega))
