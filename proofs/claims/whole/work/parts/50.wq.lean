/-! ===== what a mirror gives; large numbers of the class ===== -/
def wq {β : Type} (x : Option β) (Q : β → Prop) : Prop := ∃ y, x = some y ∧ Q y
theorem wq_some {β : Type} {y : β} {Q : β → Prop} (h : Q y) : wq (some y) Q := ⟨y, rfl, h⟩
theorem wq_bd {α β : Type} {x : Option (α × rr_M)} {k : α → rr_M → Option β} {Q : β → Prop} (h : wq x (fun y => wq (k y.1 y.2) Q)) : wq (rr_bd x k) Q := by
  obtain ⟨y, rfl, h⟩ := h
  exact h
theorem wq_ob {α β : Type} {x : Option α} {k : α → Option β} {Q : β → Prop} (h : wq x (fun y => wq (k y) Q)) : wq (Option.bind x k) Q := by
  obtain ⟨y, rfl, h⟩ := h
  exact h
theorem wq_mo {β : Type} {x : Option β} {Q Q' : β → Prop} (h : wq x Q) (hq : ∀ y, Q y → Q' y) : wq x Q' := by
  obtain ⟨y, h1, h2⟩ := h
  exact ⟨y, h1, hq y h2⟩
theorem wq_ip {β : Type} {c : Prop} [Decidable c] {x y : Option β} {Q : β → Prop} (hc : c) (h : wq x Q) : wq (if c then x else y) Q := by rwa [if_pos hc]
theorem wq_in {β : Type} {c : Prop} [Decidable c] {x y : Option β} {Q : β → Prop} (hc : ¬ c) (h : wq y Q) : wq (if c then x else y) Q := by rwa [if_neg hc]
theorem wq_lt {α β : Type} {x : α} {k : α → Option β} {Q : β → Prop} (h : wq (k x) Q) : wq (rr_lt x k) Q := h
theorem wq_jn {α β : Type} {k : α} {b : α → Option β} {Q : β → Prop} (h : wq (b k) Q) : wq (rr_jn k b) Q := h
-- small whole numbers
theorem pw_mono {b : Int} (hb : 1 ≤ b) {m n : Nat} (h : m ≤ n) : b ^ m ≤ b ^ n := by
  induction h with
  | refl => exact Int.le_refl _
  | step h ih =>
    rename_i k
    rw [Int.pow_succ]
    have hp : 0 ≤ b ^ k := Int.le_of_lt (Int.pow_pos (by omega))
    have := Int.mul_le_mul_of_nonneg_left hb hp
    omega
theorem nI_m1 (n : Nat) : nI (n + 1) + (-1) = nI n := by
  rw [← nI_pred n, Int32.sub_eq_add_neg]
theorem nI_s2 (n : Nat) : nI (n + 2) - 2 = nI n := by
  have h : nI (n + 2) = nI n + 2 := by rw [nI_succ, nI_succ, Int32.add_assoc]; rfl
  rw [h, Int32.add_sub_cancel]
theorem nI_a2 (n : Nat) : nI n + 2 = nI (n + 2) := by
  rw [nI_succ, nI_succ, Int32.add_assoc]; rfl
theorem nI_sub {a b : Nat} (h : b ≤ a) : nI a - nI b = nI (a - b) := by
  have h1 : nI a = nI (a - b) + nI b := by rw [nI_add, Nat.sub_add_cancel h]
  rw [h1, Int32.add_sub_cancel]
theorem nI_t (n : Nat) (h : n < 2147483648) : (nI n).toInt = n := nI_toInt h
/-- digits 0 .. n - 1 in their range, the one at n carries the sign -/
def bt (g : Nat → Int64) (n : Nat) : Prop := dl g n ∧ -(1073741824 : Int) ^ (n + 1) ≤ dv g (n + 1) ∧ dv g (n + 1) ≤ (1073741824 : Int) ^ (n + 1)
theorem bt_top {g : Nat → Int64} {n : Nat} (h : bt g n) : -1073741824 ≤ (g n).toInt ∧ (g n).toInt ≤ 1073741824 := by
  obtain ⟨h1, h2, h3⟩ := h
  obtain ⟨h4, h5⟩ := dl_lt h1
  have hp := pB_pos n
  simp only [dv, pB_s] at h2 h3
  constructor
  · apply Int.not_lt.mp
    intro h6
    have := Int.mul_le_mul_of_nonneg_right (show (g n).toInt ≤ -1073741825 by omega) (Int.le_of_lt hp)
    omega
  · apply Int.not_lt.mp
    intro h6
    have := Int.mul_le_mul_of_nonneg_right (show (1073741825 : Int) ≤ (g n).toInt by omega) (Int.le_of_lt hp)
    omega
def bd (g : Nat → Int64) (n : Nat) : Prop := bt g n ∧ (0 < n → (g n).toInt ≠ 0 ∧ (g n).toInt ≠ -1)
theorem bt_down {g : Nat → Int64} {n : Nat} (h : bt g (n + 1)) : dl g n ∧ 0 ≤ (g n).toInt ∧ (g n).toInt < 1073741824 :=
  ⟨fun k hk => h.1 k (by omega), h.1 n (by omega)⟩
theorem big_trim_l {fu : Nat} {N : Nat → Nat} {a : Nat} {σ : rr_M} {Q : Unit × rr_M → Prop} {kk : Int32 → rr_M → Option (Unit × rr_M)} {z : Int} (hr : mg_r σ a 0 = a + 1) (hN : N (a + 1) < 2147483648) :
    ∀ (n f : Nat) (g : Nat → Int64), n < N (a + 1) → n < f → bt g n → dv g (n + 1) = z →
      (∀ (g' : Nat → Int64) (m : Nat), bd g' m → m ≤ n → dv g' (m + 1) = z → wq (kk (nI (m + 1)) (mw_l σ (a + 1) g')) Q) →
      wq (l_Big_trim_2 fu N a f (nI (n + 1)) (mw_l σ (a + 1) g) kk) Q
  | 0, f + 1, g, hn, hf, hb, hz, hk => by
    rw [l_Big_trim_2]
    exact wq_ip (by decide) (hk g 0 ⟨hb, fun h => absurd h (by omega)⟩ (by omega) hz)
  | n + 1, f + 1, g, hn, hf, hb, hz, hk => by
    have e1 : nI (n + 1 + 1) - 1 = nI (n + 1) := nI_pred _
    have e2 : nI (n + 1 + 1) - 2 = nI n := nI_s2 _
    have e3 : nI (n + 1 + 1) + (-1) = nI (n + 1) := nI_m1 _
    have i1 : rr_ix (nI (n + 1)) (N (a + 1)) = true := ix_nI (by omega) (by omega)
    have i2 : rr_ix (nI n) (N (a + 1)) = true := ix_nI (by omega) (by omega)
    have c1 : ¬ nI (n + 1 + 1) ≤ 1 := nI_ge (a := 1) (by omega) (by omega)
    have m1 : rr_n (nI (n + 1)) = n + 1 := n_nI (by omega)
    have m2 : rr_n (nI n) = n := n_nI (by omega)
    rw [l_Big_trim_2]
    simp only [rr_lt, rr_jn, e1, e2, e3, mw_r, hr, i1, i2, m1, m2, mw_gsk, if_true, if_neg c1]
    obtain ⟨hd, hd1, hd2⟩ := bt_down hb
    by_cases t0 : g (n + 1) = 0
    · have t1 : ¬ (g (n + 1) = -1) := by rw [t0]; decide
      simp only [if_pos t0, if_neg t1]
      refine big_trim_l hr hN n f g (by omega) (by omega) ?_ ?_ (fun g' m h1 h2 => hk g' m h1 (by omega))
      · obtain ⟨h1, h2⟩ := dl_lt (n := n + 1) hb.1
        exact ⟨hd, by omega, by omega⟩
      · rw [← hz]
        simp only [dv, t0]
        have : (0 : Int64).toInt = 0 := rfl
        rw [this]
        omega
    · by_cases t1 : g (n + 1) = -1
      · simp only [if_neg t0, if_pos t1]
        have e4 : (g n - 1073741824).toInt = (g n).toInt - 1073741824 := j_sub (x := g n) (y := 1073741824) (by rw [show (1073741824 : Int64).toInt = 1073741824 from rfl]; omega) (by rw [show (1073741824 : Int64).toInt = 1073741824 from rfl]; omega)
        rw [mw_ms]
        have e5 : dv (vp_updL g n (g n - 1073741824)) (n + 1) = dv g (n + 1 + 1) := by
          rw [dv_up (by omega), e4]
          simp only [dv, t1, pB_s]
          have : (-1 : Int64).toInt = -1 := rfl
          rw [this]
          have hp := pB_pos n
          grind
        have e6 : dv g (n + 1 + 1) = dv g (n + 1) + (-1) * 1073741824 ^ (n + 1) := by
          rw [dv, t1]; rfl
        obtain ⟨h1, h2⟩ := dl_lt (n := n + 1) hb.1
        refine big_trim_l hr hN n f _ (by omega) (by omega) ⟨fun k hk => ?_, ?_, ?_⟩ (e5.trans hz) (fun g' m h1 h2 => hk g' m h1 (by omega))
        · rw [upL_n (by omega)]; exact hd k hk
        · rw [e5, e6]; omega
        · rw [e5, e6]; have := pB_pos (n + 1); omega
      · simp only [if_neg t0, if_neg t1]
        exact hk g (n + 1) ⟨hb, fun _ => ⟨fun h => t0 (j_eq0.mpr h), fun h => t1 (j_eqm1.mpr h)⟩⟩ (by omega) hz
/-- the number at a becomes that of the digits g 0 .. g n -/
def bpt (σ : rr_M) (a : Nat) (g : Nat → Int64) (n : Nat) : rr_M := ms_i (mw_l σ (a + 1) g) a 1 (nI (n + 1))
theorem big_trim {fu : Nat} {N : Nat → Nat} {a : Nat} {σ : rr_M} {n : Nat} {g : Nat → Int64} (hr : mg_r σ a 0 = a + 1) (hN : N (a + 1) < 2147483648) (hn : n < N (a + 1)) (hf : n < fu) (hb : bt g n) :
    wq (f_Big_trim fu N a (nI (n + 1)) (mw_l σ (a + 1) g)) (fun y => ∃ (g' : Nat → Int64) (m : Nat), y.2 = bpt σ a g' m ∧ bd g' m ∧ m ≤ n ∧ dv g' (m + 1) = dv g (n + 1)) := by
  unfold f_Big_trim
  refine big_trim_l hr hN n fu g hn hf hb rfl (fun g' m h1 h2 h3 => ?_)
  exact wq_some ⟨g', m, rfl, h1, h2, h3⟩
/-- a large number lies at a -/
def bg (N : Nat → Nat) (σ : rr_M) (a : Nat) (z : Int) : Prop := mg_r σ a 0 = a + 1 ∧ ∃ n, n < N (a + 1) ∧ mg_i σ a 1 = nI (n + 1) ∧ bd (mg_l σ (a + 1)) n ∧ dv (mg_l σ (a + 1)) (n + 1) = z
theorem bd_big {g : Nat → Int64} {n : Nat} (h : bd g n) (h0 : 0 < n) : (1073741824 : Int) ^ n ≤ dv g (n + 1) ∨ dv g (n + 1) ≤ -(1073741824 : Int) ^ n := by
  obtain ⟨h1, h2⟩ := dl_lt h.1.1
  obtain ⟨h3, h4⟩ := h.2 h0
  have hp := pB_pos n
  simp only [dv]
  by_cases hs : 1 ≤ (g n).toInt
  · left
    have := Int.mul_le_mul_of_nonneg_right hs (Int.le_of_lt hp)
    omega
  · right
    have h5 : (g n).toInt ≤ -2 := by omega
    have := Int.mul_le_mul_of_nonneg_right h5 (Int.le_of_lt hp)
    omega
theorem bd_len {g : Nat → Int64} {n m : Nat} {z : Int} (h : bd g n) (hz : dv g (n + 1) = z) (h1 : -(1073741824 : Int) ^ m < z) (h2 : z < (1073741824 : Int) ^ m) : n < max m 1 := by
  by_cases h0 : 0 < n
  · rcases Nat.lt_or_ge n m with h | h3
    · omega
    · exfalso
      have := pw_mono (b := (1073741824 : Int)) (by decide) h3
      rcases bd_big h h0 with h4 | h4 <;> omega
  · omega
theorem bd_sg {g : Nat → Int64} {n : Nat} (h : bd g n) : (0 < dv g (n + 1) ↔ 0 < (g n).toInt) ∧ (dv g (n + 1) < 0 ↔ (g n).toInt < 0) := by
  obtain ⟨h1, h2⟩ := dl_lt h.1.1
  have hp := pB_pos n
  simp only [dv]
  rcases Int.lt_trichotomy (g n).toInt 0 with hs | hs | hs
  · have := Int.mul_le_mul_of_nonneg_right (show (g n).toInt ≤ -1 by omega) (Int.le_of_lt hp)
    constructor <;> constructor <;> intro h3 <;> omega
  · have h0 : n = 0 := by
      rcases Nat.eq_zero_or_pos n with h0 | h0
      · exact h0
      · exact absurd hs (h.2 h0).1
    subst h0
    simp only [dv, hs]
    constructor <;> constructor <;> intro h3 <;> omega
  · have := Int.mul_le_mul_of_nonneg_right (show 1 ≤ (g n).toInt by omega) (Int.le_of_lt hp)
    constructor <;> constructor <;> intro h3 <;> omega
theorem bg_bpt {N : Nat → Nat} {σ : rr_M} {a n : Nat} {g : Nat → Int64} (hr : mg_r σ a 0 = a + 1) (hn : n < N (a + 1)) (hb : bd g n) : bg N (bpt σ a g n) a (dv g (n + 1)) := by
  refine ⟨hr, n, hn, ?_, ?_, ?_⟩
  · simp only [bpt, si_s]
  · simp only [bpt, si_l, mw_gs]; exact hb
  · simp only [bpt, si_l, mw_gs]
