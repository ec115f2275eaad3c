/-! ===== unlike roots lie apart ===== -/
theorem ia (z : Int) : inM ((z.natAbs : Nat) : Rat) (z : Rat) := by
  have h1 : -((z.natAbs : Nat) : Int) ≤ z := by omega
  have h2 : z ≤ ((z.natAbs : Nat) : Int) := by omega
  constructor
  · have := Rat.intCast_le_intCast.mpr h1
    rw [Rat.intCast_neg] at this
    exact this
  · exact Rat.intCast_le_intCast.mpr h2
theorem nsz_ptl (f : Pl) : ∀ n, nsz (n + 1) f = (f 0).natAbs + nsz n (ptl f)
  | 0 => by simp [nsz]
  | n + 1 => by
    have := nsz_ptl f n
    have e : nsz (n + 1 + 1) f = nsz (n + 1) f + (f (n + 1)).natAbs := rfl
    have e2 : nsz (n + 1) (ptl f) = nsz n (ptl f) + (f (n + 1)).natAbs := rfl
    omega
theorem rpw1 {M : Rat} (hM : 1 ≤ M) : ∀ n : Nat, 1 ≤ M ^ n
  | 0 => by rw [Rat.pow_zero]; exact Rat.le_refl
  | n + 1 => by
    have := rpw1 hM n
    rw [Rat.pow_succ]
    have h := Rat.mul_le_mul_of_nonneg_right (c := M) this (by grind)
    grind
theorem natc_add (a b : Nat) : ((a + b : Nat) : Rat) = (a : Rat) + (b : Rat) := by exact_mod_cast Rat.natCast_add a b
theorem natc_nn (a : Nat) : (0 : Rat) ≤ (a : Rat) := by exact_mod_cast Nat.zero_le a
theorem evb {M : Rat} (hM : 1 ≤ M) {x : Rat} (hx : inM M x) : ∀ (n : Nat) (f : Pl), inM (M ^ n * (nsz (n + 1) f : Nat)) (evn (n + 1) f x)
  | 0, f => by
    have h := ia (f 0)
    have e : nsz (0 + 1) f = (f 0).natAbs := by simp [nsz]
    rw [e, Rat.pow_zero]
    show inM _ (((f 0 : Int) : Rat) + x * evn 0 (ptl f) x)
    rw [show evn 0 (ptl f) x = 0 from rfl]
    unfold inM at *
    grind
  | n + 1, f => by
    have ih := evb hM hx n (ptl f)
    have h := ia (f 0)
    have h1 := inM_mul hx ih (by grind) (Rat.mul_nonneg (by have := rpw1 hM n; grind) (natc_nn _))
    have h2 := inM_add h h1
    show inM _ (((f 0 : Int) : Rat) + x * evn (n + 1) (ptl f) x)
    refine inM_le h2 ?_
    rw [nsz_ptl f (n + 1), natc_add]
    have h3 := rpw1 hM (n + 1)
    have h4 := Rat.mul_le_mul_of_nonneg_right (c := (((f 0).natAbs : Nat) : Rat)) h3 (natc_nn _)
    rw [Rat.pow_succ] at *
    grind
theorem evb' {M : Rat} (hM : 1 ≤ M) {x : Rat} (hx : inM M x) (n : Nat) (f : Pl) : inM (M ^ (n - 1) * (nsz n f : Nat)) (evn n f x) := by
  match n with
  | 0 =>
    show inM _ 0
    have : (((nsz 0 f : Nat)) : Rat) = 0 := rfl
    rw [this]
    unfold inM
    grind
  | n + 1 => exact evb hM hx n f
def s2 : Nat → Pl → Nat
  | 0, _ => 0
  | n + 1, f => s2 n (ptl f) + nsz n (der (ptl f))
theorem tay_ex {M : Rat} (hM : 1 ≤ M) : ∀ (n : Nat) (f : Pl) (x y : Rat), inM M x → inM M y →
    inM (M ^ (n - 2) * (s2 n f : Nat) * ((y - x) * (y - x))) (evn (n + 1) f y - evn (n + 1) f x - (y - x) * evn n (der f) x)
  | 0, f, x, y, _, _ => by
    have : (((s2 0 f : Nat)) : Rat) = 0 := rfl
    rw [this]
    simp only [evn]
    constructor <;> grind
  | n + 1, f, x, y, hx, hy => by
    have h1 := tay_ex hM n (ptl f) x y hx hy
    have hb := evb' hM hx n (der (ptl f))
    have hM0 : 0 ≤ M := by grind
    have hsq : 0 ≤ (y - x) * (y - x) := by
      rcases Rat.le_total (a := 0) (b := y - x) with h | h
      · exact Rat.mul_nonneg h h
      · have := Rat.mul_nonneg (a := -(y - x)) (b := -(y - x)) (by grind) (by grind)
        grind
    have hC : 0 ≤ M ^ (n - 2) * ((s2 n (ptl f) : Nat) : Rat) := Rat.mul_nonneg (by have := rpw1 hM (n - 2); grind) (natc_nn _)
    have hK : 0 ≤ M ^ (n - 1) * ((nsz n (der (ptl f)) : Nat) : Rat) := Rat.mul_nonneg (by have := rpw1 hM (n - 1); grind) (natc_nn _)
    have h2 := inM_mul hy h1 hM0 (Rat.mul_nonneg hC hsq)
    have h3 := inM_mul (M := (y - x) * (y - x)) (x := (y - x) * (y - x)) ⟨by grind, by grind⟩ hb hsq hK
    have h4 := inM_add h2 h3
    have e0 : ∀ z, evn (n + 1 + 1) f z = (f 0 : Rat) + z * evn (n + 1) (ptl f) z := fun z => rfl
    have e1 := evn_der n f x
    have hcoef : M * (M ^ (n - 2) * ((s2 n (ptl f) : Nat) : Rat)) + M ^ (n - 1) * ((nsz n (der (ptl f)) : Nat) : Rat) = M ^ (n + 1 - 2) * ((s2 (n + 1) f : Nat) : Rat) := by
      have e3 : s2 (n + 1) f = s2 n (ptl f) + nsz n (der (ptl f)) := rfl
      rw [e3, natc_add]
      match n with
      | 0 => 
        have : (((s2 0 (ptl f) : Nat)) : Rat) = 0 := rfl
        rw [this, show 0 + 1 - 2 = 0 - 1 by omega]; grind
      | 1 =>
        have : (((s2 1 (ptl f) : Nat)) : Rat) = 0 := rfl
        rw [this, show 1 + 1 - 2 = 1 - 1 by omega]; grind
      | n + 2 =>
        rw [show n + 2 + 1 - 2 = n + 1 by omega, show n + 2 - 1 = n + 1 by omega, show n + 2 - 2 = n by omega, Rat.pow_succ]; grind
    rw [← hcoef, e0, e0, e1]
    generalize evn (n + 1) (ptl f) y = gy at *
    generalize evn (n + 1) (ptl f) x = gx at *
    generalize evn n (der (ptl f)) x = g' at *
    generalize M ^ (n - 2) * ((s2 n (ptl f) : Nat) : Rat) = C1 at *
    generalize M ^ (n - 1) * ((nsz n (der (ptl f)) : Nat) : Rat) = K1 at *
    obtain ⟨h5, h6⟩ := h4
    constructor <;> grind
theorem s2_le : ∀ (n : Nat) (f : Pl), s2 n f ≤ n * nsz n (der f)
  | 0, _ => Nat.zero_le _
  | n + 1, f => by
    have ih := s2_le n (ptl f)
    have h1 : nsz n (der (ptl f)) ≤ nsz (n + 1) (der f) := by
      rw [nsz_ptl]
      have : ∀ m, nsz m (der (ptl f)) ≤ nsz m (ptl (der f)) := by
        intro m
        induction m with
        | zero => exact Nat.le_refl _
        | succ m ih =>
          simp only [nsz]
          have e1 : (der (ptl f) m).natAbs = (m + 1) * (f (m + 2)).natAbs := by
            show (((m : Int) + 1) * f (m + 1 + 1)).natAbs = _
            rw [Int.natAbs_mul]; rfl
          have e2 : (ptl (der f) m).natAbs = (m + 2) * (f (m + 2)).natAbs := by
            show ((((m + 1 : Nat) : Int) + 1) * f (m + 1 + 1)).natAbs = _
            rw [Int.natAbs_mul]; rfl
          rw [e1, e2]
          have := Nat.mul_le_mul_right (f (m + 2)).natAbs (show m + 1 ≤ m + 2 by omega)
          omega
      have := this n
      omega
    have e : s2 (n + 1) f = s2 n (ptl f) + nsz n (der (ptl f)) := rfl
    rw [e, Nat.succ_mul]
    have h2 := Nat.mul_le_mul_left n h1
    omega
