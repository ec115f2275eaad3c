/-! ===== the sign of a polynomial at a place ===== -/
def drp (k : Nat) (f : Pl) : Pl := fun n => f (k + n)
theorem drp_tl (k : Nat) (f : Pl) : ptl (drp k f) = drp (k + 1) f := pl_ext (fun n => by show f (k + (n + 1)) = f (k + 1 + n); congr 1; omega)
theorem hv_val {f : Pl} {x w : Int} (hw : (w : Rat) ≠ 0) {d : Nat} : ∀ m, m ≤ d → ((hv f x w d m : Int) : Rat) = (w : Rat) ^ m * evn (m + 1) (drp (d - m) f) ((x : Rat) / (w : Rat))
  | 0, _ => by
    simp only [hv, evn, drp, Nat.sub_zero, Nat.add_zero]
    grind
  | m + 1, h => by
    have ih := hv_val (f := f) (x := x) hw (d := d) m (by omega)
    have e1 : evn (m + 1 + 1) (drp (d - (m + 1)) f) ((x : Rat) / w) = ((drp (d - (m + 1)) f 0 : Int) : Rat) + ((x : Rat) / w) * evn (m + 1) (ptl (drp (d - (m + 1)) f)) ((x : Rat) / w) := rfl
    rw [e1, drp_tl, show d - (m + 1) + 1 = d - m by omega]
    simp only [hv]
    have e2 : drp (d - (m + 1)) f 0 = f (d - (m + 1)) := rfl
    rw [e2, Rat.intCast_add, Rat.intCast_mul, Rat.intCast_mul, ih, Rat.intCast_pow, Rat.pow_succ]
    have e3 : (w : Rat) * ((x : Rat) / w) = x := by rw [Rat.mul_comm]; exact Rat.div_mul_cancel hw
    generalize evn (m + 1) (drp (d - m) f) ((x : Rat) / w) = E at *
    generalize (x : Rat) / w = y at *
    generalize (w : Rat) ^ m = P at *
    grind
theorem sgq_int (z : Int) : sgq (z : Rat) = z.sign := by
  unfold sgq
  rcases Int.lt_trichotomy z 0 with h | h | h
  · rw [if_pos (by exact_mod_cast h), Int.sign_eq_neg_one_of_neg h]
  · subst h; simp
  · have h1 : ¬ ((z : Rat) < 0) := by
      have : (0 : Rat) < z := by exact_mod_cast h
      grind
    have h2 : ¬ ((z : Rat) = 0) := by
      have : (0 : Rat) < z := by exact_mod_cast h
      grind
    rw [if_neg h1, if_neg h2, Int.sign_eq_one_of_pos h]
theorem sgq_pos {a b : Rat} (ha : 0 < a) : sgq (a * b) = sgq b := by
  have h := sgq_t b
  have h2 := sgq_t (a * b)
  rcases h with h | h | h
  · have : a * b < 0 := by
      have := Rat.mul_pos ha (show 0 < -b by grind)
      grind
    rcases h2 with k | k | k <;> grind
  · rw [h.2, Rat.mul_zero]
  · have := Rat.mul_pos ha h.2
    rcases h2 with k | k | k <;> grind
theorem hv_sgn {f : Pl} {d : Nat} (hf : pbd (d + 1) f) (x : Int) (s : Nat) : (hv f x (2 ^ s) d d).sign = sgq (vl f ((x : Rat) / (2 : Rat) ^ s)) := by
  have hp : (0 : Rat) < (2 : Rat) ^ s := Rat.pow_pos (by decide)
  have hc : (((2 : Int) ^ s : Int) : Rat) = (2 : Rat) ^ s := by rw [Rat.intCast_pow]; rfl
  have hw : (((2 : Int) ^ s : Int) : Rat) ≠ 0 := by rw [hc]; grind
  have h1 := hv_val (f := f) (x := x) hw (d := d) d (Nat.le_refl _)
  rw [hc, Nat.sub_self] at h1
  have e : drp 0 f = f := pl_ext (fun n => by show f (0 + n) = f n; rw [Nat.zero_add])
  rw [e, ← vl_eq hf] at h1
  rw [← sgq_int, h1, sgq_pos (Rat.pow_pos hp)]
