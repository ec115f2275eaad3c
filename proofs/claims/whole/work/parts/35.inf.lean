/-! ===== far out; no turn where a multiple is not small ===== -/
def isg (a : Int) : Int := if a < 0 then -1 else if a = 0 then 0 else 1
theorem isg_mul (a : Int) (h : a ≠ 0) : 1 ≤ isg a * a ∧ (isg a = 1 ∨ isg a = -1) := by
  unfold isg
  split
  · exact ⟨by omega, by simp⟩
  · exact ⟨by omega, by simp⟩
theorem evn_far (A : Int) {x : Rat} (hx : (A : Rat) + 1 ≤ x) (hA : 0 ≤ A) : ∀ (d : Nat) (f : Pl), (∀ k, k < d → -A ≤ f k ∧ f k ≤ A) → f d ≠ 0 → 1 ≤ ((isg (f d) : Int) : Rat) * evn (d + 1) f x
  | 0, f, _, h => by
    obtain ⟨h1, _⟩ := isg_mul _ h
    have h2 := Rat.intCast_le_intCast.mpr h1
    rw [Rat.intCast_mul] at h2
    have e : ((1 : Int) : Rat) = 1 := rfl
    rw [e] at h2
    simp only [evn]
    grind
  | d + 1, f, hb, h => by
    have ih := evn_far A hx hA d (ptl f) (fun k hk => hb (k + 1) (by omega)) h
    obtain ⟨b1, b2⟩ := hb 0 (by omega)
    have b3 := Rat.intCast_le_intCast.mpr b1
    have b4 := Rat.intCast_le_intCast.mpr b2
    rw [Rat.intCast_neg] at b3
    have hA' : (0 : Rat) ≤ (A : Rat) := Rat.intCast_nonneg.mpr hA
    have e1 : evn (d + 1 + 1) f x = (f 0 : Rat) + x * evn (d + 1) (ptl f) x := rfl
    have e2 : ptl f d = f (d + 1) := rfl
    rw [e2] at ih
    rw [e1]
    have h3 : x * 1 ≤ x * (((isg (f (d + 1)) : Int) : Rat) * evn (d + 1) (ptl f) x) := Rat.mul_le_mul_of_nonneg_left ih (by grind)
    obtain ⟨_, h4⟩ := isg_mul _ h
    rcases h4 with h5 | h5 <;> rw [h5] at h3 ⊢
    · have e : ((1 : Int) : Rat) = 1 := rfl
      rw [e] at h3 ⊢; grind
    · have e : ((-1 : Int) : Rat) = -1 := rfl
      rw [e] at h3 ⊢; grind
def alt : Nat → Int
  | 0 => 1
  | n + 1 => - alt n
theorem alt_c : ∀ n, alt n = 1 ∨ alt n = -1
  | 0 => Or.inl rfl
  | n + 1 => by
    rcases alt_c n with h | h <;> simp [alt, h]
theorem evn_farl (A : Int) {x : Rat} (hx : x ≤ -((A : Rat) + 1)) (hA : 0 ≤ A) : ∀ (d : Nat) (f : Pl), (∀ k, k < d → -A ≤ f k ∧ f k ≤ A) → f d ≠ 0 →
    1 ≤ ((alt d * isg (f d) : Int) : Rat) * evn (d + 1) f x
  | 0, f, _, h => by
    obtain ⟨h1, _⟩ := isg_mul _ h
    have h2 := Rat.intCast_le_intCast.mpr h1
    rw [Rat.intCast_mul] at h2
    have e : ((1 : Int) : Rat) = 1 := rfl
    rw [e] at h2
    simp only [evn, alt, Int.one_mul]
    grind
  | d + 1, f, hb, h => by
    have ih := evn_farl A hx hA d (ptl f) (fun k hk => hb (k + 1) (by omega)) h
    obtain ⟨b1, b2⟩ := hb 0 (by omega)
    have b3 := Rat.intCast_le_intCast.mpr b1
    have b4 := Rat.intCast_le_intCast.mpr b2
    rw [Rat.intCast_neg] at b3
    have hA' : (0 : Rat) ≤ (A : Rat) := Rat.intCast_nonneg.mpr hA
    have e1 : evn (d + 1 + 1) f x = (f 0 : Rat) + x * evn (d + 1) (ptl f) x := rfl
    have e2 : ptl f d = f (d + 1) := rfl
    rw [e2] at ih
    rw [e1]
    have h3 : (-x) * 1 ≤ (-x) * (((alt d * isg (f (d + 1)) : Int) : Rat) * evn (d + 1) (ptl f) x) := Rat.mul_le_mul_of_nonneg_left ih (by grind)
    obtain ⟨_, h4⟩ := isg_mul _ h
    have e3 : ((1 : Int) : Rat) = 1 := rfl
    have e4 : ((-1 : Int) : Rat) = -1 := rfl
    simp only [alt]
    rcases h4 with h5 | h5 <;> rcases alt_c d with h6 | h6 <;> rw [h5, h6] at h3 ⊢
    · rw [show (1 : Int) * 1 = 1 from rfl, e3] at h3
      rw [show (-1 : Int) * 1 = -1 from rfl, e4]; grind
    · rw [show (-1 : Int) * 1 = -1 from rfl, e4] at h3
      rw [show - (-1 : Int) * 1 = 1 from rfl, e3]; grind
    · rw [show (1 : Int) * -1 = -1 from rfl, e4] at h3
      rw [show (-1 : Int) * -1 = 1 from rfl, e3]; grind
    · rw [show (-1 : Int) * -1 = 1 from rfl, e3] at h3
      rw [show - (-1 : Int) * -1 = -1 from rfl, e4]; grind
theorem sgq_is {s : Int} (hs : s = 1 ∨ s = -1) {v : Rat} (h : 1 ≤ (s : Rat) * v) : sgq v = s := by
  have e3 : ((1 : Int) : Rat) = 1 := rfl
  have e4 : ((-1 : Int) : Rat) = -1 := rfl
  rcases hs with rfl | rfl
  · rw [e3] at h
    exact sgq_1.mpr (by grind)
  · rw [e4] at h
    exact sgq_m.mpr (by grind)
/-- the degree is d -/
def dgr (f : Pl) (d : Nat) : Prop := f d ≠ 0 ∧ pbd (d + 1) f
theorem far_r {f : Pl} {d : Nat} (h : dgr f d) {A : Int} (hA : 0 ≤ A) (hb : ∀ k, k < d → -A ≤ f k ∧ f k ≤ A) {x : Rat} (hx : (A : Rat) + 1 ≤ x) :
    sgq (vl f x) = isg (f d) ∧ 1 ≤ ((isg (f d) : Int) : Rat) * vl f x := by
  have h1 := evn_far A hx hA d f hb h.1
  rw [← vl_eq h.2] at h1
  exact ⟨sgq_is (isg_mul _ h.1).2 h1, h1⟩
theorem far_l {f : Pl} {d : Nat} (h : dgr f d) {A : Int} (hA : 0 ≤ A) (hb : ∀ k, k < d → -A ≤ f k ∧ f k ≤ A) {x : Rat} (hx : x ≤ -((A : Rat) + 1)) :
    sgq (vl f x) = alt d * isg (f d) ∧ 1 ≤ ((alt d * isg (f d) : Int) : Rat) * vl f x := by
  have h1 := evn_farl A hx hA d f hb h.1
  rw [← vl_eq h.2] at h1
  refine ⟨sgq_is ?_ h1, h1⟩
  rcases (isg_mul _ h.1).2 with h5 | h5 <;> rcases alt_c d with h6 | h6 <;> rw [h5, h6] <;> simp
theorem stv_none {h c : Pl} {V : Rat → Nat} (H : stv h V) (fh : fin h) (fc : fin c) {D : Rat} (hD : 0 < D) {x y : Rat} (hxy : x < y)
    (hn : ∀ z, x ≤ z → z ≤ y → ¬ inM D (vl h z * vl c z)) : V x = V y := by
  obtain ⟨M, hM, hx, hy⟩ := inM_two x y
  obtain ⟨L, hL, h1⟩ := vl_lip fh hM
  obtain ⟨K, hK, h2⟩ := vl_bdd fc hM
  have h3 := nr_not (M := M) (T := L * K) (κ := D) (Rat.mul_nonneg hL hK) (by grind)
  have h4 := walk (R := fun u v => x ≤ u → v ≤ y → V u = V v) (nr_imp (nr_and (H M hM) h3) (fun u v hu hv huv hp h5 h6 => ?_)) (fun u w v a b h1 h2 h3 h4 => by
    rw [h1 h3 (by grind), h2 (by grind) h4]) hx hy hxy
  · exact h4 (by grind) (by grind)
  · obtain ⟨p1, p2⟩ := hp
    rcases jmp_le h u v with h7 | h7
    · rw [p1, h7]; rfl
    · exfalso
      have h8 : ¬ (sgq (vl h u) = sgq (vl h v) ∧ sgq (vl h u) ≠ 0) := by
        intro h9
        unfold jmp at h7
        rw [if_neg (fun h10 => h10.2 h9.1)] at h7
        omega
      have a1 := nkp_sm h8 (h1 u v hu hv (Rat.le_of_lt huv))
      have a2 := inM_mul a1 (h2 u hu) (inM_sc huv hL) hK
      apply hn u h5 (by grind)
      have a3 : L * K * (v - u) < D := by
        apply Classical.byContradiction
        intro a4
        apply p2
        have := inM_sc huv (Rat.mul_nonneg hL hK)
        constructor <;> grind
      exact inM_le a2 (by grind)
