/-! ===== Sturm, far ===== -/
theorem arch (a : Rat) {ε : Rat} (h : 0 < ε) : ∃ N : Nat, 0 < N ∧ a ≤ N * ε := by
  have h1 : a * ε⁻¹ ≤ ((a * ε⁻¹).ceil : Rat) := Rat.le_ceil
  have h2 : ((a * ε⁻¹).ceil : Rat) ≤ (((a * ε⁻¹).ceil.toNat : Nat) : Rat) := by
    have : (a * ε⁻¹).ceil ≤ (((a * ε⁻¹).ceil.toNat : Nat) : Int) := Int.self_le_toNat _
    have h3 := Rat.intCast_le_intCast.mpr this
    exact h3
  refine ⟨(a * ε⁻¹).ceil.toNat + 1, by omega, ?_⟩
  have h3 : ε * ε⁻¹ = 1 := Rat.mul_inv_cancel _ (by grind)
  have h4 : a * ε⁻¹ * ε ≤ (((a * ε⁻¹).ceil.toNat : Nat) : Rat) * ε := Rat.mul_le_mul_of_nonneg_right (Rat.le_trans h1 h2) (Rat.le_of_lt h)
  have h5 : a * ε⁻¹ * ε = a * (ε * ε⁻¹) := by grind
  rw [h5, h3] at h4
  have h6 : (((a * ε⁻¹).ceil.toNat + 1 : Nat) : Rat) = (((a * ε⁻¹).ceil.toNat : Nat) : Rat) + 1 := Rat.natCast_add _ _
  rw [h6]; grind
/-- from near to far -/
theorem walk {M : Rat} {R : Rat → Rat → Prop} (h : nr M R) (ht : ∀ u w v, u < w → w < v → R u w → R w v → R u v) {x y : Rat} (hx : inM M x) (hy : inM M y) (hxy : x < y) : R x y := by
  obtain ⟨ε, hε, h1⟩ := h
  obtain ⟨N, hN, h2⟩ := arch (y - x) hε
  have hN' : (0 : Rat) < (N : Rat) := Rat.natCast_pos.mpr hN
  have h3 : (N : Rat) * (N : Rat)⁻¹ = 1 := Rat.mul_inv_cancel _ (by grind)
  have hi : 0 < (N : Rat)⁻¹ := Rat.inv_pos.mpr hN'
  generalize hT : (y - x) * (N : Rat)⁻¹ = t at *
  have ht0 : 0 < t := by rw [← hT]; exact Rat.mul_pos (by grind) hi
  have hNt : (N : Rat) * t = y - x := by
    rw [← hT]
    have : (N : Rat) * ((y - x) * (N : Rat)⁻¹) = (y - x) * ((N : Rat) * (N : Rat)⁻¹) := by grind
    rw [this, h3]; grind
  have htε : t ≤ ε := by
    have h4 : (y - x) * (N : Rat)⁻¹ ≤ N * ε * (N : Rat)⁻¹ := Rat.mul_le_mul_of_nonneg_right h2 (Rat.le_of_lt hi)
    have h5 : N * ε * (N : Rat)⁻¹ = ε * ((N : Rat) * (N : Rat)⁻¹) := by grind
    rw [h5, h3, hT] at h4; grind
  have key : ∀ i : Nat, i + 1 ≤ N → R x (x + ((i : Rat) + 1) * t) ∧ x < x + ((i : Rat) + 1) * t ∧ x + ((i : Rat) + 1) * t ≤ y := by
    intro i
    induction i with
    | zero =>
      intro hi
      have e : x + (((0 : Nat) : Rat) + 1) * t = x + t := by
        have : ((0 : Nat) : Rat) = 0 := rfl
        rw [this]; grind
      rw [e]
      have h6 : (1 : Rat) * t ≤ N * t := Rat.mul_le_mul_of_nonneg_right (by
        have := Rat.natCast_le_natCast.mpr hi
        have e : ((0 + 1 : Nat) : Rat) = 1 := rfl
        rw [e] at this; exact this) (Rat.le_of_lt ht0)
      have h7 : x + t ≤ y := by grind
      refine ⟨h1 x (x + t) hx ⟨?_, ?_⟩ (by grind) (by grind), by grind, h7⟩
      · obtain ⟨a, b⟩ := hx; grind
      · obtain ⟨a, b⟩ := hy; grind
    | succ i ih =>
      intro hi
      obtain ⟨a1, a2, a3⟩ := ih (by omega)
      have e1 : (((i + 1 : Nat)) : Rat) = (i : Rat) + 1 := Rat.natCast_add _ _
      rw [e1]
      have h6 : ((i : Rat) + 1 + 1) * t ≤ N * t := Rat.mul_le_mul_of_nonneg_right (by
        have := Rat.natCast_le_natCast.mpr hi
        have e : ((i + 1 + 1 : Nat) : Rat) = (i : Rat) + 1 + 1 := by rw [Rat.natCast_add, e1]; rfl
        rw [e] at this; exact this) (Rat.le_of_lt ht0)
      have h7 : x + ((i : Rat) + 1 + 1) * t ≤ y := by grind
      have h8 : x + ((i : Rat) + 1) * t < x + ((i : Rat) + 1 + 1) * t := by grind
      refine ⟨ht _ _ _ a2 h8 a1 (h1 _ _ ⟨?_, ?_⟩ ⟨?_, ?_⟩ h8 (by grind)), by grind, h7⟩
      · obtain ⟨a, b⟩ := hx; grind
      · obtain ⟨a, b⟩ := hy; grind
      · obtain ⟨a, b⟩ := hx; grind
      · obtain ⟨a, b⟩ := hy; grind
  obtain ⟨k1, k2, k3⟩ := key (N - 1) (by omega)
  have e : ((N - 1 : Nat) : Rat) + 1 = (N : Rat) := by
    have : (((N - 1) + 1 : Nat) : Rat) = ((N - 1 : Nat) : Rat) + 1 := Rat.natCast_add _ _
    rw [← this]
    congr 1
    omega
  rw [e, hNt] at k1
  have e2 : x + (y - x) = y := by grind
  rw [e2] at k1
  exact k1
theorem inM_two (x y : Rat) : ∃ M, 0 ≤ M ∧ inM M x ∧ inM M y := by
  obtain ⟨a, ha, h1⟩ := inM_self x
  obtain ⟨b, hb, h2⟩ := inM_self y
  exact ⟨a + b, by grind, inM_le h1 (by grind), inM_le h2 (by grind)⟩
/-- V counts the turns of h -/
def stv (h : Pl) (V : Rat → Nat) : Prop := ∀ M, 0 ≤ M → nr M (fun x y => V x = V y + jmp h x y)
theorem stv_mono {h : Pl} {V : Rat → Nat} (H : stv h V) {x y : Rat} (hxy : x ≤ y) : V y ≤ V x := by
  by_cases he : x = y
  · rw [he]; exact Nat.le_refl _
  · obtain ⟨M, hM, hx, hy⟩ := inM_two x y
    refine walk (R := fun u v => V v ≤ V u) (nr_imp (H M hM) (fun u v _ _ _ hp => by omega)) (fun u w v _ _ h1 h2 => Nat.le_trans h2 h1) hx hy (by grind)
theorem stv_two {h h' : Pl} {V V' : Rat → Nat} (H : stv h V) (H' : stv h' V') (hj : ∀ M, 0 ≤ M → nr M (fun x y => jmp h' x y ≤ jmp h x y)) {x y : Rat} (hxy : x ≤ y) :
    V' x + V y ≤ V x + V' y := by
  by_cases he : x = y
  · rw [he]; omega
  · obtain ⟨M, hM, hx, hy⟩ := inM_two x y
    refine walk (R := fun u v => V' u + V v ≤ V u + V' v) (nr_imp (nr_and (nr_and (H M hM) (H' M hM)) (hj M hM)) (fun u v _ _ _ hp => by
      obtain ⟨⟨h1, h2⟩, h3⟩ := hp
      omega)) (fun u w v _ _ h1 h2 => by omega) hx hy (by grind)
theorem stv_same {h : Pl} {V V' : Rat → Nat} (H : stv h V) (H' : stv h V') (x y : Rat) : V' x + V y = V x + V' y := by
  have hj : ∀ M, 0 ≤ M → nr M (fun x y => jmp h x y ≤ jmp h x y) := fun M _ => nr_tt (fun x y _ _ _ => Nat.le_refl _)
  rcases Rat.le_total (a := x) (b := y) with h1 | h1
  · have a := stv_two H H' hj h1
    have b := stv_two H' H hj h1
    omega
  · have a := stv_two H H' hj h1
    have b := stv_two H' H hj h1
    omega
/-- the sign to the right -/
noncomputable def rsg (h d : Pl) (x : Rat) : Int := if sgq (vl h x) = 0 then sgq (vl d x) else sgq (vl h x)
theorem nr_drc0 {M : Rat} (hM : 0 ≤ M) {h d : Pl} (hh : fin h) (hd : fin d) (hc : cpr h d) (hdr : drc M h d) :
    nr M (fun x y => (sgq (vl h y) = 0 → sgq (vl h x) ≠ 0) ∧ rsg h d x ≠ 0 ∧ rsg h d y ≠ 0 ∧ (jmp h x y = 0 → rsg h d x = rsg h d y) ∧ (jmp h x y = 1 → rsg h d x = - rsg h d y)) := by
  refine nr_imp (nr_and (nr_cpr hM hh hd hc) hdr) (fun x y hx hy hxy hp => ?_)
  obtain ⟨p1, p2⟩ := hp
  by_cases hk : kp (vl h) x y
  · obtain ⟨k1, k2⟩ := hk
    have k3 : sgq (vl h y) ≠ 0 := by rw [← k1]; exact k2
    unfold rsg jmp
    rw [if_neg k2, if_neg k3]
    refine ⟨fun h1 => absurd h1 k3, k2, k3, fun _ => k1, fun h1 => ?_⟩
    rw [if_neg (fun h2 => h2.2 k1)] at h1
    omega
  · have hkd : kp (vl d) x y := by rcases p1 with h | h; exact absurd h hk; exact h
    obtain ⟨k1, k2⟩ := hkd
    obtain ⟨q1, q2⟩ := p2 hk
    have hk' : ¬ (sgq (vl h x) = sgq (vl h y) ∧ sgq (vl h x) ≠ 0) := hk
    unfold rsg jmp
    rw [← k1]
    rcases sgq_t (vl d x) with ⟨a1, a2⟩ | ⟨a1, a2⟩ | ⟨a1, a2⟩
    · have a3 := q2 a2
      rw [a1]
      rcases sgq_t (vl h x) with ⟨b1, b2⟩ | ⟨b1, b2⟩ | ⟨b1, b2⟩ <;> rcases sgq_t (vl h y) with ⟨b3, b4⟩ | ⟨b3, b4⟩ | ⟨b3, b4⟩ <;>
        rw [b1, b3] at hk' ⊢ <;> first | (exfalso; apply hk'; decide) | (exfalso; grind) | simp
    · exact absurd a1 k2
    · have a3 := q1 a2
      rw [a1]
      rcases sgq_t (vl h x) with ⟨b1, b2⟩ | ⟨b1, b2⟩ | ⟨b1, b2⟩ <;> rcases sgq_t (vl h y) with ⟨b3, b4⟩ | ⟨b3, b4⟩ | ⟨b3, b4⟩ <;>
        rw [b1, b3] at hk' ⊢ <;> first | (exfalso; apply hk'; decide) | (exfalso; grind) | simp
theorem jmp_le (h : Pl) (x y : Rat) : jmp h x y = 0 ∨ jmp h x y = 1 := by
  unfold jmp
  split <;> simp
theorem stv_par {h d : Pl} {V : Rat → Nat} (H : stv h V) (hh : fin h) (hd : fin d) (hc : cpr h d) (hdr : ∀ M, 0 ≤ M → drc M h d) {x y : Rat} (hxy : x < y) :
    (rsg h d x = rsg h d y ∧ (V x + V y) % 2 = 0) ∨ (rsg h d x = - rsg h d y ∧ (V x + V y) % 2 = 1) := by
  obtain ⟨M, hM, hx, hy⟩ := inM_two x y
  refine walk (R := fun u v => (rsg h d u = rsg h d v ∧ (V u + V v) % 2 = 0) ∨ (rsg h d u = - rsg h d v ∧ (V u + V v) % 2 = 1))
    (nr_imp (nr_and (H M hM) (nr_drc0 hM hh hd hc (hdr M hM))) (fun u v _ _ _ hp => ?_)) (fun u w v _ _ h1 h2 => ?_) hx hy hxy
  · obtain ⟨h1, _, _, _, h2, h3⟩ := hp
    rcases jmp_le h u v with h4 | h4
    · left; exact ⟨h2 h4, by omega⟩
    · right; exact ⟨h3 h4, by omega⟩
  · rcases h1 with ⟨a, b⟩ | ⟨a, b⟩ <;> rcases h2 with ⟨c, d⟩ | ⟨c, d⟩
    · left; exact ⟨by omega, by omega⟩
    · right; exact ⟨by omega, by omega⟩
    · right; exact ⟨by omega, by omega⟩
    · left; exact ⟨by omega, by omega⟩
/-- a zero is a turn behind all that lies ahead of it -/
theorem stv_zero {h d : Pl} {V : Rat → Nat} (H : stv h V) (hh : fin h) (hd : fin d) (hc : cpr h d) (hdr : ∀ M, 0 ≤ M → drc M h d) {x y : Rat} (hxy : x < y) (h0 : vl h y = 0) : V y + 1 ≤ V x := by
  obtain ⟨M, hM, hx, hy⟩ := inM_two x y
  obtain ⟨ε, hε, h1⟩ := nr_and (H M hM) (nr_drc0 hM hh hd hc (hdr M hM))
  have key : ∃ z, x ≤ z ∧ z < y ∧ y - z ≤ ε := by
    rcases Rat.le_total (a := y - x) (b := ε) with h2 | h2
    · exact ⟨x, by grind, hxy, h2⟩
    · exact ⟨y - ε, by grind, by grind, by grind⟩
  obtain ⟨z, z1, z2, z3⟩ := key
  have hz : inM M z := by obtain ⟨a, b⟩ := hx; obtain ⟨c, d⟩ := hy; constructor <;> grind
  obtain ⟨h2, h3, _⟩ := h1 z y hz hy z2 z3
  have h4 := h3 (sgq_0.mpr h0)
  have h5 : jmp h z y = 1 := by
    unfold jmp
    rw [if_pos]
    exact ⟨h4, by rw [sgq_0.mpr h0]; exact h4⟩
  have h6 := stv_mono H z1
  omega
