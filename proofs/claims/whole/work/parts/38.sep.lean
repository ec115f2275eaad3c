/-! ===== between two turns the derivative is small somewhere ===== -/
theorem nr_der {M : Rat} (hM : 0 ≤ M) {h : Pl} (hh : fin h) {η : Rat} (hη : 0 < η) :
    nr M (fun u v => (η ≤ vl (der h) u → vl h u < vl h v) ∧ (vl (der h) u ≤ -η → vl h v < vl h u)) := by
  obtain ⟨C, hC, h1⟩ := vl_tay hh hM
  refine nr_imp (nr_not (M := M) (T := C) (κ := η) hC (by grind)) (fun u v hu hv huv hp => ?_)
  obtain ⟨h3, h4⟩ := h1 u v hu hv
  have ht : 0 < v - u := by grind
  have h5 : C * (v - u) < η := by
    apply Classical.byContradiction
    intro h6
    apply hp
    have := inM_sc huv hC
    constructor <;> grind
  have h7 : (v - u) * (C * (v - u)) < (v - u) * η := Rat.mul_lt_mul_of_pos_left h5 ht
  constructor
  · intro h8
    have h9 : (v - u) * η ≤ (v - u) * vl (der h) u := Rat.mul_le_mul_of_nonneg_left h8 (Rat.le_of_lt ht)
    grind
  · intro h8
    have h9 : (v - u) * vl (der h) u ≤ (v - u) * (-η) := Rat.mul_le_mul_of_nonneg_left h8 (Rat.le_of_lt ht)
    grind
theorem jmp_up {h : Pl} {u v : Rat} (hl : vl h u < vl h v) : (0 ≤ vl h u → 0 ≤ vl h v ∧ jmp h u v = 0) ∧ (vl h v < 0 → jmp h u v = 0) := by
  unfold jmp
  rcases sgq_t (vl h u) with ⟨a1, a2⟩ | ⟨a1, a2⟩ | ⟨a1, a2⟩ <;> rcases sgq_t (vl h v) with ⟨b1, b2⟩ | ⟨b1, b2⟩ | ⟨b1, b2⟩ <;> rw [a1, b1] <;>
    refine ⟨fun h1 => ?_, fun h1 => ?_⟩ <;> first | (exfalso; grind) | (refine ⟨by grind, ?_⟩; simp; done) | simp
theorem jmp_dn {h : Pl} {u v : Rat} (hl : vl h v < vl h u) : (vl h u ≤ 0 → vl h v ≤ 0 ∧ jmp h u v = 0) ∧ (0 < vl h v → jmp h u v = 0) := by
  unfold jmp
  rcases sgq_t (vl h u) with ⟨a1, a2⟩ | ⟨a1, a2⟩ | ⟨a1, a2⟩ <;> rcases sgq_t (vl h v) with ⟨b1, b2⟩ | ⟨b1, b2⟩ | ⟨b1, b2⟩ <;> rw [a1, b1] <;>
    refine ⟨fun h1 => ?_, fun h1 => ?_⟩ <;> first | (exfalso; grind) | (refine ⟨by grind, ?_⟩; simp; done) | simp
theorem rolle_p {h : Pl} (hh : fin h) {V : Rat → Nat} (H : stv h V) {η : Rat} (hη : 0 < η) {x y : Rat} (hxy : x < y) (hd : ∀ z, x ≤ z → z ≤ y → η ≤ vl (der h) z) : V x ≤ V y + 1 := by
  obtain ⟨M, hM, hx, hy⟩ := inM_two x y
  have h4 := walk (R := fun u v => x ≤ u → v ≤ y → (0 ≤ vl h u → 0 ≤ vl h v ∧ V u = V v) ∧ (vl h v < 0 → V u = V v) ∧ V u ≤ V v + 1)
    (nr_imp (nr_and (H M hM) (nr_der hM hh hη)) (fun u v hu hv huv hp h5 h6 => ?_)) (fun u w v a b h1 h2 h3 h4 => ?_) hx hy hxy
  · exact (h4 (by grind) (by grind)).2.2
  · obtain ⟨p1, p2, _⟩ := hp
    obtain ⟨j1, j2⟩ := jmp_up (p2 (hd u h5 (by grind)))
    have j3 := jmp_le h u v
    refine ⟨fun h7 => ⟨(j1 h7).1, ?_⟩, fun h7 => ?_, by omega⟩
    · have := (j1 h7).2; omega
    · have := j2 h7; omega
  · obtain ⟨a1, a2, a3⟩ := h1 h3 (by grind)
    obtain ⟨b1, b2, b3⟩ := h2 (by grind) h4
    refine ⟨fun h7 => ?_, fun h7 => ?_, ?_⟩
    · obtain ⟨c1, c2⟩ := a1 h7
      obtain ⟨c3, c4⟩ := b1 c1
      exact ⟨c3, by omega⟩
    · have c1 := b2 h7
      have c2 : vl h w < 0 := by
        apply Classical.byContradiction
        intro c3
        have := (b1 (by grind)).1
        grind
      have := a2 c2
      omega
    · by_cases c1 : vl h w < 0
      · have := a2 c1; omega
      · have := (b1 (by grind)).2; omega
theorem rolle_n {h : Pl} (hh : fin h) {V : Rat → Nat} (H : stv h V) {η : Rat} (hη : 0 < η) {x y : Rat} (hxy : x < y) (hd : ∀ z, x ≤ z → z ≤ y → vl (der h) z ≤ -η) : V x ≤ V y + 1 := by
  obtain ⟨M, hM, hx, hy⟩ := inM_two x y
  have h4 := walk (R := fun u v => x ≤ u → v ≤ y → (vl h u ≤ 0 → vl h v ≤ 0 ∧ V u = V v) ∧ (0 < vl h v → V u = V v) ∧ V u ≤ V v + 1)
    (nr_imp (nr_and (H M hM) (nr_der hM hh hη)) (fun u v hu hv huv hp h5 h6 => ?_)) (fun u w v a b h1 h2 h3 h4 => ?_) hx hy hxy
  · exact (h4 (by grind) (by grind)).2.2
  · obtain ⟨p1, _, p2⟩ := hp
    obtain ⟨j1, j2⟩ := jmp_dn (p2 (hd u h5 (by grind)))
    have j3 := jmp_le h u v
    refine ⟨fun h7 => ⟨(j1 h7).1, ?_⟩, fun h7 => ?_, by omega⟩
    · have := (j1 h7).2; omega
    · have := j2 h7; omega
  · obtain ⟨a1, a2, a3⟩ := h1 h3 (by grind)
    obtain ⟨b1, b2, b3⟩ := h2 (by grind) h4
    refine ⟨fun h7 => ?_, fun h7 => ?_, ?_⟩
    · obtain ⟨c1, c2⟩ := a1 h7
      obtain ⟨c3, c4⟩ := b1 c1
      exact ⟨c3, by omega⟩
    · have c1 := b2 h7
      have c2 : 0 < vl h w := by
        apply Classical.byContradiction
        intro c3
        have := (b1 (by grind)).1
        grind
      have := a2 c2
      omega
    · by_cases c1 : 0 < vl h w
      · have := a2 c1; omega
      · have := (b1 (by grind)).2; omega
