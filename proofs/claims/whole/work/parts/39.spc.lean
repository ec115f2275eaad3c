/-! ===== two turns are not near ===== -/
theorem sep_d {h : Pl} (hh : fin h) {V : Rat → Nat} (H : stv h V) {x y : Rat} (hxy : x < y) (h2 : V y + 2 ≤ V x) {η : Rat} (hη : 0 < η) : ∃ z, x ≤ z ∧ z ≤ y ∧ inM η (vl (der h) z) := by
  apply Classical.byContradiction
  intro hn
  have hn' : ∀ z, x ≤ z → z ≤ y → ¬ inM η (vl (der h) z) := fun z a b c => hn ⟨z, a, b, c⟩
  have hs : ∀ z, x < z → z ≤ y → sgq (vl (der h) x) = sgq (vl (der h) z) := by
    intro z hz hzy
    obtain ⟨M, hM, hx, hzM⟩ := inM_two x z
    obtain ⟨L, hL, hl⟩ := vl_lip (fin_der hh) hM
    have h4 := walk (R := fun u v => x ≤ u → v ≤ y → sgq (vl (der h) u) = sgq (vl (der h) v)) (nr_imp (nr_not (M := M) (T := L) (κ := η) hL (by grind)) (fun u v hu hv huv hp h5 h6 => ?_)) (fun u w v a b h1 h2 h3 h4 => by
      rw [h1 h3 (by grind), h2 (by grind) h4]) hx hzM hz
    · exact h4 (by grind) hzy
    · apply Classical.byContradiction
      intro h7
      have h8 := nkp_sm (fun h9 => h7 h9.1) (hl u v hu hv (Rat.le_of_lt huv))
      apply hn' u h5 (by grind)
      refine inM_le h8 ?_
      apply Classical.byContradiction
      intro h9
      apply hp
      have := inM_sc huv hL
      constructor <;> grind
  have hall : ∀ z, x ≤ z → z ≤ y → sgq (vl (der h) z) = sgq (vl (der h) x) := by
    intro z a b
    by_cases hz : x = z
    · rw [hz]
    · exact (hs z (by grind) b).symm
  have hx0 := hn' x (by grind) (by grind)
  rcases sgq_t (vl (der h) x) with ⟨a1, a2⟩ | ⟨a1, a2⟩ | ⟨a1, a2⟩
  · have := rolle_n hh H hη hxy (fun z a b => by
      have c1 := hall z a b
      rw [a1] at c1
      have c2 := sgq_m.mp c1
      have c3 := hn' z a b
      apply Classical.byContradiction
      intro c4
      apply c3
      constructor <;> grind)
    omega
  · apply hx0
    constructor <;> grind
  · have := rolle_p hh H hη hxy (fun z a b => by
      have c1 := hall z a b
      rw [a1] at c1
      have c2 := sgq_1.mp c1
      have c3 := hn' z a b
      apply Classical.byContradiction
      intro c4
      apply c3
      constructor <;> grind)
    omega
theorem sep_h {h : Pl} (hh : fin h) {V : Rat → Nat} (H : stv h V) {x y : Rat} (hxy : x < y) (h2 : V y < V x) {η : Rat} (hη : 0 < η) : ∃ z, x ≤ z ∧ z ≤ y ∧ inM η (vl h z) := by
  apply Classical.byContradiction
  intro hn
  have := stv_none H hh (fin_pcn 1) hη hxy (fun z a b c => hn ⟨z, a, b, by
    rw [vl_pcn] at c
    have e : ((1 : Int) : Rat) = 1 := rfl
    rw [e] at c
    have e2 : vl h z * 1 = vl h z := by grind
    rw [e2] at c; exact c⟩)
  omega
