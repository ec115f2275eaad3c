/-! ===== both ways of counting agree ===== -/
theorem scv_flip {t : Int} (ht : t = 1 ∨ t = -1) : ∀ (l : List Int) (b : Int), scv (t * b) (l.map (fun z => t * z)) = scv b l
  | [], b => rfl
  | z :: r, b => by
    simp only [List.map, scv]
    have h1 : (t * z = 0) ↔ z = 0 := by
      constructor
      · intro h
        rcases Int.mul_eq_zero.mp h with h | h
        · omega
        · exact h
      · intro h; rw [h, Int.mul_zero]
    have h2 : (t * z = -(t * b)) ↔ z = -b := by
      rcases ht with e | e <;> rw [e] <;> omega
    by_cases hz : z = 0
    · rw [if_pos (h1.mpr hz), if_pos hz, scv_flip ht r b]
    · rw [if_neg (fun hh => hz (h1.mp hh)), if_neg hz, scv_flip ht r z]
      by_cases hb : z = -b
      · rw [if_pos (h2.mpr hb), if_pos hb]
      · rw [if_neg (fun hh => hb (h2.mp hh)), if_neg hb]
theorem srw_map {e e' : Nat → Rat → Rat} {x : Rat} {t : Int} : ∀ (m i : Nat), (∀ k, k ≤ m → sgq (e (i + k) x) = t * sgq (e' (i + k) x)) → srw e x i m = (srw e' x i m).map (fun z => t * z)
  | 0, i, h => by
    have := h 0 (Nat.le_refl _)
    rw [Nat.add_zero] at this
    simp only [srw, List.map, this]
  | m + 1, i, h => by
    have h0 := h 0 (by omega)
    rw [Nat.add_zero] at h0
    simp only [srw, List.map, h0]
    rw [srw_map m (i + 1) (fun k hk => by have := h (k + 1) (by omega); rw [show i + (k + 1) = i + 1 + k by omega] at this; exact this)]
theorem vcs_flip {e e' : Nat → Pl} {n : Nat} {x : Rat} {t : Int} (ht : t = 1 ∨ t = -1) (h : ∀ k, k ≤ n → sgq (vl (e k) x) = t * sgq (vl (e' k) x)) : vcs e n x = vcs e' n x := by
  unfold vcs vch
  rw [srw_map (t := t) n 0 (fun k hk => by rw [Nat.zero_add]; exact h k hk)]
  have := scv_flip ht (srw (fun k => vl (e' k)) x 0 n) 0
  rw [Int.mul_zero] at this
  exact this
theorem cc_cce {p q : Pl} {s M : Nat} (h : gdp p q s) (he : ends p q M) {x : Rat} (hx : sgq (vl (cc p q 0) x) ≠ 0) : vcs (cc p q) (M - 1) x = vcs (cce p q M) (M - 1) x := by
  have h2 := he.1
  obtain ⟨l1, l2⟩ := ends_last h he
  obtain ⟨g1, g2, g3, g4, g5, g6⟩ := ppt_ok l1 l2
  have fg : fin (ppt (mm p q (M - 1))) := ⟨9, g2⟩
  have hval : ∀ k, k < M → vl (cc p q k) x = vl (ppt (mm p q (M - 1))) x * vl (cce p q M k) x := fun k hk => by
    obtain ⟨a, b⟩ := cce_ok h he hk
    rw [b]
    exact vl_pmu fg a x
  have hg0 : sgq (vl (ppt (mm p q (M - 1))) x) ≠ 0 := fun hh => hx (by rw [hval 0 (by omega), sgq_0.mp hh, Rat.zero_mul]; rfl)
  have ht : sgq (vl (ppt (mm p q (M - 1))) x) = 1 ∨ sgq (vl (ppt (mm p q (M - 1))) x) = -1 := by
    rcases sgq_t (vl (ppt (mm p q (M - 1))) x) with z | z | z
    · right; exact z.1
    · exact absurd z.1 hg0
    · left; exact z.1
  refine vcs_flip ht (fun k hk => ?_)
  rw [hval k (by omega)]
  exact sgq_mul _ _
/-- a level's count by its own sequence, and by that of h, are the same -/
theorem cnt_same {F : Nat → Pl} {Ml : Nat → Nat} {m l s M : Nat} (H : lvs F Ml m) (h : l < m) (hg : gdp (hl F Ml l) (der (hl F Ml l)) s) (he : ends (hl F Ml l) (der (hl F Ml l)) M) :
    chL (hl F Ml l) (der (hl F Ml l)) (M - 1) + chR (F l) (der (F l)) (Ml l - 1) = chL (F l) (der (F l)) (Ml l - 1) + chR (hl F Ml l) (der (hl F Ml l)) (M - 1) := by
  obtain ⟨h1, ⟨s', h2⟩, h3, h4⟩ := H.1 l h
  have H1 := lvs_stv H h
  obtain ⟨_, _, H2⟩ := own_stv hg he (lvs_B H h).1
  obtain ⟨A, hA, r1, l1⟩ := far_cn h2 h3
  obtain ⟨A', hA', r2, l2⟩ := far_cn hg he
  obtain ⟨E, hE⟩ : ∃ E : Int, E = 2 ^ 600 := ⟨_, rfl⟩
  obtain ⟨D, hD1, hD2, hD3⟩ : ∃ D : Int, A ≤ D ∧ A' ≤ D ∧ E ≤ D := ⟨max (max A A') E, by omega, by omega, by omega⟩
  have c3 : (E : Rat) ≤ (D : Rat) := by exact_mod_cast hD3
  have c1 : (A : Rat) ≤ (D : Rat) := by exact_mod_cast hD1
  have c2 : (A' : Rat) ≤ (D : Rat) := by exact_mod_cast hD2
  have hs := stv_same H1 H2 (-((D : Rat) + 1)) ((D : Rat) + 1)
  have e2 := h3.1
  -- signs far out are not 0
  obtain ⟨s1, s2, s3⟩ := ends_sg h2 h3 (show 0 < Ml l by omega)
  obtain ⟨k1, k2, k3⟩ := cc_sz h2 h3 (show 0 < Ml l by omega)
  have hfar : ∀ x : Rat, (E : Rat) + 1 ≤ x ∨ x ≤ -((E : Rat) + 1) → sgq (vl (cc (F l) (der (F l)) 0) x) ≠ 0 := by
    intro x hx
    have hd : dgr (cc (F l) (der (F l)) 0) (dgg (mm (F l) (der (F l)) 0)) := ⟨by show lo _ _ 0 * _ ≠ 0; exact Int.mul_ne_zero (by omega) s2.1, k3⟩
    have hb : ∀ j, j < dgg (mm (F l) (der (F l)) 0) → -(2 ^ 600 : Int) ≤ cc (F l) (der (F l)) 0 j ∧ cc (F l) (der (F l)) 0 j ≤ (2 ^ 600 : Int) := fun j _ => by
      have := k1 j
      unfold szb at this
      have e : ((2 ^ 600 : Nat) : Int) = 2 ^ 600 := by simp
      omega
    rw [← hE] at hb
    have hE0 : 0 ≤ E := by rw [hE]; decide
    rcases hx with hx | hx
    · have := (far_r hd (A := E) hE0 hb hx).1
      rw [this, isg_sign]
      rcases sign_pm hd.1 with z | z <;> rw [z] <;> decide
    · have := (far_l hd (A := E) hE0 hb hx).1
      rw [this, isg_sign]
      rcases alt_c (dgg (mm (F l) (der (F l)) 0)) with y | y <;> rcases sign_pm hd.1 with z | z <;> rw [y, z] <;> decide
  have v1 := cc_cce h2 h3 (hfar (-((D : Rat) + 1)) (Or.inr (by grind)))
  have v2 := cc_cce h2 h3 (hfar ((D : Rat) + 1) (Or.inl (by grind)))
  rw [l1 _ (by grind)] at v1
  rw [r1 _ (by grind)] at v2
  rw [l2 _ (by grind), r2 _ (by grind), ← v1, ← v2] at hs
  exact hs
