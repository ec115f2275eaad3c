/-! ===== the combination's size ===== -/
theorem nsz_zrw (j : Nat) (g : Nat → Pl) (z : Nat → Int) (p : Nat) : ∀ m, nsz m (zrw j g z p) ≤ (z p).natAbs + nsz (j + m) (g p)
  | 0 => by simp [nsz]
  | 1 => by
    simp only [nsz, zrw, if_true, Nat.zero_add]
    omega
  | m + 2 => by
    have h1 := nsz_zrw j g z p (m + 1)
    have h2 : m + 1 ≠ 0 := by omega
    show nsz (m + 1) (zrw j g z p) + (zrw j g z p (m + 1)).natAbs ≤ (z p).natAbs + (nsz (j + (m + 1)) (g p) + (g p (j + (m + 1))).natAbs)
    have h3 : zrw j g z p (m + 1) = g p (j + (m + 1)) := by simp [zrw]
    rw [h3]; omega
theorem npr_range {n m : Nat} {R : Nat → Pl} : npr n ((List.range (m + 1)).map R) = npr n ((List.range m).map R) * nsz n (R m) := by
  rw [List.range_succ, List.map_append, npr_app]
  simp [npr]
theorem npr_unt {A B : Pl} {m n : Nat} (hA : ∀ t, m < t → A t = 0) (hB : ∀ t, n < t → B t = 0) (k j a i : Nat) (hi : i < a) (T : Int) :
    ∀ p, npr k ((List.range p).map (zrw j (gpl A a B) (fun q => T * unt i q))) ≤
      (if i < p then (nsz (m + 1) A + T.natAbs) * nsz (m + 1) A ^ (min p a - 1) else nsz (m + 1) A ^ (min p a)) * nsz (n + 1) B ^ (p - a)
  | 0 => by simp [npr]
  | p + 1 => by
    have ih := npr_unt hA hB k j a i hi T p
    rw [npr_range]
    have h1 := nsz_zrw j (gpl A a B) (fun q => T * unt i q) p k
    by_cases hp : p < a
    · have h2 : nsz (j + k) (gpl A a B p) ≤ nsz (m + 1) A := by
        simp only [gpl, hp, if_true]
        exact nsz_shf_le hA p _
      have e1 : p - a = 0 := by omega
      have e2 : p + 1 - a = 0 := by omega
      have e3 : min p a = p := by omega
      have e4 : min (p + 1) a = p + 1 := by omega
      rw [e1, e3, Nat.pow_zero, Nat.mul_one] at ih
      rw [e2, e4, Nat.pow_zero, Nat.mul_one]
      by_cases h3 : i < p
      · have h4 : i < p + 1 := by omega
        have h5 : (T * unt i p).natAbs = 0 := by
          have : p ≠ i := by omega
          simp [unt, this]
        simp only [h3, if_true] at ih
        simp only [h4, if_true, Nat.add_sub_cancel]
        simp only [h5, Nat.zero_add] at h1
        have h6 := Nat.mul_le_mul ih (Nat.le_trans h1 h2)
        have e5 : nsz (m + 1) A ^ p = nsz (m + 1) A ^ (p - 1) * nsz (m + 1) A := by rw [← Nat.pow_succ]; congr 1; omega
        rw [e5]
        refine Nat.le_trans h6 ?_
        rw [Nat.mul_assoc]
        exact Nat.le_refl _
      · by_cases h4 : i = p
        · subst h4
          simp only [h3, if_false] at ih
          have h5 : i < i + 1 := by omega
          simp only [h5, if_true, Nat.add_sub_cancel]
          have h7 : (T * unt i i).natAbs = T.natAbs := by simp [unt]
          simp only [h7] at h1
          have h6 := Nat.mul_le_mul ih (Nat.le_trans h1 (Nat.add_le_add_left h2 _))
          refine Nat.le_trans h6 ?_
          rw [Nat.mul_comm, Nat.add_comm T.natAbs]
          exact Nat.le_refl _
        · have h5 : ¬ i < p + 1 := by omega
          simp only [h3, if_false] at ih
          simp only [h5, if_false]
          have h7 : (T * unt i p).natAbs = 0 := by
            have : p ≠ i := by omega
            simp [unt, this]
          simp only [h7, Nat.zero_add] at h1
          have h6 := Nat.mul_le_mul ih (Nat.le_trans h1 h2)
          rw [Nat.pow_succ]; exact h6
    · have h2 : nsz (j + k) (gpl A a B p) ≤ nsz (n + 1) B := by
        simp only [gpl, hp, if_false]
        exact nsz_shf_le hB _ _
      have h3 : i < p := by omega
      have h4 : i < p + 1 := by omega
      have h7 : (T * unt i p).natAbs = 0 := by
        have : p ≠ i := by omega
        simp [unt, this]
      have e3 : min p a = a := by omega
      have e4 : min (p + 1) a = a := by omega
      have e5 : p + 1 - a = p - a + 1 := by omega
      simp only [h3, if_true, e3] at ih
      simp only [h4, if_true, e4, e5]
      simp only [h7, Nat.zero_add] at h1
      have h6 := Nat.mul_le_mul ih (Nat.le_trans h1 h2)
      rw [Nat.pow_succ, ← Nat.mul_assoc]; exact h6
def bzu (n j : Nat) (g : Nat → Pl) (o a : Nat) : Pl := fun i => if i < a then zdt n j g (unt (o + i)) else 0
theorem bzu_hi (n j : Nat) (g : Nat → Pl) (o a : Nat) : ∀ i, a ≤ i → bzu n j g o a i = 0 := by
  intro i hi
  have : ¬ i < a := by omega
  simp [bzu, this]
theorem sbr_bez {A B : Pl} {m n : Nat} (hA : ∀ t, m < t → A t = 0) (hB : ∀ t, n < t → B t = 0) (j a b : Nat) (ha : 0 < a) (hN : 0 < nsz (m + 1) A) :
    ∃ u v : Pl, pbd a u ∧ pbd b v ∧ (∀ t, (pad (pmu u A) (pmu v B) t).natAbs = sbr (fun f => f t) j A a B b) ∧
      ∀ i, (u i).natAbs ≤ 2 * nsz (m + 1) A ^ (a - 1) * nsz (n + 1) B ^ b := by
  have hn : 0 < a + b := by omega
  refine ⟨bzu (a + b) j (gpl A a B) 0 a, bzu (a + b) j (gpl A a B) a b, bzu_hi _ _ _ _ _, bzu_hi _ _ _ _ _, ?_, ?_⟩
  · intro t
    unfold sbr
    rw [rows_z]
    have h1 : dt (a + b) ((List.range (a + b)).map (zrw j (gpl A a B) (fun p => gpl A a B p t))) = smm (a + b) (fun p => gpl A a B p t * zdt (a + b) j (gpl A a B) (unt p)) := zdt_all (n := a + b) (j := j) (g := gpl A a B) hn (fun p => gpl A a B p t)
    rw [h1, smm_add]
    congr 1
    show pmu (bzu (a + b) j (gpl A a B) 0 a) A t + pmu (bzu (a + b) j (gpl A a B) a b) B t = _
    rw [← smm_pmu (bzu (a + b) j (gpl A a B) 0 a) A t a (bzu_hi _ _ _ _ _), ← smm_pmu (bzu (a + b) j (gpl A a B) a b) B t b (bzu_hi _ _ _ _ _)]
    congr 1
    · refine smm_cg a (fun k hk => ?_)
      simp only [bzu, hk, if_true, gpl, Nat.zero_add]
    · refine smm_cg b (fun k hk => ?_)
      have h2 : ¬ a + k < a := by omega
      have h3 : a + k - a = k := by omega
      simp only [bzu, hk, if_true, gpl, h2, if_false, h3]
  · intro i
    by_cases hi : i < a
    · simp only [bzu, hi, if_true, Nat.zero_add]
      have h1 := zdt_lin (a + b) j (gpl A a B) ((nsz (m + 1) A : Nat) : Int) (fun q => ((nsz (m + 1) A : Nat) : Int) * unt i q) (unt i) (fun _ => 0) (fun p => by simp) hn
      have h0 : zdt (a + b) j (gpl A a B) (fun _ => 0) = 0 := by
        have h := zdt_lin (a + b) j (gpl A a B) (-1) (fun _ => 0) (fun _ => 0) (fun _ => 0) (fun p => by simp) hn
        omega
      rw [h0, Int.add_zero] at h1
      have h2 := npr_unt hA hB (a + b) j a i hi ((nsz (m + 1) A : Nat) : Int) (a + b)
      have h3 := dt_bd (a + b) ((List.range (a + b)).map (zrw j (gpl A a B) (fun q => ((nsz (m + 1) A : Nat) : Int) * unt i q)))
      have h4 : zdt (a + b) j (gpl A a B) (fun q => ((nsz (m + 1) A : Nat) : Int) * unt i q) = dt (a + b) ((List.range (a + b)).map (zrw j (gpl A a B) (fun q => ((nsz (m + 1) A : Nat) : Int) * unt i q))) := rfl
      rw [← h4, h1, Int.natAbs_mul] at h3
      have h5 : i < a + b := by omega
      have e1 : min (a + b) a = a := by omega
      have e2 : a + b - a = b := by omega
      simp only [h5, if_true, e1, e2, Int.natAbs_natCast] at h2 h3
      have h6 := Nat.le_trans h3 h2
      generalize (zdt (a + b) j (gpl A a B) (unt i)).natAbs = Z at *
      generalize nsz (m + 1) A = N at *
      generalize nsz (n + 1) B ^ b = Q at *
      generalize N ^ (a - 1) = P at *
      have h7 : N * Z ≤ N * (2 * P * Q) := by
        refine Nat.le_trans h6 (Nat.le_of_eq ?_)
        grind
      exact Nat.le_of_mul_le_mul_left h7 hN
    · simp [bzu, hi]
