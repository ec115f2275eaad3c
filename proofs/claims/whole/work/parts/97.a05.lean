/-! ===== how large the numbers of divisors are ===== -/
theorem fct_ge1 : ∀ n, 1 ≤ fct n
  | 0 => by decide
  | n + 1 => by
    simp only [fct]
    have := fct_ge1 n
    have h := Int.mul_le_mul this (show (1 : Int) ≤ (n : Int) + 1 by omega) (by omega) (by omega)
    omega
theorem smm_le {F G : Nat → Int} : ∀ n, (∀ k, k < n → F k ≤ G k) → smm n F ≤ smm n G
  | 0, _ => Int.le_refl _
  | n + 1, h => by
    simp only [smm]
    have := smm_le n (fun k hk => h k (by omega))
    have := h n (by omega)
    omega
theorem smm_ge1 {F : Nat → Int} : ∀ n k, k < n → (∀ j, j < n → 0 ≤ F j) → F k ≤ smm n F
  | 0, k, hk, _ => by omega
  | n + 1, k, hk, h => by
    simp only [smm]
    have h0 := h n (by omega)
    by_cases hkn : k = n
    · subst hkn
      have : 0 ≤ smm k F := by
        have := smm_le (F := fun _ => 0) (G := F) k (fun j hj => h j (by omega))
        have e : ∀ m, smm m (fun _ => (0 : Int)) = 0 := by
          intro m
          induction m with
          | zero => rfl
          | succ m ih => simp only [smm, ih]; rfl
        rw [e] at this
        exact this
      omega
    · have := smm_ge1 n k (by omega) (fun j hj => h j (by omega))
      omega
theorem sq_nn (x : Int) : 0 ≤ x * x := by
  rcases Int.le_total 0 x with a | a
  · exact Int.mul_nonneg a a
  · rw [← Int.neg_mul_neg]; exact Int.mul_nonneg (by omega) (by omega)
theorem fis_bd {P A g : Pl} {n : Nat} (hP : ∀ k, -100000000 ≤ P k ∧ P k ≤ 100000000) (h9 : pbd 9 P) (e : P = pmu A g) (hA : dgr A n) (hg : pbd 9 g) (k : Nat) : fct k * ((A n * g k) * (A n * g k)) ≤ 462340000000000000000 := by
  by_cases hk : k < 9
  · have hf := fischer (N := 9) (n := n) (B := A) (g := g) hA.2 hg (by rw [← e]; exact h9)
    rw [← e] at hf
    have h1 : ipr 9 P P ≤ 462340000000000000000 := by
      have : ipr 9 P P ≤ smm 9 (fun k => fct k * 10000000000000000) := smm_le 9 (fun k _ => by
        refine Int.mul_le_mul_of_nonneg_left ?_ (by have := fct_ge1 k; omega)
        have hp := hP k
        have a1 := abs_mul_le hp.1 hp.2 hp.1 hp.2
        omega)
      have e2 : smm 9 (fun k => fct k * 10000000000000000) = 462340000000000000000 := by decide
      omega
    have h2 : fct k * (g k * g k) ≤ ipr 9 g g := smm_ge1 (F := fun k => fct k * (g k * g k)) 9 k hk (fun j _ => Int.mul_nonneg (by have := fct_ge1 j; omega) (sq_nn _))
    have hnn : 0 ≤ fct n * (A n * A n) := Int.mul_nonneg (by have := fct_ge1 n; omega) (sq_nn _)
    have h3 := Int.mul_le_mul_of_nonneg_left h2 hnn
    have h4 : fct k * ((A n * g k) * (A n * g k)) ≤ fct n * (A n * A n) * (fct k * (g k * g k)) := by
      have e5 : fct n * (A n * A n) * (fct k * (g k * g k)) = fct n * (fct k * ((A n * g k) * (A n * g k))) := by grind
      rw [e5]
      have hz : 0 ≤ fct k * ((A n * g k) * (A n * g k)) := Int.mul_nonneg (by have := fct_ge1 k; omega) (sq_nn _)
      have := Int.mul_le_mul_of_nonneg_right (fct_ge1 n) hz
      omega
    omega
  · rw [hg k (by omega), Int.mul_zero, Int.mul_zero, Int.mul_zero]
    decide
theorem fis_c0 {x : Int} (h : fct 0 * (x * x) ≤ 462340000000000000000) : x.natAbs ≤ 21502092921 := by
  have e : fct 0 = 1 := by decide
  rw [e] at h
  apply Nat.le_of_not_lt
  intro hx
  have h1 : (21502092922 : Int) * 21502092922 ≤ x * x := by
    have hh : x * x = (x.natAbs : Int) * x.natAbs := by
      rcases Int.le_total 0 x with a | a
      · rw [show (x.natAbs : Int) = x by omega]
      · rw [show (x.natAbs : Int) = -x by omega, Int.neg_mul_neg]
    rw [hh]
    exact Int.mul_le_mul (by omega) (by omega) (by omega) (by omega)
  omega
theorem fis_c1 {x : Int} (h : fct 1 * (x * x) ≤ 462340000000000000000) : x.natAbs ≤ 21502092921 := by
  have e : fct 1 = 1 := by decide
  rw [e] at h
  apply Nat.le_of_not_lt
  intro hx
  have h1 : (21502092922 : Int) * 21502092922 ≤ x * x := by
    have hh : x * x = (x.natAbs : Int) * x.natAbs := by
      rcases Int.le_total 0 x with a | a
      · rw [show (x.natAbs : Int) = x by omega]
      · rw [show (x.natAbs : Int) = -x by omega, Int.neg_mul_neg]
    rw [hh]
    exact Int.mul_le_mul (by omega) (by omega) (by omega) (by omega)
  omega
theorem fis_c2 {x : Int} (h : fct 2 * (x * x) ≤ 462340000000000000000) : x.natAbs ≤ 15204275714 := by
  have e : fct 2 = 2 := by decide
  rw [e] at h
  apply Nat.le_of_not_lt
  intro hx
  have h1 : (15204275715 : Int) * 15204275715 ≤ x * x := by
    have hh : x * x = (x.natAbs : Int) * x.natAbs := by
      rcases Int.le_total 0 x with a | a
      · rw [show (x.natAbs : Int) = x by omega]
      · rw [show (x.natAbs : Int) = -x by omega, Int.neg_mul_neg]
    rw [hh]
    exact Int.mul_le_mul (by omega) (by omega) (by omega) (by omega)
  omega
theorem fis_c3 {x : Int} (h : fct 3 * (x * x) ≤ 462340000000000000000) : x.natAbs ≤ 8778192676 := by
  have e : fct 3 = 6 := by decide
  rw [e] at h
  apply Nat.le_of_not_lt
  intro hx
  have h1 : (8778192677 : Int) * 8778192677 ≤ x * x := by
    have hh : x * x = (x.natAbs : Int) * x.natAbs := by
      rcases Int.le_total 0 x with a | a
      · rw [show (x.natAbs : Int) = x by omega]
      · rw [show (x.natAbs : Int) = -x by omega, Int.neg_mul_neg]
    rw [hh]
    exact Int.mul_le_mul (by omega) (by omega) (by omega) (by omega)
  omega
theorem fis_c4 {x : Int} (h : fct 4 * (x * x) ≤ 462340000000000000000) : x.natAbs ≤ 4389096338 := by
  have e : fct 4 = 24 := by decide
  rw [e] at h
  apply Nat.le_of_not_lt
  intro hx
  have h1 : (4389096339 : Int) * 4389096339 ≤ x * x := by
    have hh : x * x = (x.natAbs : Int) * x.natAbs := by
      rcases Int.le_total 0 x with a | a
      · rw [show (x.natAbs : Int) = x by omega]
      · rw [show (x.natAbs : Int) = -x by omega, Int.neg_mul_neg]
    rw [hh]
    exact Int.mul_le_mul (by omega) (by omega) (by omega) (by omega)
  omega
theorem fis_c5 {x : Int} (h : fct 5 * (x * x) ≤ 462340000000000000000) : x.natAbs ≤ 1962863554 := by
  have e : fct 5 = 120 := by decide
  rw [e] at h
  apply Nat.le_of_not_lt
  intro hx
  have h1 : (1962863555 : Int) * 1962863555 ≤ x * x := by
    have hh : x * x = (x.natAbs : Int) * x.natAbs := by
      rcases Int.le_total 0 x with a | a
      · rw [show (x.natAbs : Int) = x by omega]
      · rw [show (x.natAbs : Int) = -x by omega, Int.neg_mul_neg]
    rw [hh]
    exact Int.mul_le_mul (by omega) (by omega) (by omega) (by omega)
  omega
theorem fis_c6 {x : Int} (h : fct 6 * (x * x) ≤ 462340000000000000000) : x.natAbs ≤ 801335690 := by
  have e : fct 6 = 720 := by decide
  rw [e] at h
  apply Nat.le_of_not_lt
  intro hx
  have h1 : (801335691 : Int) * 801335691 ≤ x * x := by
    have hh : x * x = (x.natAbs : Int) * x.natAbs := by
      rcases Int.le_total 0 x with a | a
      · rw [show (x.natAbs : Int) = x by omega]
      · rw [show (x.natAbs : Int) = -x by omega, Int.neg_mul_neg]
    rw [hh]
    exact Int.mul_le_mul (by omega) (by omega) (by omega) (by omega)
  omega
theorem fis_c7 {x : Int} (h : fct 7 * (x * x) ≤ 462340000000000000000) : x.natAbs ≤ 302876421 := by
  have e : fct 7 = 5040 := by decide
  rw [e] at h
  apply Nat.le_of_not_lt
  intro hx
  have h1 : (302876422 : Int) * 302876422 ≤ x * x := by
    have hh : x * x = (x.natAbs : Int) * x.natAbs := by
      rcases Int.le_total 0 x with a | a
      · rw [show (x.natAbs : Int) = x by omega]
      · rw [show (x.natAbs : Int) = -x by omega, Int.neg_mul_neg]
    rw [hh]
    exact Int.mul_le_mul (by omega) (by omega) (by omega) (by omega)
  omega
theorem fis_c8 {x : Int} (h : fct 8 * (x * x) ≤ 462340000000000000000) : x.natAbs ≤ 107082985 := by
  have e : fct 8 = 40320 := by decide
  rw [e] at h
  apply Nat.le_of_not_lt
  intro hx
  have h1 : (107082986 : Int) * 107082986 ≤ x * x := by
    have hh : x * x = (x.natAbs : Int) * x.natAbs := by
      rcases Int.le_total 0 x with a | a
      · rw [show (x.natAbs : Int) = x by omega]
      · rw [show (x.natAbs : Int) = -x by omega, Int.neg_mul_neg]
    rw [hh]
    exact Int.mul_le_mul (by omega) (by omega) (by omega) (by omega)
  omega
theorem fis_sz {P A g : Pl} {n : Nat} (hP : ∀ k, -100000000 ≤ P k ∧ P k ≤ 100000000) (h9 : pbd 9 P) (e : P = pmu A g) (hA : dgr A n) (hg : pbd 9 g) (k : Nat) : (A n * g k).natAbs ≤ 21502092921 := by
  have h := fis_bd hP h9 e hA hg k
  refine fis_c0 ?_
  have e0 : fct 0 = 1 := rfl
  rw [e0, Int.one_mul]
  have := Int.mul_le_mul_of_nonneg_right (fct_ge1 k) (sq_nn (A n * g k))
  omega
theorem fis_g {P A g : Pl} {n : Nat} (hP : ∀ k, -100000000 ≤ P k ∧ P k ≤ 100000000) (h9 : pbd 9 P) (e : P = pmu A g) (hA : dgr A n) (hg : pbd 9 g) (k : Nat) : fct k * (g k * g k) ≤ 462340000000000000000 := by
  have h := fis_bd hP h9 e hA hg k
  have h1 : g k * g k ≤ (A n * g k) * (A n * g k) := by
    have : (A n * g k) * (A n * g k) = (A n * A n) * (g k * g k) := by grind
    rw [this]
    have hA1 : 1 ≤ A n * A n := by
      have := hA.1
      have h0 := sq_nn (A n)
      rcases Int.lt_or_eq_of_le h0 with a | a
      · omega
      · exact absurd a.symm (Int.mul_ne_zero this this)
    have := Int.mul_le_mul_of_nonneg_right hA1 (sq_nn (g k))
    omega
  have := Int.mul_le_mul_of_nonneg_left h1 (show 0 ≤ fct k by have := fct_ge1 k; omega)
  omega
theorem fis_nsz {g : Pl} (h8 : pbd 8 g) (hg : ∀ k, fct k * (g k * g k) ≤ 462340000000000000000) : nsz 8 g ≤ 2 ^ 37 ∧ nsz 7 (der g) ≤ 2 ^ 37 := by
  have a0 := fis_c0 (hg 0)
  have a1 := fis_c1 (hg 1)
  have a2 := fis_c2 (hg 2)
  have a3 := fis_c3 (hg 3)
  have a4 := fis_c4 (hg 4)
  have a5 := fis_c5 (hg 5)
  have a6 := fis_c6 (hg 6)
  have a7 := fis_c7 (hg 7)
  have e37 : (2 : Nat) ^ 37 = 137438953472 := by decide
  refine ⟨by simp only [nsz]; omega, ?_⟩
  have d : ∀ k, (der g k).natAbs = (k + 1) * (g (k + 1)).natAbs := fun k => by
    show (((k : Int) + 1) * g (k + 1)).natAbs = _
    rw [Int.natAbs_mul]
    congr 1
  simp only [nsz, d]
  simp only [show (0 + 1) = 1 from rfl, show (1 + 1) = 2 from rfl, show (2 + 1) = 3 from rfl, show (3 + 1) = 4 from rfl, show (4 + 1) = 5 from rfl, show (5 + 1) = 6 from rfl, show (6 + 1) = 7 from rfl]
  omega
