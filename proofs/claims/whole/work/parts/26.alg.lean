/-! ===== products, divisors, the derivative, values ===== -/
def smm : Nat → (Nat → Int) → Int
  | 0, _ => 0
  | n + 1, F => smm n F + F n
theorem smm_front : ∀ (n : Nat) (F : Nat → Int), smm (n + 1) F = F 0 + smm n (fun i => F (i + 1))
  | 0, F => by simp [smm]
  | n + 1, F => by
    have := smm_front n F
    simp only [smm] at this ⊢
    omega
theorem pmn_smm : ∀ (n : Nat) (f g : Pl), pmn n f g = smm (n + 1) (fun i => f i * g (n - i))
  | 0, f, g => by simp [pmn, smm]
  | n + 1, f, g => by
    rw [smm_front]
    simp only [pmn, pmn_smm n (ptl f) g, Nat.sub_zero]
    congr 1
    congr 1
    funext i
    have : n + 1 - (i + 1) = n - i := by omega
    rw [this]; rfl
theorem smm_one {l : Int} {F : Nat → Int} {a : Nat} : ∀ (n : Nat), (∀ i, i < n → i ≠ a → l ∣ F i) → l ∣ smm n F - (if a < n then F a else 0)
  | 0, _ => by simp [smm]
  | n + 1, h => by
    have h1 := smm_one n (fun i hi hne => h i (by omega) hne)
    simp only [smm]
    by_cases h2 : a = n
    · subst h2
      simp only [Nat.lt_irrefl, if_false, Int.sub_zero, Nat.lt_succ_self, if_true] at h1 ⊢
      rw [Int.add_sub_cancel]; exact h1
    · have h3 : (if a < n + 1 then F a else 0) = (if a < n then F a else 0) := by
        by_cases h4 : a < n
        · have h5 : a < n + 1 := by omega
          simp [h4, h5]
        · have h5 : ¬ a < n + 1 := by omega
          simp [h4, h5]
      rw [h3]
      have h4 := h n (by omega) (fun e => h2 e.symm)
      have e : smm n F + F n - (if a < n then F a else 0) = (smm n F - (if a < n then F a else 0)) + F n := by omega
      rw [e]
      exact Int.dvd_add h1 h4
/-- one number of a product, where all others are divided -/
theorem pmu_at {l : Int} {f g : Pl} {a b : Nat} (hf : ∀ i, i < a + b + 1 → i ≠ a → l ∣ f i ∨ l ∣ g (a + b - i)) : l ∣ pmu f g (a + b) - f a * g b := by
  have h1 := smm_one (l := l) (F := fun i => f i * g (a + b - i)) (a := a) (a + b + 1) (fun i hi hne => by
    rcases hf i hi hne with h | h
    · exact Int.dvd_mul_of_dvd_left h
    · exact Int.dvd_mul_of_dvd_right h)
  have h2 : a < a + b + 1 := by omega
  have h3 : a + b - a = b := by omega
  simp only [h2, if_true, h3] at h1
  show l ∣ pmn (a + b) f g - f a * g b
  rw [pmn_smm]; exact h1
theorem pmu_top {f g : Pl} {m n : Nat} (hf : ∀ t, m < t → f t = 0) (hg : ∀ t, n < t → g t = 0) : pmu f g (m + n) = f m * g n := by
  have := pmu_at (l := 0) (f := f) (g := g) (a := m) (b := n) (fun i hi hne => by
    by_cases h : m < i
    · left; rw [hf i h]; exact Int.dvd_refl _
    · right; rw [hg _ (by omega)]; exact Int.dvd_refl _)
  have := Int.zero_dvd.mp this
  omega
theorem pmu_hi {f g : Pl} {m n : Nat} (hf : ∀ t, m < t → f t = 0) (hg : ∀ t, n < t → g t = 0) : ∀ t, m + n < t → pmu f g t = 0 := by
  intro t ht
  show pmn t f g = 0
  rw [pmn_smm]
  have : ∀ k, k ≤ t + 1 → smm k (fun i => f i * g (t - i)) = 0 := by
    intro k
    induction k with
    | zero => intro _; rfl
    | succ k ih =>
      intro hk
      simp only [smm, ih (by omega), Int.zero_add]
      by_cases h : m < k
      · rw [hf k h]; simp
      · rw [hg _ (by omega)]; simp
  exact this (t + 1) (Nat.le_refl _)
/-- the first of some that are so -/
theorem nat_first {P : Nat → Prop} (h : ∃ n, P n) : ∃ n, P n ∧ ∀ m, m < n → ¬ P m := by
  obtain ⟨n, hn⟩ := h
  induction n using Nat.strongRecOn with
  | _ n ih =>
    by_cases h1 : ∃ m, m < n ∧ P m
    · obtain ⟨m, h2, h3⟩ := h1
      exact ih m h2 h3
    · exact ⟨n, hn, fun m hm hp => h1 ⟨m, hm, hp⟩⟩
theorem pl_nz {f : Pl} (h : f ≠ pz) : ∃ n, f n ≠ 0 ∧ ∀ m, m < n → f m = 0 := by
  have : ∃ n, f n ≠ 0 := by
    apply Classical.byContradiction
    intro h1
    exact h (pl_ext (fun n => Classical.byContradiction (fun h2 => h1 ⟨n, h2⟩)))
  obtain ⟨n, h1, h2⟩ := nat_first this
  exact ⟨n, h1, fun m hm => Classical.byContradiction (fun h3 => h2 m hm h3)⟩
theorem pmu_dom {f g : Pl} (hf : f ≠ pz) (hg : g ≠ pz) : pmu f g ≠ pz := by
  obtain ⟨a, h1, h2⟩ := pl_nz hf
  obtain ⟨b, h3, h4⟩ := pl_nz hg
  intro h
  have h5 := pmu_at (l := 0) (f := f) (g := g) (a := a) (b := b) (fun i hi hne => by
    by_cases h : i < a
    · left; rw [h2 i h]; exact Int.dvd_refl _
    · right; rw [h4 _ (by omega)]; exact Int.dvd_refl _)
  have h6 := Int.zero_dvd.mp h5
  rw [h] at h6
  have h7 : f a * g b = 0 := by simp only [pz] at h6; omega
  rcases Int.mul_eq_zero.mp h7 with h | h
  · exact h1 h
  · exact h3 h
theorem pmu_cancel {f g h : Pl} (hf : f ≠ pz) (e : pmu f g = pmu f h) : g = h := by
  apply Classical.byContradiction
  intro hne
  have h1 : psb g h ≠ pz := by
    intro h2
    apply hne
    refine pl_ext (fun n => ?_)
    have := congrFun h2 n
    simp only [psb, pz] at this
    omega
  refine pmu_dom hf h1 ?_
  have h2 : psb g h = pad g (psc (-1) h) := pl_ext (fun n => by simp only [psb, pad, psc]; omega)
  rw [h2, pmu_addr, ← pcn_mu, pmu_comm (pcn (-1)), ← pmu_assoc, ← e, pmu_comm _ (pcn (-1)), pcn_mu]
  exact pl_ext (fun n => by simp only [pad, psc, pz]; omega)
/-- a least divisor goes into one of two factors -/
theorem least_dv {N : Nat} (h : 2 ≤ N) : ∃ l : Nat, 2 ≤ l ∧ l ∣ N ∧ ∀ a b : Int, (l : Int) ∣ a * b → (l : Int) ∣ a ∨ (l : Int) ∣ b := by
  obtain ⟨l, ⟨h1, h2⟩, h3⟩ := nat_first (P := fun l => 2 ≤ l ∧ l ∣ N) ⟨N, h, Nat.dvd_refl N⟩
  refine ⟨l, h1, h2, ?_⟩
  intro a b hab
  by_cases ha : (l : Int) ∣ a
  · exact Or.inl ha
  · right
    have hg : Nat.gcd l a.natAbs = 1 := by
      apply Classical.byContradiction
      intro hne
      have h4 : Nat.gcd l a.natAbs ∣ l := Nat.gcd_dvd_left _ _
      have h5 : Nat.gcd l a.natAbs ∣ a.natAbs := Nat.gcd_dvd_right _ _
      have h6 : 0 < Nat.gcd l a.natAbs := Nat.gcd_pos_of_pos_left _ (by omega)
      have h7 : ¬ Nat.gcd l a.natAbs < l := fun hlt => h3 _ hlt ⟨by omega, Nat.dvd_trans h4 h2⟩
      have h8 := Nat.le_of_dvd (by omega) h4
      have h9 : Nat.gcd l a.natAbs = l := by omega
      rw [h9] at h5
      exact ha (Int.ofNat_dvd_left.mpr h5)
    have h4 : l ∣ a.natAbs * b.natAbs := by
      rw [← Int.natAbs_mul]
      exact Int.ofNat_dvd_left.mp hab
    exact Int.ofNat_dvd_left.mpr (Nat.Coprime.dvd_of_dvd_mul_left hg h4)
/-- its numbers share no divisor -/
def prm (f : Pl) : Prop := ∀ l : Nat, (∀ k, (l : Int) ∣ f k) → l = 1
theorem gss_one {l : Nat} (h1 : 2 ≤ l) (hl : ∀ a b : Int, (l : Int) ∣ a * b → (l : Int) ∣ a ∨ (l : Int) ∣ b) {g q : Pl} (hg : prm g) (h : ∀ k, (l : Int) ∣ pmu g q k) : ∀ k, (l : Int) ∣ q k := by
  apply Classical.byContradiction
  intro h2
  have h3 : ∃ k, ¬ (l : Int) ∣ q k := Classical.byContradiction (fun h4 => h2 (fun k => Classical.byContradiction (fun h5 => h4 ⟨k, h5⟩)))
  have h4 : ∃ k, ¬ (l : Int) ∣ g k := Classical.byContradiction (fun h4 => by
    have := hg l (fun k => Classical.byContradiction (fun h5 => h4 ⟨k, h5⟩))
    omega)
  obtain ⟨b, h5, h6⟩ := nat_first h3
  obtain ⟨a, h7, h8⟩ := nat_first h4
  have h9 := pmu_at (l := l) (f := g) (g := q) (a := a) (b := b) (fun i hi hne => by
    by_cases h : i < a
    · left; exact Classical.byContradiction (h8 i h)
    · right; exact Classical.byContradiction (h6 _ (by omega)))
  have h10 : (l : Int) ∣ g a * q b := by
    have := Int.dvd_sub (h (a + b)) h9
    have e : pmu g q (a + b) - (pmu g q (a + b) - g a * q b) = g a * q b := by omega
    rwa [e] at this
  rcases hl _ _ h10 with h | h
  · exact h7 h
  · exact h5 h
def pdv (q : Pl) (l : Int) : Pl := fun k => q k / l
theorem psc_mur (g : Pl) (l : Int) (q : Pl) : pmu g (psc l q) = psc l (pmu g q) := by
  rw [pmu_comm, ← pcn_mu, pmu_assoc, pcn_mu, pmu_comm]
theorem gss {g : Pl} (hg : prm g) : ∀ (n : Nat) (N : Int) (f q : Pl), N.natAbs = n → N ≠ 0 → psc N f = pmu g q → ∃ q', q = psc N q' := by
  intro n
  induction n using Nat.strongRecOn with
  | _ n ih =>
    intro N f q hn hN h
    by_cases h1 : n = 1
    · have h2 : N = 1 ∨ N = -1 := by omega
      rcases h2 with rfl | rfl
      · exact ⟨q, pl_ext (fun k => by simp [psc])⟩
      · exact ⟨psc (-1) q, pl_ext (fun k => by simp only [psc]; omega)⟩
    · obtain ⟨l, h2, h3, h4⟩ := least_dv (N := n) (by omega)
      have h5 : (l : Int) ∣ N := Int.ofNat_dvd_left.mpr (by rw [hn]; exact h3)
      obtain ⟨M, hM⟩ := h5
      have h6 : ∀ k, (l : Int) ∣ q k := gss_one h2 h4 hg (fun k => by
        rw [← h]
        show (l : Int) ∣ N * f k
        rw [hM]
        exact Int.dvd_mul_of_dvd_left (Int.dvd_mul_right _ _))
      have h7 : q = psc l (pdv q l) := pl_ext (fun k => by
        show q k = l * (q k / l)
        exact (Int.mul_ediv_cancel' (h6 k)).symm)
      have hl0 : (l : Int) ≠ 0 := by omega
      have hM0 : M ≠ 0 := by rintro rfl; simp at hM; exact hN hM
      have h8 : psc M f = pmu g (pdv q l) := by
        rw [h7] at h
        refine pl_ext (fun k => ?_)
        have h9 := congrFun h k
        have h10 : pmu g (psc l (pdv q l)) k = l * pmu g (pdv q l) k := by
          rw [psc_mur]; rfl
        rw [h10] at h9
        have h11 : (l : Int) * (M * f k) = l * pmu g (pdv q l) k := by
          rw [← h9]
          show (l : Int) * (M * f k) = N * f k
          rw [hM, Int.mul_assoc]
        exact Int.eq_of_mul_eq_mul_left hl0 h11
      have h12 : M.natAbs < n := by
        have : N.natAbs = l * M.natAbs := by rw [hM, Int.natAbs_mul]; simp
        have h13 : 0 < M.natAbs := Int.natAbs_pos.mpr hM0
        rw [← hn, this]
        have : 2 * M.natAbs ≤ l * M.natAbs := Nat.mul_le_mul_right _ h2
        omega
      obtain ⟨q', hq'⟩ := ih M.natAbs h12 M f _ rfl hM0 h8
      refine ⟨q', ?_⟩
      rw [h7, hq', hM]
      exact pl_ext (fun k => by simp only [psc]; rw [Int.mul_assoc])
theorem gauss {g : Pl} (hg : prm g) {N : Int} {f q : Pl} (hN : N ≠ 0) (h : psc N f = pmu g q) : ∃ q', q = psc N q' ∧ f = pmu g q' := by
  obtain ⟨q', hq⟩ := gss hg N.natAbs N f q rfl hN h
  refine ⟨q', hq, pl_ext (fun k => ?_)⟩
  have h1 := congrFun h k
  have h2 : pmu g (psc N q') k = N * pmu g q' k := by
    rw [psc_mur]; rfl
  rw [hq, h2] at h1
  exact Int.eq_of_mul_eq_mul_left hN h1
/-- the derivative -/
def der (f : Pl) : Pl := fun n => ((n : Int) + 1) * f (n + 1)
theorem der_pmn (g : Pl) : ∀ (n : Nat) (f : Pl), ((n : Int) + 1) * pmn (n + 1) f g = pmn n (der f) g + pmn n f (der g)
  | 0, f => by simp only [pmn, der, ptl]; grind
  | n + 1, f => by
    have ih := der_pmn g n (ptl f)
    have e1 : ptl (der f) = pad (der (ptl f)) (ptl (ptl f)) := pl_ext (fun k => by simp only [ptl, der, pad]; grind)
    have h1 : pmn (n + 1 + 1) f g = f 0 * g (n + 1 + 1) + pmn (n + 1) (ptl f) g := rfl
    have h2 : pmn (n + 1) (der f) g = der f 0 * g (n + 1) + pmn n (ptl (der f)) g := rfl
    have h3 : pmn (n + 1) f (der g) = f 0 * (((n + 1 : Nat) : Int) + 1) * g (n + 1 + 1) + pmn n (ptl f) (der g) := by
      show f 0 * ((((n + 1 : Nat) : Int) + 1) * g (n + 1 + 1)) + pmn n (ptl f) (der g) = _
      rw [Int.mul_assoc]
    have h4 : pmn (n + 1) (ptl f) g = ptl f 0 * g (n + 1) + pmn n (ptl (ptl f)) g := rfl
    have h5 : der f 0 = ptl f 0 := by simp [der, ptl]
    rw [h1, h2, h3, e1, pmn_addl, h5]
    have h6 : (((n + 1 : Nat) : Int)) = (n : Int) + 1 := by omega
    rw [h6]
    grind
theorem der_pmu (f g : Pl) : der (pmu f g) = pad (pmu (der f) g) (pmu f (der g)) := pl_ext (fun n => der_pmn g n f)
theorem der_psc (a : Int) (f : Pl) : der (psc a f) = psc a (der f) := pl_ext (fun n => by simp only [der, psc]; grind)
theorem der_pad (f g : Pl) : der (pad f g) = pad (der f) (der g) := pl_ext (fun n => by simp only [der, pad]; grind)
/-- values -/
def evn : Nat → Pl → Rat → Rat
  | 0, _, _ => 0
  | n + 1, f, x => (f 0 : Rat) + x * evn n (ptl f) x
def pbd (n : Nat) (f : Pl) : Prop := ∀ k, n ≤ k → f k = 0
theorem evn_z {f : Pl} (h : ∀ k, f k = 0) (x : Rat) : ∀ n, evn n f x = 0
  | 0 => rfl
  | n + 1 => by
    simp only [evn, evn_z (f := ptl f) (fun k => h (k + 1)) x n, h 0]
    grind
theorem evn_st {x : Rat} : ∀ {n m : Nat} {f : Pl}, pbd n f → n ≤ m → evn m f x = evn n f x
  | 0, m, f, h, _ => evn_z (fun k => h k (by omega)) x m
  | n + 1, 0, f, h, hm => by omega
  | n + 1, m + 1, f, h, hm => by
    simp only [evn]
    rw [evn_st (n := n) (m := m) (f := ptl f) (fun k hk => h (k + 1) (by omega)) (by omega)]
theorem evn_lin (x : Rat) (c : Int) : ∀ (n : Nat) (f g : Pl), evn n (pad (psc c f) g) x = c * evn n f x + evn n g x
  | 0, f, g => by simp only [evn]; grind
  | n + 1, f, g => by
    have e : ptl (pad (psc c f) g) = pad (psc c (ptl f)) (ptl g) := rfl
    simp only [evn, e, evn_lin x c n]
    have : ((pad (psc c f) g 0 : Int) : Rat) = (c : Rat) * (f 0 : Rat) + (g 0 : Rat) := by
      simp only [pad, psc, Rat.intCast_add, Rat.intCast_mul]
    rw [this]; grind
theorem pbd_pmu {n m : Nat} {f g : Pl} (hf : pbd n f) (hg : pbd m g) : pbd (n + m) (pmu f g) := by
  intro k hk
  by_cases h0 : n = 0
  · subst h0
    have : f = pz := pl_ext (fun k => hf k (by omega))
    rw [this, pmu_z]; rfl
  · by_cases h1 : m = 0
    · subst h1
      have : g = pz := pl_ext (fun k => hg k (by omega))
      rw [this, pmu_comm, pmu_z]; rfl
    · exact pmu_hi (m := n - 1) (n := m - 1) (fun t ht => hf t (by omega)) (fun t ht => hg t (by omega)) k (by omega)
theorem evn_mu (x : Rat) {m : Nat} {g : Pl} (hg : pbd m g) : ∀ (n : Nat) (f : Pl), pbd n f → evn (n + m) (pmu f g) x = evn n f x * evn m g x
  | 0, f, hf => by
    have : f = pz := pl_ext (fun k => hf k (by omega))
    rw [this, pmu_z]
    rw [evn_z (f := pz) (fun k => rfl)]
    simp only [evn]; grind
  | n + 1, f, hf => by
    have e : ptl (pmu f g) = pad (psc (f 0) (ptl g)) (pmu (ptl f) g) := rfl
    have h1 := evn_mu x hg n (ptl f) (fun k hk => hf (k + 1) (by omega))
    have e2 : n + 1 + m = (n + m) + 1 := by omega
    rw [e2]
    simp only [evn]
    rw [e, evn_lin, h1]
    have h2 : evn m g x = (g 0 : Rat) + x * evn (n + m) (ptl g) x := by
      rw [← evn_st (m := n + m + 1) hg (by omega)]; rfl
    have h3 : ((pmu f g 0 : Int) : Rat) = (f 0 : Rat) * (g 0 : Rat) := by
      show ((f 0 * g 0 : Int) : Rat) = _
      rw [Rat.intCast_mul]
    rw [h3, h2]; grind
