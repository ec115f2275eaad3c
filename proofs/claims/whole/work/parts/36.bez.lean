/-! ===== the first two's combination, and its size ===== -/
/-- the polynomial of row p -/
def gpl (A : Pl) (a : Nat) (B : Pl) (p : Nat) : Pl := if p < a then shf p A else shf (p - a) B
/-- rows with a first column of one's own -/
def zrw (j : Nat) (g : Nat → Pl) (z : Nat → Int) (p : Nat) : Pl := fun c => if c = 0 then z p else g p (j + c)
def zdt (n j : Nat) (g : Nat → Pl) (z : Nat → Int) : Int := dt n ((List.range n).map (zrw j g z))
theorem zdt_lin (n j : Nat) (g : Nat → Pl) (c : Int) (z z1 z2 : Nat → Int) (h : ∀ p, z p = c * z1 p + z2 p) (hn : 0 < n) : zdt n j g z = c * zdt n j g z1 + zdt n j g z2 := by
  obtain ⟨m, rfl⟩ : ∃ m, n = m + 1 := ⟨n - 1, by omega⟩
  exact dt_c0 (I := Nat) (c := c) (Z := zrw j g z) (R := zrw j g z1) (S := zrw j g z2) (fun p => by simp only [zrw, if_true]; exact h p) (fun p k => by
    have : k + 1 ≠ 0 := by omega
    simp [zrw]) m _
def unt (p : Nat) : Nat → Int := fun k => if k = p then 1 else 0
theorem zdt_cg {n j : Nat} {g : Nat → Pl} {z z' : Nat → Int} (h : ∀ p, p < n → z p = z' p) : zdt n j g z = zdt n j g z' := by
  unfold zdt
  congr 1
  apply List.map_congr_left
  intro p hp
  have hp := List.mem_range.mp hp
  refine pl_ext (fun c => ?_)
  simp only [zrw, h p hp]
theorem zdt_sum {n j : Nat} {g : Nat → Pl} (hn : 0 < n) (z : Nat → Int) : ∀ m, m ≤ n → zdt n j g (fun p => if p < m then z p else 0) = smm m (fun p => z p * zdt n j g (unt p))
  | 0, _ => by
    have h := zdt_lin n j g (-1) (fun _ => 0) (fun _ => 0) (fun _ => 0) (fun p => by simp) hn
    have e : zdt n j g (fun p => if p < 0 then z p else 0) = zdt n j g (fun _ => 0) := zdt_cg (fun p _ => by simp)
    rw [e]
    simp only [smm]; omega
  | m + 1, hm => by
    have ih := zdt_sum (g := g) (j := j) hn z m (by omega)
    have h := zdt_lin n j g (z m) (fun p => if p < m + 1 then z p else 0) (unt m) (fun p => if p < m then z p else 0) (fun p => by
      simp only [unt]
      by_cases h1 : p = m
      · subst h1; simp
      · by_cases h2 : p < m
        · have h3 : p < m + 1 := by omega
          simp [h1, h2, h3]
        · have h3 : ¬ p < m + 1 := by omega
          simp [h1, h2, h3]) hn
    rw [h, ih]
    simp only [smm]; omega
theorem zdt_all {n j : Nat} {g : Nat → Pl} (hn : 0 < n) (z : Nat → Int) : zdt n j g z = smm n (fun p => z p * zdt n j g (unt p)) := by
  rw [← zdt_sum hn z n (Nat.le_refl _)]
  exact zdt_cg (fun p hp => by simp [hp])
theorem rows_z (φ : Pl → Int) (j : Nat) (A : Pl) (a : Nat) (B : Pl) (b : Nat) : rws φ j A a ++ rws φ j B b = (List.range (a + b)).map (zrw j (gpl A a B) (fun p => φ (gpl A a B p))) := by
  induction b with
  | zero =>
    simp only [rws, List.range_zero, List.map_nil, List.append_nil, Nat.add_zero]
    apply List.map_congr_left
    intro p hp
    have hp := List.mem_range.mp hp
    refine pl_ext (fun c => ?_)
    simp only [rwp, zrw, gpl, hp, if_true]
  | succ b ih =>
    rw [rws_succ, ← List.append_assoc, ih, ← Nat.add_assoc, List.range_succ, List.map_append]
    congr 1
    have h1 : ¬ (a + b < a) := by omega
    have h2 : a + b - a = b := by omega
    simp only [List.map_cons, List.map_nil]
    congr 1
    refine pl_ext (fun c => ?_)
    simp only [rwp, zrw, gpl, h1, if_false, h2]
theorem smm_add (F : Nat → Int) (a : Nat) : ∀ b, smm (a + b) F = smm a F + smm b (fun i => F (a + i))
  | 0 => by simp [smm]
  | b + 1 => by
    have := smm_add F a b
    show smm (a + b) F + F (a + b) = smm a F + (smm b (fun i => F (a + i)) + F (a + b))
    omega
/-- x^i taken together -/
theorem smm_pmu (u A : Pl) (t : Nat) : ∀ a, (∀ i, a ≤ i → u i = 0) → smm a (fun i => (shf i A) t * u i) = pmu u A t := by
  intro a ha
  show _ = pmn t u A
  rw [pmn_smm]
  have key : ∀ m, smm m (fun i => (shf i A) t * u i) = smm (min m (t + 1)) (fun i => u i * A (t - i)) := by
    intro m
    induction m with
    | zero => simp [smm]
    | succ m ih =>
      simp only [smm, ih]
      by_cases h : m < t + 1
      · have e1 : min m (t + 1) = m := by omega
        have e2 : min (m + 1) (t + 1) = m + 1 := by omega
        have e3 : ¬ t < m := by omega
        rw [e1, e2]
        simp only [smm, shf, e3, if_false]
        grind
      · have e1 : min m (t + 1) = t + 1 := by omega
        have e2 : min (m + 1) (t + 1) = t + 1 := by omega
        have e3 : t < m := by omega
        rw [e1, e2]
        simp only [shf, e3, if_true]; omega
  have k2 : ∀ m, a ≤ m → smm m (fun i => (shf i A) t * u i) = smm a (fun i => (shf i A) t * u i) := by
    intro m
    induction m with
    | zero => intro h; have : a = 0 := by omega
              subst this; rfl
    | succ m ih =>
      intro h
      by_cases h1 : a = m + 1
      · rw [h1]
      · simp only [smm, ih (by omega), ha m (by omega)]; omega
  have h1 := key (max a (t + 1))
  rw [k2 _ (by omega)] at h1
  have e : min (max a (t + 1)) (t + 1) = t + 1 := by omega
  rw [h1, e]
