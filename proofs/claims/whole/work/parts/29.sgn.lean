/-! ===== rows of signs ===== -/
def sgq (r : Rat) : Int := if r < 0 then -1 else if r = 0 then 0 else 1
theorem sgq_0 {r : Rat} : sgq r = 0 ↔ r = 0 := by
  unfold sgq
  split
  · constructor
    · intro h; omega
    · intro h; grind
  · split <;> simp_all
theorem sgq_1 {r : Rat} : sgq r = 1 ↔ 0 < r := by
  unfold sgq
  split
  · constructor
    · intro h; omega
    · intro h; grind
  · split
    · constructor
      · intro h; omega
      · intro h; grind
    · constructor
      · intro _; grind
      · intro _; rfl
theorem sgq_m {r : Rat} : sgq r = -1 ↔ r < 0 := by
  unfold sgq
  split
  · simp_all
  · split
    · constructor
      · intro h; omega
      · intro h; grind
    · constructor
      · intro h; omega
      · intro h; grind
theorem sgq_c (r : Rat) : sgq r = -1 ∨ sgq r = 0 ∨ sgq r = 1 := by
  unfold sgq
  split
  · simp
  · split <;> simp
/-- how often signs change, zeros left out -/
def scv : Int → List Int → Nat
  | _, [] => 0
  | b, s :: t => if s = 0 then scv b t else (if s = -b then 1 else 0) + scv s t
/-- both rows alike at the head; where they differ the neighbours are opposite and alike -/
def okl : List (Int × Int) → Prop
  | [] => False
  | [p] => p.1 = p.2 ∧ p.1 ≠ 0
  | p :: q :: r => p.1 = p.2 ∧ p.1 ≠ 0 ∧ ((q.1 = q.2 ∧ q.1 ≠ 0 ∧ okl (q :: r)) ∨ ((∃ c r', r = c :: r' ∧ c.1 = - p.1) ∧ okl r))
def sg3 (s : Int) : Prop := s = -1 ∨ s = 0 ∨ s = 1
theorem okl_hd {p : Int × Int} {r : List (Int × Int)} (h : okl (p :: r)) : p.1 = p.2 ∧ p.1 ≠ 0 := by
  cases r with
  | nil => exact h
  | cons q r => exact ⟨h.1, h.2.1⟩
theorem scv_ok : ∀ (n : Nat) (p : Int × Int) (r : List (Int × Int)), r.length ≤ n → okl (p :: r) → (∀ x ∈ p :: r, sg3 x.1 ∧ sg3 x.2) →
    scv p.1 (r.map Prod.fst) = scv p.2 (r.map Prod.snd) := by
  intro n
  induction n using Nat.strongRecOn with
  | _ n ih =>
    intro p r hn hk hs
    cases r with
    | nil => simp [scv]
    | cons q r =>
      obtain ⟨h1, h2, h3⟩ := hk
      rcases h3 with ⟨h4, h5, h6⟩ | ⟨⟨c, r', rfl, hc⟩, h6⟩
      · have h7 := ih r.length (by simp at hn; omega) q r (Nat.le_refl _) h6 (fun x hx => hs x (List.mem_cons_of_mem _ hx))
        simp only [List.map_cons, scv]
        rw [← h4, ← h1, if_neg h5, if_neg h5, h7, h4]
      · obtain ⟨h7, h8⟩ := okl_hd h6
        have h9 := ih r'.length (by simp at hn; omega) c r' (Nat.le_refl _) h6 (fun x hx => hs x (List.mem_cons_of_mem _ (List.mem_cons_of_mem _ hx)))
        obtain ⟨hq1, hq2⟩ := hs q (by simp)
        obtain ⟨hp1, _⟩ := hs p (by simp)
        obtain ⟨q1, q2⟩ := q
        obtain ⟨p1, p2⟩ := p
        obtain ⟨c1, c2⟩ := c
        simp only at *
        subst h1 h7
        simp only [List.map_cons, scv]
        rw [if_neg h8]
        rw [h9]
        generalize scv c1 (List.map Prod.snd r') = X
        have hp : p1 = 1 ∨ p1 = -1 := by rcases hp1 with h | h | h <;> simp_all
        have key : ∀ q : Int, sg3 q → (if q = 0 then (if c1 = -p1 then 1 else 0) + X else (if q = -p1 then 1 else 0) + ((if c1 = -q then 1 else 0) + X)) = 1 + X := by
          intro q hq
          rw [hc]
          rcases hp with rfl | rfl <;> rcases hq with rfl | rfl | rfl <;> simp
        simp only [if_neg h8]
        rw [key q1 hq1, key q2 hq2]
/-- rows of pairs, from member i on -/
def prw (e : Nat → Rat → Rat) (x y : Rat) (i : Nat) : Nat → List (Int × Int)
  | 0 => [(sgq (e i x), sgq (e i y))]
  | m + 1 => (sgq (e i x), sgq (e i y)) :: prw e x y (i + 1) m
def srw (e : Nat → Rat → Rat) (x : Rat) (i : Nat) : Nat → List Int
  | 0 => [sgq (e i x)]
  | m + 1 => sgq (e i x) :: srw e x (i + 1) m
theorem prw_fst (e : Nat → Rat → Rat) (x y : Rat) : ∀ (m i : Nat), (prw e x y i m).map Prod.fst = srw e x i m
  | 0, i => rfl
  | m + 1, i => by simp only [prw, srw, List.map_cons, prw_fst e x y m]
theorem prw_snd (e : Nat → Rat → Rat) (x y : Rat) : ∀ (m i : Nat), (prw e x y i m).map Prod.snd = srw e y i m
  | 0, i => rfl
  | m + 1, i => by simp only [prw, srw, List.map_cons, prw_snd e x y m]
theorem prw_sg (e : Nat → Rat → Rat) (x y : Rat) : ∀ (m i : Nat) p, p ∈ prw e x y i m → sg3 p.1 ∧ sg3 p.2
  | 0, i, p, h => by
    simp only [prw, List.mem_singleton] at h
    subst h; exact ⟨sgq_c _, sgq_c _⟩
  | m + 1, i, p, h => by
    simp only [prw, List.mem_cons] at h
    rcases h with rfl | h
    · exact ⟨sgq_c _, sgq_c _⟩
    · exact prw_sg e x y m _ p h
/-- member k keeps its sign, and has one -/
def kps (e : Nat → Rat → Rat) (x y : Rat) (k : Nat) : Prop := sgq (e k x) = sgq (e k y) ∧ sgq (e k x) ≠ 0
theorem prw_ok {e : Nat → Rat → Rat} {x y : Rat} {n : Nat} (hl : kps e x y n) (h1 : ∀ k, k < n → kps e x y k ∨ kps e x y (k + 1))
    (h2 : ∀ k, k + 2 ≤ n → ¬ kps e x y (k + 1) → sgq (e (k + 2) x) = - sgq (e k x)) :
    ∀ (m i : Nat), i + m = n → kps e x y i → okl (prw e x y i m) := by
  intro m
  induction m using Nat.strongRecOn with
  | _ m ih =>
    intro i hi hk
    match m, ih, hi with
    | 0, _, hi => exact hk
    | 1, ih, hi =>
      have h3 : kps e x y (i + 1) := by rw [hi]; exact hl
      exact ⟨hk.1, hk.2, Or.inl ⟨h3.1, h3.2, ih 0 (by omega) (i + 1) (by omega) h3⟩⟩
    | m + 2, ih, hi =>
      by_cases h3 : kps e x y (i + 1)
      · exact ⟨hk.1, hk.2, Or.inl ⟨h3.1, h3.2, ih (m + 1) (by omega) (i + 1) (by omega) h3⟩⟩
      · have h4 : kps e x y (i + 2) := by
          rcases h1 (i + 1) (by omega) with h | h
          · exact absurd h h3
          · exact h
        have h5 := ih m (by omega) (i + 2) (by omega) h4
        have h6 := h2 i (by omega) h3
        refine ⟨hk.1, hk.2, Or.inr ⟨?_, h5⟩⟩
        cases m with
        | zero => exact ⟨_, _, rfl, h6⟩
        | succ m => exact ⟨_, _, rfl, h6⟩
/-- the changes at a place -/
def vch (e : Nat → Rat → Rat) (n : Nat) (x : Rat) : Nat := scv 0 (srw e x 0 n)
theorem vch_kp {e : Nat → Rat → Rat} {x y : Rat} {n : Nat} (hl : kps e x y n) (h1 : ∀ k, k < n → kps e x y k ∨ kps e x y (k + 1))
    (h2 : ∀ k, k + 2 ≤ n → ¬ kps e x y (k + 1) → sgq (e (k + 2) x) = - sgq (e k x)) (h0 : kps e x y 0) : vch e n x = vch e n y := by
  have hk := prw_ok hl h1 h2 n 0 (by omega) h0
  have hs := prw_sg e x y n 0
  have e1 := prw_fst e x y n 0
  have e2 := prw_snd e x y n 0
  unfold vch
  cases n with
  | zero => simp only [srw, scv, h0.1]
  | succ n =>
    have h3 := scv_ok _ _ _ (Nat.le_refl _) hk hs
    simp only [prw, List.map_cons, srw, List.cons.injEq, true_and] at e1 e2
    simp only [srw, scv]
    rw [prw_fst, prw_snd] at h3
    rw [← h0.1, if_neg h0.2, if_neg h0.2]
    simp only at h3
    rw [h3, ← h0.1]
theorem vch_fl {e : Nat → Rat → Rat} {x y : Rat} {n : Nat} (hn : 0 < n) (hl : kps e x y n) (h1 : ∀ k, k < n → kps e x y k ∨ kps e x y (k + 1))
    (h2 : ∀ k, k + 2 ≤ n → ¬ kps e x y (k + 1) → sgq (e (k + 2) x) = - sgq (e k x)) (h0 : kps e x y 1) :
    vch e n x + (if sgq (e 1 y) = - sgq (e 0 y) then 1 else 0) = vch e n y + (if sgq (e 1 x) = - sgq (e 0 x) then 1 else 0) := by
  obtain ⟨m, rfl⟩ : ∃ m, n = m + 1 := ⟨n - 1, by omega⟩
  have hk := prw_ok hl h1 h2 m 1 (by omega) h0
  have hs := prw_sg e x y m 1
  have h4 : ∀ z b, sgq (e 1 z) ≠ 0 → scv b (srw e z 1 m) = (if sgq (e 1 z) = -b then 1 else 0) + scv (sgq (e 1 z)) ((srw e z 1 m).tail) := by
    intro z b hz
    cases m with
    | zero => simp only [srw, scv, List.tail, if_neg hz]
    | succ m => simp only [srw, scv, List.tail, if_neg hz]
  have h5 : scv (sgq (e 1 x)) ((srw e x 1 m).tail) = scv (sgq (e 1 y)) ((srw e y 1 m).tail) := by
    cases m with
    | zero => simp only [srw, List.tail, scv]
    | succ m =>
      have h3 := scv_ok _ _ _ (Nat.le_refl _) hk hs
      rw [prw_fst, prw_snd] at h3
      exact h3
  have hz : sgq (e 1 y) ≠ 0 := by rw [← h0.1]; exact h0.2
  have h6 : ∀ z, sgq (e 1 z) ≠ 0 → vch e (m + 1) z = (if sgq (e 1 z) = - sgq (e 0 z) then 1 else 0) + scv (sgq (e 1 z)) ((srw e z 1 m).tail) := by
    intro z hz
    unfold vch
    simp only [srw, scv]
    by_cases h7 : sgq (e 0 z) = 0
    · rw [if_pos h7, h7, h4 z 0 hz]
    · rw [if_neg h7, h4 z _ hz]
      have : ¬ sgq (e 0 z) = -0 := by simpa using h7
      simp [h7]
  rw [h6 x h0.2, h6 y hz, h5]
  omega
