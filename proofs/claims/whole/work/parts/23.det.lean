/-! ===== determinants of rows ===== -/
def dex (n : Nat) (F : List Pl → Int) : List Pl → List Pl → Int
  | _, [] => 0
  | pre, r :: t => r n * F (pre ++ t) - dex n F (pre ++ [r]) t
def dt : Nat → List Pl → Int
  | 0, [] => 1
  | 0, _ :: _ => 0
  | n + 1, L => dex n (dt n) [] L
theorem dex_swp {n : Nat} {F : List Pl → Int} (hF : ∀ p a b t, F (p ++ a :: b :: t) = - F (p ++ b :: a :: t)) (a b : Pl) (p2 : List Pl) :
    ∀ (t p1 : List Pl), dex n F (p1 ++ a :: b :: p2) t = - dex n F (p1 ++ b :: a :: p2) t := by
  intro t
  induction t generalizing p2 with
  | nil => intro p1; simp [dex]
  | cons x t ih =>
    intro p1
    simp only [dex]
    have h1 := hF p1 a b (p2 ++ t)
    have h2 := ih (p2 ++ [x]) p1
    simp only [List.append_assoc, List.cons_append] at h1 h2 ⊢
    rw [h1, h2]; grind
theorem dex_sw {n : Nat} {F : List Pl → Int} (hF : ∀ p a b t, F (p ++ a :: b :: t) = - F (p ++ b :: a :: t)) (a b : Pl) (t : List Pl) :
    ∀ (q pre : List Pl), dex n F pre (q ++ a :: b :: t) = - dex n F pre (q ++ b :: a :: t) := by
  intro q
  induction q with
  | nil =>
    intro pre
    have h1 := dex_swp (n := n) hF a b [] t pre
    simp only [List.nil_append, dex]
    simp only [List.append_assoc, List.cons_append, List.nil_append] at h1 ⊢
    rw [h1]; grind
  | cons x q ih =>
    intro pre
    have h1 := hF (pre ++ q) a b t
    have h2 := ih (pre ++ [x])
    simp only [List.cons_append, dex]
    simp only [List.append_assoc] at h1 h2 ⊢
    rw [h1, h2]; grind
theorem dt_sw : ∀ (n : Nat) (p : List Pl) (a b : Pl) (t : List Pl), dt n (p ++ a :: b :: t) = - dt n (p ++ b :: a :: t)
  | 0, p, a, b, t => by cases p <;> simp [dt]
  | n + 1, p, a, b, t => dex_sw (fun p a b t => dt_sw n p a b t) a b t p []
theorem dt_perm_pre {n : Nat} {L L' : List Pl} (h : L.Perm L') : ∀ p, (dt n (p ++ L)).natAbs = (dt n (p ++ L')).natAbs := by
  induction h with
  | nil => intro p; rfl
  | cons x _ ih =>
    intro p
    have := ih (p ++ [x])
    simpa using this
  | swap x y l => intro p; rw [dt_sw, Int.natAbs_neg]
  | trans _ _ ih1 ih2 => intro p; rw [ih1, ih2]
theorem dt_perm {n : Nat} {L L' : List Pl} (h : L.Perm L') : (dt n L).natAbs = (dt n L').natAbs := dt_perm_pre h []
theorem dt_dup (n : Nat) (a : Pl) (t : List Pl) : dt n (a :: a :: t) = 0 := by
  have := dt_sw n [] a a t
  simp only [List.nil_append] at this
  omega
theorem dt_mem {n : Nat} {a : Pl} {t : List Pl} (h : a ∈ t) : dt n (a :: t) = 0 := by
  obtain ⟨s, u, rfl⟩ := List.append_of_mem h
  have h1 : (a :: (s ++ a :: u)).Perm (a :: a :: (s ++ u)) := List.Perm.cons a List.perm_middle
  have h2 := dt_perm (n := n) h1
  rw [dt_dup] at h2
  exact Int.natAbs_eq_zero.mp (by simpa using h2)
theorem dex_lin {n : Nat} {F : List Pl → Int} {c : Int} {a b : Pl} (hF : ∀ t, F (pad (psc c a) b :: t) = c * F (a :: t) + F (b :: t)) :
    ∀ (t p : List Pl), dex n F (pad (psc c a) b :: p) t = c * dex n F (a :: p) t + dex n F (b :: p) t := by
  intro t
  induction t with
  | nil => intro p; simp [dex]
  | cons x t ih =>
    intro p
    simp only [dex, List.cons_append]
    rw [hF, ih]; grind
theorem dt_lin : ∀ (n : Nat) (c : Int) (a b : Pl) (t : List Pl), 0 < n → dt n (pad (psc c a) b :: t) = c * dt n (a :: t) + dt n (b :: t)
  | 0, c, a, b, t, h => by omega
  | n + 1, c, a, b, t, _ => by
    have hF : ∀ t, dt n (pad (psc c a) b :: t) = c * dt n (a :: t) + dt n (b :: t) := by
      intro t
      by_cases hn : 0 < n
      · exact dt_lin n c a b t hn
      · have : n = 0 := by omega
        subst this
        simp [dt]
    simp only [dt, dex, List.nil_append]
    rw [dex_lin hF]
    simp only [pad, psc]; grind
theorem dt_psc {n : Nat} (hn : 0 < n) (c : Int) (a : Pl) (t : List Pl) : dt n (psc c a :: t) = c * dt n (a :: t) := by
  have e : psc c a = pad (psc c a) (psc 0 a) := pl_ext (fun k => by simp [pad, psc])
  have e2 : psc 0 a = pad (psc (-1) (psc 0 a)) (psc 0 a) := pl_ext (fun k => by simp [pad, psc])
  have h0 : dt n (psc 0 a :: t) = 0 := by
    have := dt_lin n (-1) (psc 0 a) (psc 0 a) t hn
    rw [← e2] at this
    omega
  rw [e, dt_lin n c a _ t hn, h0]; omega
theorem dex_z {n : Nat} {F : List Pl → Int} : ∀ (t p : List Pl), (∀ x ∈ t, x n = 0) → dex n F p t = 0
  | [], p, _ => rfl
  | x :: t, p, h => by
    simp only [dex]
    rw [dex_z t _ (fun y hy => h y (List.mem_cons_of_mem _ hy)), h x List.mem_cons_self]; omega
theorem dt_top {n : Nat} {a : Pl} {t : List Pl} (h : ∀ x ∈ t, x n = 0) : dt (n + 1) (a :: t) = a n * dt n t := by
  simp only [dt, dex, List.nil_append]
  rw [dex_z t _ h]; omega
/-- the sum of the sizes in n columns -/
def nsz : Nat → Pl → Nat
  | 0, _ => 0
  | n + 1, r => nsz n r + (r n).natAbs
def npr (n : Nat) : List Pl → Nat
  | [] => 1
  | r :: t => nsz n r * npr n t
theorem npr_app (n : Nat) : ∀ (s t : List Pl), npr n (s ++ t) = npr n s * npr n t
  | [], t => by simp [npr]
  | r :: s, t => by simp only [List.cons_append, npr, npr_app n s t, Nat.mul_assoc]
theorem npr_le (n : Nat) : ∀ (t : List Pl), npr n t ≤ npr (n + 1) t
  | [] => Nat.le_refl _
  | r :: t => Nat.mul_le_mul (by simp only [nsz]; omega) (npr_le n t)
theorem dex_bd {n : Nat} {F : List Pl → Int} (hF : ∀ L, (F L).natAbs ≤ npr n L) :
    ∀ (t p : List Pl), (dex n F p t).natAbs + npr n p * npr n t ≤ npr n p * npr (n + 1) t
  | [], p => by simp [dex, npr]
  | r :: t, p => by
    have h1 := dex_bd hF t (p ++ [r])
    have h2 := hF (p ++ t)
    have h3 := npr_le n t
    rw [npr_app] at h1 h2
    simp only [dex, npr, nsz]
    have h4 : (r n * F (p ++ t) - dex n F (p ++ [r]) t).natAbs ≤ (r n).natAbs * (F (p ++ t)).natAbs + (dex n F (p ++ [r]) t).natAbs := by
      rw [← Int.natAbs_mul]; exact Int.natAbs_sub_le _ _
    have h5 : (r n).natAbs * (F (p ++ t)).natAbs ≤ (r n).natAbs * (npr n p * npr n t) := Nat.mul_le_mul_left _ h2
    have h6 : npr n p * (r n).natAbs * npr n t ≤ npr n p * (r n).natAbs * npr (n + 1) t := Nat.mul_le_mul_left _ h3
    simp only [npr, Nat.mul_one] at h1
    generalize (dex n F (p ++ [r]) t).natAbs = X at *
    generalize (r n * F (p ++ t) - dex n F (p ++ [r]) t).natAbs = Y at *
    generalize (F (p ++ t)).natAbs = Z at *
    generalize npr n p = P at *
    generalize npr n t = T at *
    generalize npr (n + 1) t = T' at *
    generalize (r n).natAbs = u at *
    generalize nsz n r = w at *
    have e1 : u * (P * T) = P * u * T := by grind
    have e2 : P * (w * T) = P * w * T := by grind
    have e3 : P * ((w + u) * T') = P * w * T' + P * u * T' := by grind
    omega
theorem dt_bd : ∀ (n : Nat) (L : List Pl), (dt n L).natAbs ≤ npr n L
  | 0, [] => by simp [dt, npr]
  | 0, _ :: _ => by simp [dt]
  | n + 1, L => by
    have := dex_bd (n := n) (F := dt n) (fun L => dt_bd n L) L []
    simp only [npr, Nat.one_mul] at this
    simp only [dt]; omega
/-- the first column is a sum -/
theorem dex_c0 {I : Type} {n : Nat} {F : List Pl → Int} {c : Int} {Z R S : I → Pl} (h1 : ∀ i, Z i n = R i n ∧ Z i n = S i n)
    (hF : ∀ l : List I, F (l.map Z) = c * F (l.map R) + F (l.map S)) :
    ∀ (l p : List I), dex n F (p.map Z) (l.map Z) = c * dex n F (p.map R) (l.map R) + dex n F (p.map S) (l.map S)
  | [], p => by simp [dex]
  | i :: l, p => by
    have h2 := dex_c0 h1 hF l (p ++ [i])
    have h3 := hF (p ++ l)
    obtain ⟨h4, h5⟩ := h1 i
    simp only [List.map_cons, List.map_append, List.map_nil, dex] at *
    rw [h2, h3, ← h4, ← h5]; grind
theorem dex_c00 {I : Type} {c : Int} {Z R S : I → Pl} (h1 : ∀ i, Z i 0 = c * R i 0 + S i 0) :
    ∀ (l p : List I), dex 0 (dt 0) (p.map Z) (l.map Z) = c * dex 0 (dt 0) (p.map R) (l.map R) + dex 0 (dt 0) (p.map S) (l.map S)
  | [], p => by simp [dex]
  | i :: l, p => by
    have h2 := dex_c00 h1 l (p ++ [i])
    have h4 := h1 i
    have hd : ∀ Q : I → Pl, dt 0 ((p ++ l).map Q) = if p ++ l = [] then 1 else 0 := by
      intro Q
      cases hq : p ++ l <;> simp [dt]
    simp only [List.map_cons, List.map_append, List.map_nil, dex] at *
    rw [h2, hd Z, hd R, hd S, h4]; grind
theorem dt_c0 {I : Type} {c : Int} {Z R S : I → Pl} (h0 : ∀ i, Z i 0 = c * R i 0 + S i 0) (h1 : ∀ i k, Z i (k + 1) = R i (k + 1) ∧ Z i (k + 1) = S i (k + 1)) :
    ∀ (n : Nat) (l : List I), dt (n + 1) (l.map Z) = c * dt (n + 1) (l.map R) + dt (n + 1) (l.map S)
  | 0, l => dex_c00 h0 l []
  | n + 1, l => dex_c0 (fun i => h1 i n) (fun l => dt_c0 h0 h1 n l) l []
