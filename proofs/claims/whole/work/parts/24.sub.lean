/-! ===== subresultants ===== -/
/-- x^i f -/
def shf (i : Nat) (f : Pl) : Pl := fun n => if n < i then 0 else f (n - i)
/-- a row: a linear reading of the polynomial, then its numbers above power j -/
def rwp (φ : Pl → Int) (j : Nat) (f : Pl) : Pl := fun c => if c = 0 then φ f else f (j + c)
def rws (φ : Pl → Int) (j : Nat) (f : Pl) (a : Nat) : List Pl := (List.range a).map (fun i => rwp φ j (shf i f))
def lnf (φ : Pl → Int) : Prop := ∀ c f g, φ (pad (psc c f) g) = c * φ f + φ g
def sbr (φ : Pl → Int) (j : Nat) (A : Pl) (a : Nat) (B : Pl) (b : Nat) : Nat := (dt (a + b) (rws φ j A a ++ rws φ j B b)).natAbs
theorem lnf_z {φ : Pl → Int} (h : lnf φ) : φ pz = 0 := by
  have := h (-1) pz pz
  have e : pad (psc (-1) pz) pz = pz := pl_ext (fun k => by simp [pad, psc, pz])
  rw [e] at this; omega
theorem lnf_sc {φ : Pl → Int} (h : lnf φ) (c : Int) (f : Pl) : φ (psc c f) = c * φ f := by
  have := h c f pz
  have e : pad (psc c f) pz = psc c f := pl_ext (fun k => by simp [pad, pz])
  rw [e, lnf_z h] at this; omega
theorem rwp_lin {φ : Pl → Int} (h : lnf φ) (j : Nat) (c : Int) (f g : Pl) : rwp φ j (pad (psc c f) g) = pad (psc c (rwp φ j f)) (rwp φ j g) := by
  refine pl_ext (fun k => ?_)
  simp only [rwp, pad, psc]
  split
  · exact h c f g
  · rfl
theorem rwp_z {φ : Pl → Int} (h : lnf φ) (j : Nat) : rwp φ j pz = pz := by
  refine pl_ext (fun k => ?_)
  simp only [rwp, lnf_z h]
  simp [pz]
theorem rws_succ (φ : Pl → Int) (j : Nat) (f : Pl) (a : Nat) : rws φ j f (a + 1) = rws φ j f a ++ [rwp φ j (shf a f)] := by
  simp [rws, List.range_succ]
theorem rws_mem (φ : Pl → Int) (j : Nat) (f : Pl) {a i : Nat} (h : i < a) : rwp φ j (shf i f) ∈ rws φ j f a :=
  List.mem_map.mpr ⟨i, List.mem_range.mpr h, rfl⟩
/-- q0 x^i B + .. + q(k-1) x^(i+k-1) B -/
def cmb (q : Nat → Int) (B : Pl) (i : Nat) : Nat → Pl
  | 0 => pz
  | k + 1 => pad (psc (q k) (shf (i + k) B)) (cmb q B i k)
theorem dt_cmb {φ : Pl → Int} (h : lnf φ) {n j : Nat} (hn : 0 < n) {q : Nat → Int} {B : Pl} {i : Nat} {L : List Pl} :
    ∀ (k : Nat), (∀ t, t < k → rwp φ j (shf (i + t) B) ∈ L) → dt n (rwp φ j (cmb q B i k) :: L) = 0
  | 0, _ => by
    show dt n (rwp φ j pz :: L) = 0
    rw [rwp_z h]
    have e : pz = psc 0 pz := pl_ext (fun k => by simp [psc, pz])
    rw [e, dt_psc hn]; omega
  | k + 1, hm => by
    simp only [cmb]
    rw [rwp_lin h, dt_lin n _ _ _ _ hn, dt_mem (hm k (by omega)), dt_cmb h hn k (fun t ht => hm t (by omega))]; omega
/-- b A = s C + q B, row by row -/
def dvr (β : Int) (A : Pl) (s : Int) (C : Pl) (q : Nat → Int) (δ : Nat) (B : Pl) : Prop :=
  ∀ i, psc β (shf i A) = pad (psc s (shf i C)) (cmb q B i (δ + 1))
theorem sub_rows {φ : Pl → Int} (h : lnf φ) {n j : Nat} (hn : 0 < n) {β s : Int} {A C B : Pl} {q : Nat → Int} {δ : Nat} (hd : dvr β A s C q δ B) :
    ∀ (a : Nat) (L : List Pl), (∀ t, t < a + δ → rwp φ j (shf t B) ∈ L) →
      β.natAbs ^ a * (dt n (rws φ j A a ++ L)).natAbs = s.natAbs ^ a * (dt n (rws φ j C a ++ L)).natAbs
  | 0, L, _ => by simp [rws]
  | a + 1, L, hm => by
    have p1 : (rws φ j A (a + 1) ++ L).Perm (rwp φ j (shf a A) :: (rws φ j A a ++ L)) := by
      rw [rws_succ, List.append_assoc]
      exact List.perm_middle
    have p2 : (rws φ j C (a + 1) ++ L).Perm (rws φ j C a ++ (rwp φ j (shf a C) :: L)) := by
      rw [rws_succ, List.append_assoc]
      exact List.Perm.refl _
    have p3 : (rwp φ j (shf a C) :: (rws φ j A a ++ L)).Perm (rws φ j A a ++ (rwp φ j (shf a C) :: L)) := List.perm_middle.symm
    rw [dt_perm p1, dt_perm p2]
    have e1 : β * dt n (rwp φ j (shf a A) :: (rws φ j A a ++ L)) = s * dt n (rwp φ j (shf a C) :: (rws φ j A a ++ L)) := by
      rw [← dt_psc hn]
      have e : psc β (rwp φ j (shf a A)) = rwp φ j (psc β (shf a A)) := by
        have e0 : psc β (shf a A) = pad (psc β (shf a A)) pz := pl_ext (fun k => by simp [pad, pz])
        rw [e0, rwp_lin h, rwp_z h]
        exact pl_ext (fun k => by simp [pad, pz])
      rw [e, hd a, rwp_lin h, dt_lin n _ _ _ _ hn, dt_cmb h hn (δ + 1)]
      · omega
      · intro t ht
        exact List.mem_append_right _ (hm (a + t) (by omega))
    have e2 := congrArg Int.natAbs e1
    simp only [Int.natAbs_mul] at e2
    have e3 := sub_rows h hn hd a (rwp φ j (shf a C) :: L) (fun t ht => List.mem_cons_of_mem _ (hm t (by omega)))
    rw [dt_perm p3] at e2
    rw [Nat.pow_succ, Nat.pow_succ, Nat.mul_assoc, e2, Nat.mul_assoc]
    rw [← Nat.mul_assoc, Nat.mul_comm (β.natAbs ^ a), Nat.mul_assoc, e3]
    grind
theorem rw_top {φ : Pl → Int} {j : Nat} {f : Pl} {i c e : Nat} (hf : ∀ k, e < k → f k = 0) (hc : 0 < c) (hk : e + i < j + c) : rwp φ j (shf i f) c = 0 := by
  simp only [rwp, shf]
  have h1 : c ≠ 0 := by omega
  simp only [h1, if_false]
  split
  · rfl
  · exact hf _ (by omega)
/-- the rows of B that stand alone in the highest column are taken out -/
theorem sub_red {φ : Pl → Int} {j n e : Nat} {B C : Pl} {a : Nat} (hB : ∀ k, n < k → B k = 0) (hC : ∀ k, e < k → C k = 0) (hn : n = j + a) (hj : j ≤ e) :
    ∀ (u : Nat), (0 < a ∨ 0 < e - j) → (dt (a + (e - j + u)) (rws φ j C a ++ rws φ j B (e - j + u))).natAbs = (B n).natAbs ^ u * (dt (a + (e - j)) (rws φ j C a ++ rws φ j B (e - j))).natAbs
  | 0, _ => by simp
  | u + 1, h => by
    have ih := sub_red (φ := φ) hB hC hn hj u h
    have p1 : (rws φ j C a ++ rws φ j B (e - j + u + 1)).Perm (rwp φ j (shf (e - j + u) B) :: (rws φ j C a ++ rws φ j B (e - j + u))) := by
      rw [rws_succ, ← List.append_assoc]
      exact List.perm_append_comm (l₂ := [_])
    have e1 : a + (e - j + (u + 1)) = (a + (e - j + u)) + 1 := by omega
    rw [show e - j + (u + 1) = e - j + u + 1 from rfl, ← Nat.add_assoc, dt_perm p1, dt_top]
    · rw [Int.natAbs_mul, ih, Nat.pow_succ]
      have e2 : rwp φ j (shf (e - j + u) B) (a + (e - j + u)) = B n := by
        simp only [rwp, shf]
        have h1 : a + (e - j + u) ≠ 0 := by omega
        simp only [h1, if_false]
        have h2 : ¬ (j + (a + (e - j + u)) < e - j + u) := by omega
        simp only [h2, if_false]
        congr 1
        omega
      rw [e2]; grind
    · intro x hx
      rcases List.mem_append.mp hx with hx | hx
      · obtain ⟨i, hi, rfl⟩ := List.mem_map.mp hx
        have hi := List.mem_range.mp hi
        exact rw_top hC (by omega) (by omega)
      · obtain ⟨i, hi, rfl⟩ := List.mem_map.mp hx
        have hi := List.mem_range.mp hi
        exact rw_top hB (by omega) (by omega)
theorem sbr_comm (φ : Pl → Int) (j : Nat) (A : Pl) (a : Nat) (B : Pl) (b : Nat) : sbr φ j A a B b = sbr φ j B b A a := by
  unfold sbr
  rw [Nat.add_comm b a]
  exact dt_perm List.perm_append_comm
/-- one step of the sequence -/
theorem sbr_step {φ : Pl → Int} (h : lnf φ) {j n e δ : Nat} {β s : Int} {A C B : Pl} {q : Nat → Int} (hd : dvr β A s C q δ B)
    (hB : ∀ k, n < k → B k = 0) (hC : ∀ k, e < k → C k = 0) (he : e < n) (hj : j ≤ e) :
    β.natAbs ^ (n - j) * sbr φ j A (n - j) B (n + δ - j) = s.natAbs ^ (n - j) * ((B n).natAbs ^ (n + δ - e) * sbr φ j B (e - j) C (n - j)) := by
  have h1 := sub_rows (φ := φ) (j := j) (n := n - j + (n + δ - j)) h (by omega) hd (n - j) (rws φ j B (n + δ - j)) (fun t ht => rws_mem _ _ _ (by omega))
  have h2 := sub_red (φ := φ) (j := j) (a := n - j) hB hC (by omega) hj (n + δ - e) (by omega)
  have h3 : e - j + (n + δ - e) = n + δ - j := by omega
  rw [h3] at h2
  unfold sbr
  rw [h1, h2]
  have h4 := sbr_comm φ j C (n - j) B (e - j)
  unfold sbr at h4
  rw [h4]
theorem rws_one (φ : Pl → Int) (j : Nat) (f : Pl) : dt 1 (rws φ j f 1) = φ f := by
  have e : shf 0 f = f := pl_ext (fun k => by simp [shf])
  simp [rws, dt, dex, rwp, e, List.range_succ]
/-- the last but one of them is what is left -/
theorem sbr_last {φ : Pl → Int} (h : lnf φ) {n δ : Nat} {β s : Int} {A C B : Pl} {q : Nat → Int} (hd : dvr β A s C q δ B)
    (hB : ∀ k, n < k → B k = 0) (hC : ∀ k, n ≤ k → C k = 0) (hn : 0 < n) :
    β.natAbs * sbr φ (n - 1) A 1 B (δ + 1) = s.natAbs * ((B n).natAbs ^ (δ + 1) * (φ C).natAbs) := by
  have h1 := sbr_step (φ := φ) (j := n - 1) (e := n - 1) h hd hB (fun k hk => hC k (by omega)) (by omega) (by omega)
  have e1 : n - (n - 1) = 1 := by omega
  have e2 : n + δ - (n - 1) = δ + 1 := by omega
  have e3 : n - 1 - (n - 1) = 0 := by omega
  rw [e1, e2, e3, Nat.pow_one, Nat.pow_one] at h1
  have h4 : sbr φ (n - 1) B 0 C 1 = (φ C).natAbs := by
    unfold sbr
    have : rws φ (n - 1) B 0 ++ rws φ (n - 1) C 1 = rws φ (n - 1) C 1 := by simp [rws]
    rw [this]
    exact congrArg Int.natAbs (rws_one φ (n - 1) C)
  rw [h4] at h1
  exact h1
/-- the rows of one alone -/
theorem sbr_own {φ : Pl → Int} {n δ : Nat} {A B : Pl} (hB : ∀ k, n < k → B k = 0) (hδ : 0 < δ) : sbr φ n A 0 B δ = (B n).natAbs ^ (δ - 1) * (φ B).natAbs := by
  have h1 := sub_red (φ := φ) (j := n) (e := n + 1) (a := 0) (B := B) (C := B) hB (fun k hk => hB k (by omega)) (by omega) (by omega) (δ - 1) (by omega)
  have e1 : n + 1 - n + (δ - 1) = δ := by omega
  have e2 : n + 1 - n = 1 := by omega
  rw [e1, e2] at h1
  have e3 : ∀ b, rws φ n B 0 ++ rws φ n B b = rws φ n B b := by intro b; simp [rws]
  have e4 : ∀ b, rws φ n A 0 ++ rws φ n B b = rws φ n B b := by intro b; simp [rws]
  rw [e3, e3] at h1
  unfold sbr
  rw [e4, h1]
  have := rws_one φ n B
  rw [show 0 + 1 = 1 from rfl, this]
