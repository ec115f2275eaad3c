/-! ===== what is left, step by step ===== -/
/-- m steps of taking the highest number off -/
def prs (b : Int) (B : Pl) (dB : Nat) (A : Pl) (dA : Nat) : Nat → Pl
  | 0 => A
  | m + 1 => pad (psc b (prs b B dB A dA m)) (psc (- prs b B dB A dA m (dA - m)) (shf (dA - m - dB) B))
def prq (b : Int) (B : Pl) (dB : Nat) (A : Pl) (dA : Nat) : Nat → Nat → Int
  | 0, _ => 0
  | m + 1, t => b * prq b B dB A dA m t + (if t = dA - m - dB then prs b B dB A dA m (dA - m) else 0)
theorem shf_shf (i t : Nat) (f : Pl) : shf i (shf t f) = shf (i + t) f := by
  refine pl_ext (fun n => ?_)
  simp only [shf]
  by_cases h1 : n < i
  · have h2 : n < i + t := by omega
    simp [h1, h2]
  · by_cases h2 : n - i < t
    · have h3 : n < i + t := by omega
      simp [h1, h2, h3]
    · have h3 : ¬ n < i + t := by omega
      have h4 : n - i - t = n - (i + t) := by omega
      simp [h1, h2, h3, h4]
theorem shf_lin (i : Nat) (c : Int) (f g : Pl) : shf i (pad (psc c f) g) = pad (psc c (shf i f)) (shf i g) := by
  refine pl_ext (fun n => ?_)
  simp only [shf, pad, psc]
  split <;> simp
theorem shf_z (i : Nat) : shf i pz = pz := pl_ext (fun n => by simp [shf, pz])
theorem shf_0 (f : Pl) : shf 0 f = f := pl_ext (fun n => by simp [shf])
theorem cmb_shf (q : Nat → Int) (B : Pl) (i : Nat) : ∀ k, shf i (cmb q B 0 k) = cmb q B i k
  | 0 => shf_z i
  | k + 1 => by
    simp only [cmb]
    rw [shf_lin, cmb_shf q B i k, shf_shf, Nat.zero_add]
theorem dvr_of {β s : Int} {A C B : Pl} {q : Nat → Int} {δ : Nat} (h : psc β A = pad (psc s C) (cmb q B 0 (δ + 1))) : dvr β A s C q δ B := by
  intro i
  have h1 : ∀ (c : Int) (f : Pl), shf i (psc c f) = psc c (shf i f) := fun c f => by
    have e : psc c f = pad (psc c f) pz := pl_ext (fun k => by simp [pad, pz])
    rw [e, shf_lin, shf_z]
    exact pl_ext (fun k => by simp [pad, pz])
  rw [← h1, h, shf_lin, cmb_shf]
theorem cmb_lin (b r : Int) (t : Nat) (q : Nat → Int) (B : Pl) : ∀ k, cmb (fun s => b * q s + (if s = t then r else 0)) B 0 k = pad (psc b (cmb q B 0 k)) (if t < k then psc r (shf t B) else pz)
  | 0 => by simp only [cmb]; exact pl_ext (fun n => by simp [pad, psc, pz])
  | k + 1 => by
    simp only [cmb, cmb_lin b r t q B k, Nat.zero_add]
    by_cases h1 : t = k
    · subst h1
      have h2 : ¬ t < t := by omega
      have h3 : t < t + 1 := by omega
      simp only [h2, h3, if_true, if_false]
      exact pl_ext (fun n => by simp only [pad, psc, pz]; grind)
    · by_cases h2 : t < k
      · have h3 : t < k + 1 := by omega
        have h4 : ¬ k = t := by omega
        simp only [h2, h3, h4, if_true, if_false]
        exact pl_ext (fun n => by simp only [pad, psc]; grind)
      · have h3 : ¬ t < k + 1 := by omega
        have h4 : ¬ k = t := by omega
        simp only [h2, h3, h4, if_false]
        exact pl_ext (fun n => by simp only [pad, psc, pz]; grind)
theorem prs_eq {b : Int} {B : Pl} {dB : Nat} {A : Pl} {dA : Nat} (hd : dB ≤ dA) : ∀ m, m ≤ dA - dB + 1 →
    psc (b ^ m) A = pad (psc 1 (prs b B dB A dA m)) (cmb (prq b B dB A dA m) B 0 (dA - dB + 1))
  | 0, _ => by
    have h0 : ∀ k, cmb (prq b B dB A dA 0) B 0 k = pz := by
      intro k
      induction k with
      | zero => rfl
      | succ k ih =>
        show pad (psc (prq b B dB A dA 0 k) (shf (0 + k) B)) (cmb (prq b B dB A dA 0) B 0 k) = pz
        rw [ih]
        exact pl_ext (fun n => by simp [pad, psc, pz, prq])
    rw [h0]
    exact pl_ext (fun n => by simp [pad, psc, pz, prs])
  | m + 1, hm => by
    have ih := prs_eq (b := b) (B := B) (A := A) hd m (by omega)
    have h1 : cmb (prq b B dB A dA (m + 1)) B 0 (dA - dB + 1) = _ := cmb_lin b (prs b B dB A dA m (dA - m)) (dA - m - dB) (prq b B dB A dA m) B (dA - dB + 1)
    have h2 : dA - m - dB < dA - dB + 1 := by omega
    rw [h1]
    simp only [h2, if_true]
    refine pl_ext (fun n => ?_)
    have h3 := congrFun ih n
    simp only [prs, pad, psc] at h3 ⊢
    rw [Int.pow_succ]
    grind
theorem prs_hi {b : Int} {B : Pl} {dB : Nat} {A : Pl} {dA : Nat} (hd : dB ≤ dA) (hb : b = B dB) (hA : ∀ t, dA < t → A t = 0) (hB : ∀ t, dB < t → B t = 0) : ∀ m, m ≤ dA - dB + 1 →
    ∀ t, dA < t + m → prs b B dB A dA m t = 0
  | 0, _, t, ht => hA t (by omega)
  | m + 1, hm, t, ht => by
    have ih := prs_hi hd hb hA hB m (by omega)
    simp only [prs, pad, psc, shf]
    by_cases h1 : t = dA - m
    · subst h1
      have h2 : ¬ dA - m < dA - m - dB := by omega
      have h3 : dA - m - (dA - m - dB) = dB := by omega
      simp only [h2, if_false, h3, ← hb]
      grind
    · rw [ih t (by omega)]
      have h2 : ¬ t < dA - m - dB := by omega
      simp only [h2, if_false]
      rw [hB _ (by omega)]; omega
