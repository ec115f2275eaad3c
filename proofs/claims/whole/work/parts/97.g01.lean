/-! ===== a text, read: pure ===== -/
def nE (b : Nat → Nat) : Nat → Nat → Nat
  | 0, p => p
  | m + 1, p => if 48 ≤ b p ∧ b p ≤ 57 then nE b m (p + 1) else p
def sk (b : Nat → Nat) : Nat → Nat → Nat
  | 0, p => p
  | m + 1, p => if b p = 32 ∨ b p = 10 then sk b m (p + 1) else p
theorem nE_rg (b : Nat → Nat) : ∀ m p, p ≤ nE b m p ∧ nE b m p ≤ p + m
  | 0, p => ⟨Nat.le_refl _, Nat.le_refl _⟩
  | m + 1, p => by
    have := nE_rg b m (p + 1)
    simp only [nE]
    split <;> omega
theorem nE_dg (b : Nat → Nat) : ∀ m p i, p ≤ i → i < nE b m p → 48 ≤ b i ∧ b i ≤ 57
  | 0, p, i, h1, h2 => by simp only [nE] at h2; omega
  | m + 1, p, i, h1, h2 => by
    simp only [nE] at h2
    by_cases h : 48 ≤ b p ∧ b p ≤ 57
    · rw [if_pos h] at h2
      by_cases hi : i = p
      · subst hi; exact h
      · exact nE_dg b m (p + 1) i (by omega) h2
    · rw [if_neg h] at h2
      omega
theorem sk_rg (b : Nat → Nat) : ∀ m p, p ≤ sk b m p ∧ sk b m p ≤ p + m
  | 0, p => ⟨Nat.le_refl _, Nat.le_refl _⟩
  | m + 1, p => by
    have := sk_rg b m (p + 1)
    simp only [sk]
    split <;> omega
theorem sk_st (b : Nat → Nat) : ∀ m p, sk b m p < p + m → ¬ (b (sk b m p) = 32 ∨ b (sk b m p) = 10)
  | 0, p, h => by simp only [sk] at h; omega
  | m + 1, p, h => by
    simp only [sk] at h ⊢
    by_cases hb : b p = 32 ∨ b p = 10
    · rw [if_pos hb] at h ⊢
      exact sk_st b m (p + 1) (by omega)
    · rw [if_neg hb]
      exact hb
theorem sk_at {b : Nat → Nat} {m p : Nat} (h : ¬ (b p = 32 ∨ b p = 10)) : sk b m p = p := by
  cases m with
  | zero => rfl
  | succ m => simp only [sk]; rw [if_neg h]
def vC (b : Nat → Nat) : Nat → Nat → Int → Int
  | 0, _, v => v
  | m + 1, p, v => vC b m (p + 1) (if 100000001 < v * 10 + (b p : Int) - 48 then 100000001 else v * 10 + (b p : Int) - 48)
def vM (b : Nat → Nat) : Nat → Nat → Int → Int
  | 0, _, v => v
  | m + 1, p, v => vM b m (p + 1) (if 100000000 < v then v else 10 * v + (b p : Int) - 48)
theorem vCM {b : Nat → Nat} : ∀ (m p : Nat) (c v : Int), (∀ i, p ≤ i → i < p + m → 48 ≤ b i ∧ b i ≤ 57) → 0 ≤ v → v ≤ 1000000009 → c = (if 100000001 < v then 100000001 else v) → vC b m p c = (if 100000001 < vM b m p v then 100000001 else vM b m p v) ∧ 0 ≤ vM b m p v ∧ vM b m p v ≤ 1000000009
  | 0, p, c, v, _, h0, h9, hc => ⟨hc, h0, h9⟩
  | m + 1, p, c, v, hd, h0, h9, hc => by
    have d := hd p (Nat.le_refl _) (by omega)
    simp only [vC, vM]
    refine vCM m (p + 1) _ _ (fun i h1 h2 => hd i (by omega) (by omega)) ?_ ?_ ?_
    · split <;> omega
    · split <;> omega
    · rw [hc]
      by_cases h1 : 100000000 < v
      · rw [if_pos h1]
        by_cases h2 : 100000001 < v
        · rw [if_pos h2, if_pos (by omega)]
        · rw [if_neg h2, if_pos (by omega)]
          omega
      · rw [if_neg h1, if_neg (by omega : ¬ 100000001 < v), show v * 10 = 10 * v by omega]
def zzG : Nat → Int := fun _ => 0
def adT (G : Nat → Int) (m : Bool) (f : Int) (k : Nat) : Nat → Int := fun j => if j = k then G j + (if m = true then -f else f) else G j
/-- a step of the reader; X: what follows -/
def cpB (X : Nat → Nat → Bool → Int → Nat → (Nat → Int) → Nat × (Nat → Int)) (b : Nat → Nat) (n p s : Nat) (m : Bool) (f : Int) (k : Nat) (G : Nat → Int) : Nat × (Nat → Int) :=
  if n ≤ p then (if s = 2 ∨ s = 3 ∨ s = 5 then (0, adT G m f k) else (1 + 8 * n, zzG)) else
  if 48 ≤ b p ∧ b p ≤ 57 then
    (if s = 0 ∨ s = 1 then (if vC b (nE b (n - p) p - p) p 0 ≤ 100000000 then X (nE b (n - p) p) 2 m (vC b (nE b (n - p) p - p) p 0) k G else (2 + 8 * p, zzG)) else
     if s = 4 then (if vC b (nE b (n - p) p - p) p 0 ≤ 8 then X (nE b (n - p) p) 5 m f (vC b (nE b (n - p) p - p) p 0).toNat G else (2 + 8 * p, zzG)) else (1 + 8 * p, zzG)) else
  if b p = 32 ∨ b p = 10 then X (p + 1) s m f k G else
  if b p = 120 ∧ s ≤ 2 then X (p + 1) 3 m f 1 G else
  if b p = 94 ∧ s = 3 then X (p + 1) 4 m f k G else
  if b p = 45 ∧ s = 0 then X (p + 1) 1 true 1 0 G else
  if (b p = 43 ∨ b p = 45) ∧ (s = 2 ∨ s = 3 ∨ s = 5) then X (p + 1) 1 (decide (b p = 45)) 1 0 (adT G m f k) else
  (1 + 8 * p, zzG)
theorem nE_1 {b : Nat → Nat} {n p : Nat} (hp : p < n) (h : 48 ≤ b p ∧ b p ≤ 57) : p + 1 ≤ nE b (n - p) p ∧ nE b (n - p) p ≤ n := by
  obtain ⟨m, hm⟩ : ∃ m, n - p = m + 1 := ⟨n - p - 1, by omega⟩
  have := nE_rg b m (p + 1)
  rw [hm]
  simp only [nE]
  rw [if_pos h]
  omega
theorem cpB_c {X Y : Nat → Nat → Bool → Int → Nat → (Nat → Int) → Nat × (Nat → Int)} {b : Nat → Nat} {n p : Nat} (h : ∀ p', p < p' → p' ≤ n → ∀ s m f k G, X p' s m f k G = Y p' s m f k G) (s : Nat) (m : Bool) (f : Int) (k : Nat) (G : Nat → Int) : cpB X b n p s m f k G = cpB Y b n p s m f k G := by
  unfold cpB
  by_cases h1 : n ≤ p
  · rw [if_pos h1, if_pos h1]
  rw [if_neg h1, if_neg h1]
  have g := h (p + 1) (by omega) (by omega)
  by_cases h2 : 48 ≤ b p ∧ b p ≤ 57
  · have e := nE_1 (show p < n by omega) h2
    have g2 := h (nE b (n - p) p) (by omega) e.2
    rw [if_pos h2, if_pos h2, g2, g2]
  rw [if_neg h2, if_neg h2, g, g, g, g, g]
def cp (b : Nat → Nat) (n : Nat) : Nat → Nat → Nat → Bool → Int → Nat → (Nat → Int) → Nat × (Nat → Int)
  | 0 => fun _ _ _ _ _ _ => (0, zzG)
  | fl + 1 => cpB (cp b n fl) b n
theorem cp_f {b : Nat → Nat} {n : Nat} : ∀ (fl fl' p : Nat), n - p < fl → n - p < fl' → ∀ s m f k G, cp b n fl p s m f k G = cp b n fl' p s m f k G
  | 0, fl', p, h1, _ => by omega
  | fl + 1, 0, p, _, h2 => by omega
  | fl + 1, fl' + 1, p, h1, h2 => fun s m f k G => by
    show cpB (cp b n fl) b n p s m f k G = cpB (cp b n fl') b n p s m f k G
    exact cpB_c (fun p' h3 h4 => cp_f fl fl' p' (by omega) (by omega)) s m f k G
def CP (b : Nat → Nat) (n : Nat) : Nat → Nat → Bool → Int → Nat → (Nat → Int) → Nat × (Nat → Int) := cp b n (n + 1)
theorem CP_u (b : Nat → Nat) (n p s : Nat) (m : Bool) (f : Int) (k : Nat) (G : Nat → Int) : CP b n p s m f k G = cpB (CP b n) b n p s m f k G := by
  show cpB (cp b n n) b n p s m f k G = cpB (cp b n (n + 1)) b n p s m f k G
  exact cpB_c (fun p' h3 h4 => cp_f n (n + 1) p' (by omega) (by omega)) s m f k G
section CPS
variable {b : Nat → Nat} {n p s : Nat} {m : Bool} {f : Int} {k : Nat} {G : Nat → Int}
theorem CP_bl (hp : p < n) (h : b p = 32 ∨ b p = 10) : CP b n p s m f k G = CP b n (p + 1) s m f k G := by
  rw [CP_u]
  unfold cpB
  rw [if_neg (by omega), if_neg (by omega), if_pos h]
theorem CP_sk : ∀ (d p : Nat), n - p = d → p ≤ n → CP b n p s m f k G = CP b n (sk b (n - p) p) s m f k G
  | 0, p, h, _ => by rw [h]; rfl
  | d + 1, p, h, hp => by
    rw [h]
    simp only [sk]
    by_cases hb : b p = 32 ∨ b p = 10
    · rw [if_pos hb, CP_bl (by omega) hb, CP_sk d (p + 1) (by omega) (by omega), show n - (p + 1) = d by omega]
    · rw [if_neg hb]
theorem CP_end : CP b n n s m f k G = (if s = 2 ∨ s = 3 ∨ s = 5 then (0, adT G m f k) else (1 + 8 * n, zzG)) := by
  rw [CP_u]
  unfold cpB
  rw [if_pos (Nat.le_refl _)]
end CPS
/-- what follows behind a whole term -/
def WP (b : Nat → Nat) (n p : Nat) (G : Nat → Int) : Nat × (Nat → Int) :=
  if n ≤ sk b (n - p) p then (0, G) else
  if b (sk b (n - p) p) = 43 ∨ b (sk b (n - p) p) = 45 then CP b n (sk b (n - p) p + 1) 1 (decide (b (sk b (n - p) p) = 45)) 1 0 G else
  (1 + 8 * sk b (n - p) p, zzG)
section CPT
variable {b : Nat → Nat} {n p : Nat} {m : Bool} {f : Int} {k : Nat} {G : Nat → Int}
theorem sk_q (hp : p ≤ n) : p ≤ sk b (n - p) p ∧ sk b (n - p) p ≤ n ∧ (sk b (n - p) p < n → ¬ (b (sk b (n - p) p) = 32 ∨ b (sk b (n - p) p) = 10)) := by
  have := sk_rg b (n - p) p
  exact ⟨this.1, by omega, fun h => sk_st b (n - p) p (by omega)⟩
theorem CP_5 (hp : p ≤ n) : CP b n p 5 m f k G = WP b n p (adT G m f k) := by
  obtain ⟨q1, q2, q3⟩ := sk_q (b := b) hp
  rw [CP_sk _ p rfl hp]
  unfold WP
  generalize sk b (n - p) p = q at *
  by_cases hq : n ≤ q
  · have : q = n := by omega
    subst this
    rw [if_pos (Nat.le_refl _), CP_end, if_pos (by omega)]
  rw [if_neg hq, CP_u]
  unfold cpB
  rw [if_neg hq]
  have h3 := q3 (by omega)
  by_cases hd : 48 ≤ b q ∧ b q ≤ 57
  · rw [if_pos hd, if_neg (by omega), if_neg (by omega), if_neg (by omega)]
  rw [if_neg hd, if_neg h3, if_neg (by omega), if_neg (by omega), if_neg (by omega)]
  by_cases hs : b q = 43 ∨ b q = 45
  · rw [if_pos ⟨hs, by omega⟩, if_pos hs]
  · rw [if_neg (fun h => hs h.1), if_neg hs]
theorem CP_3 (hp : p ≤ n) : (sk b (n - p) p < n ∧ b (sk b (n - p) p) = 94 → CP b n p 3 m f k G = CP b n (sk b (n - p) p + 1) 4 m f k G) ∧ (¬ (sk b (n - p) p < n ∧ b (sk b (n - p) p) = 94) → CP b n p 3 m f k G = WP b n p (adT G m f k)) := by
  obtain ⟨q1, q2, q3⟩ := sk_q (b := b) hp
  rw [CP_sk _ p rfl hp]
  unfold WP
  generalize sk b (n - p) p = q at *
  constructor
  · rintro ⟨h1, h2⟩
    have h3 := q3 h1
    rw [CP_u]
    unfold cpB
    rw [if_neg (by omega), if_neg (by omega), if_neg h3, if_neg (by omega), if_pos ⟨h2, rfl⟩]
  · intro hn
    by_cases hq : n ≤ q
    · have : q = n := by omega
      subst this
      rw [if_pos (Nat.le_refl _), CP_end, if_pos (by omega)]
    rw [if_neg hq, CP_u]
    unfold cpB
    rw [if_neg hq]
    have h3 := q3 (by omega)
    by_cases hd : 48 ≤ b q ∧ b q ≤ 57
    · rw [if_pos hd, if_neg (by omega), if_neg (by omega), if_neg (by omega)]
    rw [if_neg hd, if_neg h3, if_neg (by omega), if_neg (by omega), if_neg (by omega)]
    by_cases hs : b q = 43 ∨ b q = 45
    · rw [if_pos ⟨hs, by omega⟩, if_pos hs]
    · rw [if_neg (fun h => hs h.1), if_neg hs]
theorem CP_2 (hp : p ≤ n) : (sk b (n - p) p < n ∧ b (sk b (n - p) p) = 120 → CP b n p 2 m f k G = CP b n (sk b (n - p) p + 1) 3 m f 1 G) ∧ (¬ (sk b (n - p) p < n ∧ b (sk b (n - p) p) = 120) → CP b n p 2 m f k G = WP b n p (adT G m f k)) := by
  obtain ⟨q1, q2, q3⟩ := sk_q (b := b) hp
  rw [CP_sk _ p rfl hp]
  unfold WP
  generalize sk b (n - p) p = q at *
  constructor
  · rintro ⟨h1, h2⟩
    have h3 := q3 h1
    rw [CP_u]
    unfold cpB
    rw [if_neg (by omega), if_neg (by omega), if_neg h3, if_pos ⟨h2, by omega⟩]
  · intro hn
    by_cases hq : n ≤ q
    · have : q = n := by omega
      subst this
      rw [if_pos (Nat.le_refl _), CP_end, if_pos (by omega)]
    rw [if_neg hq, CP_u]
    unfold cpB
    rw [if_neg hq]
    have h3 := q3 (by omega)
    by_cases hd : 48 ≤ b q ∧ b q ≤ 57
    · rw [if_pos hd, if_neg (by omega), if_neg (by omega), if_neg (by omega)]
    rw [if_neg hd, if_neg h3, if_neg (by omega), if_neg (by omega), if_neg (by omega)]
    by_cases hs : b q = 43 ∨ b q = 45
    · rw [if_pos ⟨hs, by omega⟩, if_pos hs]
    · rw [if_neg (fun h => hs h.1), if_neg hs]
theorem CP_4 (hp : p ≤ n) : (¬ (sk b (n - p) p < n ∧ 48 ≤ b (sk b (n - p) p) ∧ b (sk b (n - p) p) ≤ 57) → CP b n p 4 m f k G = (1 + 8 * sk b (n - p) p, zzG)) ∧ (∀ q, q = sk b (n - p) p → q < n → 48 ≤ b q ∧ b q ≤ 57 → CP b n p 4 m f k G = (if vC b (nE b (n - q) q - q) q 0 ≤ 8 then CP b n (nE b (n - q) q) 5 m f (vC b (nE b (n - q) q - q) q 0).toNat G else (2 + 8 * q, zzG))) := by
  obtain ⟨q1, q2, q3⟩ := sk_q (b := b) hp
  rw [CP_sk _ p rfl hp]
  generalize sk b (n - p) p = q at *
  constructor
  · intro hn
    by_cases hq : n ≤ q
    · have : q = n := by omega
      subst this
      rw [CP_end, if_neg (by omega)]
    rw [CP_u]
    unfold cpB
    have h3 := q3 (by omega)
    rw [if_neg hq, if_neg (by omega), if_neg h3, if_neg (by omega), if_neg (by omega), if_neg (by omega), if_neg (by omega)]
  · intro q' e h1 h2
    subst e
    rw [CP_u]
    unfold cpB
    rw [if_neg (by omega), if_pos h2, if_neg (by omega), if_pos rfl]
theorem CP_1 (hp : p ≤ n) : (¬ (sk b (n - p) p < n ∧ ((48 ≤ b (sk b (n - p) p) ∧ b (sk b (n - p) p) ≤ 57) ∨ b (sk b (n - p) p) = 120)) → CP b n p 1 m f k G = (1 + 8 * sk b (n - p) p, zzG)) ∧ (∀ q, q = sk b (n - p) p → q < n → b q = 120 → CP b n p 1 m f k G = CP b n (q + 1) 3 m f 1 G) ∧ (∀ q, q = sk b (n - p) p → q < n → 48 ≤ b q ∧ b q ≤ 57 → CP b n p 1 m f k G = (if vC b (nE b (n - q) q - q) q 0 ≤ 100000000 then CP b n (nE b (n - q) q) 2 m (vC b (nE b (n - q) q - q) q 0) k G else (2 + 8 * q, zzG))) := by
  obtain ⟨q1, q2, q3⟩ := sk_q (b := b) hp
  rw [CP_sk _ p rfl hp]
  generalize sk b (n - p) p = q at *
  refine ⟨?_, ?_, ?_⟩
  · intro hn
    by_cases hq : n ≤ q
    · have : q = n := by omega
      subst this
      rw [CP_end, if_neg (by omega)]
    rw [CP_u]
    unfold cpB
    have h3 := q3 (by omega)
    rw [if_neg hq, if_neg (by omega), if_neg h3, if_neg (by omega), if_neg (by omega), if_neg (by omega), if_neg (by omega)]
  · intro q' e h1 h2
    subst e
    rw [CP_u]
    unfold cpB
    rw [if_neg (by omega), if_neg (by omega), if_neg (by omega), if_pos ⟨h2, by omega⟩]
  · intro q' e h1 h2
    subst e
    rw [CP_u]
    unfold cpB
    rw [if_neg (by omega), if_pos h2, if_pos (by omega)]
theorem CP_0 (hp : p ≤ n) : (sk b (n - p) p < n ∧ b (sk b (n - p) p) = 45 → CP b n p 0 m f k G = CP b n (sk b (n - p) p + 1) 1 true 1 0 G) ∧ (¬ (sk b (n - p) p < n ∧ b (sk b (n - p) p) = 45) → CP b n p 0 m f k G = CP b n p 1 m f k G) := by
  obtain ⟨q1, q2, q3⟩ := sk_q (b := b) hp
  rw [CP_sk (s := 0) _ p rfl hp, CP_sk (s := 1) _ p rfl hp]
  generalize sk b (n - p) p = q at *
  constructor
  · rintro ⟨h1, h2⟩
    rw [CP_u]
    unfold cpB
    rw [if_neg (by omega), if_neg (by omega), if_neg (by omega), if_neg (by omega), if_neg (by omega), if_pos ⟨h2, rfl⟩]
  · intro hn
    by_cases hq : n ≤ q
    · have : q = n := by omega
      subst this
      rw [CP_end, CP_end, if_neg (by omega), if_neg (by omega)]
    rw [CP_u, CP_u b n q 1]
    unfold cpB
    have h3 := q3 (by omega)
    rw [if_neg hq, if_neg hq]
    by_cases hd : 48 ≤ b q ∧ b q ≤ 57
    · rw [if_pos hd, if_pos hd, if_pos (show (0 : Nat) = 0 ∨ (0 : Nat) = 1 by omega), if_pos (show (1 : Nat) = 0 ∨ (1 : Nat) = 1 by omega)]
    rw [if_neg hd, if_neg hd, if_neg h3, if_neg h3]
    by_cases hx : b q = 120
    · rw [if_pos ⟨hx, by omega⟩, if_pos ⟨hx, by omega⟩]
    rw [if_neg (by omega), if_neg (by omega), if_neg (by omega), if_neg (by omega), if_neg (by omega), if_neg (by omega), if_neg (by omega), if_neg (by omega)]
end CPT
