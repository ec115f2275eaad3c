/-! ===== the sequence itself ===== -/
/-- how many numbers there are up to the highest that is not 0 -/
def lnn : Nat → Pl → Nat
  | 0, _ => 0
  | n + 1, f => if f n = 0 then lnn n f else n + 1
def dln (f : Pl) : Nat := lnn 9 f
def dgg (f : Pl) : Nat := dln f - 1
theorem lnn_le : ∀ (n : Nat) (f : Pl), lnn n f ≤ n
  | 0, f => Nat.le_refl _
  | n + 1, f => by
    have := lnn_le n f
    simp only [lnn]
    split <;> omega
theorem lnn_hi : ∀ (n : Nat) (f : Pl) (k : Nat), lnn n f ≤ k → k < n → f k = 0
  | 0, f, k, _, h => by omega
  | n + 1, f, k, h1, h2 => by
    simp only [lnn] at h1
    by_cases h3 : f n = 0
    · rw [if_pos h3] at h1
      by_cases h4 : k = n
      · rw [h4]; exact h3
      · exact lnn_hi n f k h1 (by omega)
    · rw [if_neg h3] at h1; omega
theorem lnn_nz : ∀ (n : Nat) (f : Pl), 0 < lnn n f → f (lnn n f - 1) ≠ 0
  | 0, f, h => by simp [lnn] at h
  | n + 1, f, h => by
    simp only [lnn] at h ⊢
    by_cases h3 : f n = 0
    · rw [if_pos h3] at h ⊢; exact lnn_nz n f h
    · rw [if_neg h3]; simpa using h3
theorem lnn_eq : ∀ (n : Nat) (f : Pl) (d : Nat), d < n → f d ≠ 0 → (∀ k, d < k → k < n → f k = 0) → lnn n f = d + 1
  | 0, f, d, h, _, _ => by omega
  | n + 1, f, d, h, h1, h2 => by
    simp only [lnn]
    by_cases h3 : d = n
    · subst h3; rw [if_neg h1]
    · rw [if_pos (h2 n (by omega) (by omega))]
      exact lnn_eq n f d (by omega) h1 (fun k a b => h2 k a (by omega))
theorem dln_top {f : Pl} (hf : pbd 9 f) (h : 0 < dln f) : dgr f (dgg f) ∧ dgg f < 9 := by
  have h1 := lnn_le 9 f
  refine ⟨⟨lnn_nz 9 f h, fun k hk => ?_⟩, by unfold dgg dln at *; omega⟩
  by_cases h2 : k < 9
  · refine lnn_hi 9 f k ?_ h2
    unfold dgg dln at *; omega
  · exact hf k (by omega)
theorem dln_0 {f : Pl} (hf : pbd 9 f) (h : dln f = 0) : f = pz := pl_ext (fun k => by
  by_cases h2 : k < 9
  · exact lnn_hi 9 f k (by unfold dln at h; omega) h2
  · exact hf k (by omega))
theorem dln_dgr {f : Pl} {d : Nat} (h : dgr f d) (hd : d < 9) : dln f = d + 1 := lnn_eq 9 f d hd h.1 (fun k a _ => h.2 k (by omega))
/-- the remainder of two members -/
def rem2 (a b : Pl) : Pl := prs (b (dgg b)) b (dgg b) a (dgg a) (dgg a - dgg b + 1)
def nxt (s : Pl × Pl × Int × Int) : Pl × Pl × Int × Int :=
  (s.2.1, pdv (rem2 s.1 s.2.1) (s.2.2.1 * s.2.2.2 ^ (dgg s.1 - dgg s.2.1)), s.2.1 (dgg s.2.1),
    if dgg s.1 - dgg s.2.1 = 0 then s.2.2.2 else s.2.1 (dgg s.2.1) ^ (dgg s.1 - dgg s.2.1) / s.2.2.2 ^ (dgg s.1 - dgg s.2.1 - 1))
def cst (p q : Pl) : Nat → Pl × Pl × Int × Int
  | 0 => (p, q, 1, 1)
  | k + 1 => nxt (cst p q k)
def mm (p q : Pl) (k : Nat) : Pl := (cst p q k).1
theorem mm_s (p q : Pl) (k : Nat) : mm p q (k + 1) = (cst p q k).2.1 := rfl
/-- g and h ahead of step k (from 1 on) -/
def gm (p q : Pl) (k : Nat) : Int := (cst p q (k - 1)).2.2.1
def hm (p q : Pl) (k : Nat) : Int := (cst p q (k - 1)).2.2.2
theorem mm_step (p q : Pl) (k : Nat) (hk : 1 ≤ k) : mm p q (k + 1) = pdv (rem2 (mm p q (k - 1)) (mm p q k)) (gm p q k * hm p q k ^ (dgg (mm p q (k - 1)) - dgg (mm p q k))) := by
  obtain ⟨j, rfl⟩ : ∃ j, k = j + 1 := ⟨k - 1, by omega⟩
  rfl
theorem gm_step (p q : Pl) (k : Nat) (hk : 1 ≤ k) : gm p q (k + 1) = mm p q k (dgg (mm p q k)) := by
  obtain ⟨j, rfl⟩ : ∃ j, k = j + 1 := ⟨k - 1, by omega⟩
  rfl
theorem hm_step (p q : Pl) (k : Nat) (hk : 1 ≤ k) : hm p q (k + 1) = if dgg (mm p q (k - 1)) - dgg (mm p q k) = 0 then hm p q k else
    mm p q k (dgg (mm p q k)) ^ (dgg (mm p q (k - 1)) - dgg (mm p q k)) / hm p q k ^ (dgg (mm p q (k - 1)) - dgg (mm p q k) - 1) := by
  obtain ⟨j, rfl⟩ : ∃ j, k = j + 1 := ⟨k - 1, by omega⟩
  rfl
/-- the members up to k are there -/
def mmn (p q : Pl) (k : Nat) : Prop := ∀ i, i ≤ k → 0 < dln (mm p q i)
theorem dvd_nat {a : Int} {b c : Nat} (h : a.natAbs = b * c) (s : Int) (hs : s.natAbs = b) : s ∣ a := by
  rw [← Int.natAbs_dvd_natAbs, hs, h]
  exact Nat.dvd_mul_right _ _
theorem mm_chn {p q : Pl} (hp : pbd 9 p) (hq : pbd 9 q) (hd : dgg q ≤ dgg p) : ∀ k, 1 ≤ k → mmn p q k → (∀ i, i < k → 1 ≤ i → 0 < dgg (mm p q i)) →
    chn (mm p q) (fun i => dgg (mm p q i)) (fun i => (gm p q i).natAbs) (fun i => (hm p q i).natAbs) k ∧ (∀ i, i ≤ k → pbd 9 (mm p q i)) := by
  intro k
  induction k with
  | zero => intro h; omega
  | succ k ih =>
    intro _ hm1 hm2
    by_cases hk : k = 0
    · subst hk
      have h0 := dln_top (f := mm p q 0) hp (hm1 0 (by omega))
      have h1 := dln_top (f := mm p q 1) hq (hm1 1 (by omega))
      have hb : ∀ i, i ≤ 1 → pbd 9 (mm p q i) := by
        intro i hi
        have : i = 0 ∨ i = 1 := by omega
        rcases this with rfl | rfl
        · exact hp
        · exact hq
      refine ⟨⟨rfl, rfl, hd, fun i hi => ?_, fun i h1 h2 => by omega⟩, hb⟩
      have : i = 0 ∨ i = 1 := by omega
      rcases this with rfl | rfl
      · exact ⟨fun t ht => h0.1.2 t ht, h0.1.1⟩
      · exact ⟨fun t ht => h1.1.2 t ht, h1.1.1⟩
    · obtain ⟨H, hb⟩ := ih (by omega) (fun i hi => hm1 i (by omega)) (fun i h1 h2 => hm2 i (by omega) h2)
      have ha := dln_top (hb (k - 1) (by omega)) (hm1 (k - 1) (by omega))
      have hbb := dln_top (hb k (by omega)) (hm1 k (by omega))
      obtain ⟨hdk, hdk'⟩ := chn_d H k (by omega) (by omega)
      have hdk : dgg (mm p q k) ≤ dgg (mm p q (k - 1)) := hdk
      have hdk' : 2 ≤ k → dgg (mm p q k) < dgg (mm p q (k - 1)) := hdk'
      obtain ⟨hg0, hh0⟩ := chn_h0 H k (by omega) (by omega)
      have hg0 : 0 < (gm p q k).natAbs := hg0
      have hh0 : 0 < (hm p q k).natAbs := hh0
      have hdp := hm2 k (by omega) (by omega)
      have hR1 := prs_eq (b := mm p q k (dgg (mm p q k))) (B := mm p q k) (A := mm p q (k - 1)) hdk _ (Nat.le_refl _)
      have hR2 := prs_hi (b := mm p q k (dgg (mm p q k))) (B := mm p q k) (A := mm p q (k - 1)) hdk rfl (fun t ht => ha.1.2 t (by omega)) (fun t ht => hbb.1.2 t (by omega)) _ (Nat.le_refl _)
      have hR3 : ∀ t, dgg (mm p q k) ≤ t → rem2 (mm p q (k - 1)) (mm p q k) t = 0 := fun t ht => hR2 t (by omega)
      have hdv : ∀ t, (gm p q k * hm p q k ^ (dgg (mm p q (k - 1)) - dgg (mm p q k))) ∣ rem2 (mm p q (k - 1)) (mm p q k) t := by
        intro t
        have h1 := chn_left (φ := fun f => f t) (fun a f g => rfl) (by omega) H hdp (dvr_of hR1) (by rw [Int.natAbs_pow]) hR3
        refine dvd_nat h1 _ ?_
        rw [Int.natAbs_mul, Int.natAbs_pow]
      have hmk : psc (gm p q k * hm p q k ^ (dgg (mm p q (k - 1)) - dgg (mm p q k))) (mm p q (k + 1)) = rem2 (mm p q (k - 1)) (mm p q k) := by
        rw [mm_step p q k (by omega)]
        exact pl_ext (fun t => Int.mul_ediv_cancel' (hdv t))
      have hs0 : gm p q k * hm p q k ^ (dgg (mm p q (k - 1)) - dgg (mm p q k)) ≠ 0 := Int.mul_ne_zero (by omega) (Int.pow_ne_zero (by omega))
      have hz : ∀ t, dgg (mm p q k) ≤ t → mm p q (k + 1) t = 0 := by
        intro t ht
        have h1 := congrFun hmk t
        rw [hR3 t ht] at h1
        simp only [psc] at h1
        rcases Int.mul_eq_zero.mp h1 with h | h
        · exact absurd h hs0
        · exact h
      have hb1 : pbd 9 (mm p q (k + 1)) := fun t ht => hz t (by have := hbb.2; omega)
      have hc := dln_top hb1 (hm1 (k + 1) (by omega))
      have hlt : dgg (mm p q (k + 1)) < dgg (mm p q k) := by
        apply Classical.byContradiction
        intro h
        exact hc.1.1 (hz _ (by omega))
      refine ⟨⟨H.1, H.2.1, H.2.2.1, fun i hi => ?_, fun i h1 h2 => ?_⟩, fun i hi => ?_⟩
      · by_cases h3 : i = k + 1
        · subst h3; exact ⟨fun t ht => hc.1.2 t ht, hc.1.1⟩
        · exact H.2.2.2.1 i (by omega)
      · by_cases h3 : i = k
        · subst h3
          refine ⟨⟨_, _, gm p q i * hm p q i ^ (dgg (mm p q (i - 1)) - dgg (mm p q i)), dvr_of (β := mm p q i (dgg (mm p q i)) ^ (dgg (mm p q (i - 1)) - dgg (mm p q i) + 1)) (C := mm p q (i + 1)) (q := prq (mm p q i (dgg (mm p q i))) (mm p q i) (dgg (mm p q i)) (mm p q (i - 1)) (dgg (mm p q (i - 1))) (dgg (mm p q (i - 1)) - dgg (mm p q i) + 1)) ?_, by simp only [Int.natAbs_pow], by simp only [Int.natAbs_mul, Int.natAbs_pow]⟩, hlt, ?_, fun h4 => ?_, fun h4 => ?_⟩
          · rw [hmk, hR1]
            exact pl_ext (fun t => by simp [pad, psc, rem2])
          · simp only; rw [gm_step p q i h1]
          · simp only at h4 ⊢
            have h5 := chn_high (by omega) H h4
            rw [hm_step p q i h1, if_neg (by omega)]
            have h6 : hm p q i ^ (dgg (mm p q (i - 1)) - dgg (mm p q i) - 1) ∣ mm p q i (dgg (mm p q i)) ^ (dgg (mm p q (i - 1)) - dgg (mm p q i)) := dvd_nat (by rw [Int.natAbs_pow]; exact h5) _ (by rw [Int.natAbs_pow])
            rw [← Int.natAbs_pow, ← Int.natAbs_mul, Int.ediv_mul_cancel h6, Int.natAbs_pow]
          · simp only at h4 ⊢
            rw [hm_step p q i h1, if_pos (by omega)]
            have h5 : i = 1 := by
              apply Classical.byContradiction
              intro h6
              have := hdk' (by omega)
              omega
            subst h5
            rfl
        · exact H.2.2.2.2 i h1 (by omega)
      · by_cases h3 : i = k + 1
        · subst h3; exact hb1
        · exact hb i (by omega)
