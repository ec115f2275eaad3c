/-! ===== the sequence: exact divisions, sizes, its end ===== -/
theorem mm_ex {p q : Pl} (hp : pbd 9 p) (hq : pbd 9 q) (hd : dgg q ≤ dgg p) {k : Nat} (hk : 1 ≤ k) (hm1 : mmn p q k) (hm2 : ∀ i, i ≤ k → 1 ≤ i → 0 < dgg (mm p q i)) :
    psc (gm p q k * hm p q k ^ (dgg (mm p q (k - 1)) - dgg (mm p q k))) (mm p q (k + 1)) = rem2 (mm p q (k - 1)) (mm p q k) ∧ gm p q k ≠ 0 ∧ hm p q k ≠ 0 ∧ (∀ t, dgg (mm p q k) ≤ t → mm p q (k + 1) t = 0) ∧
    (∀ t, (mm p q (k + 1) t).natAbs ≤ nsz (dgg p + 1) p ^ (dgg q - (dgg (mm p q k) - 1)) * nsz (dgg q + 1) q ^ (dgg p - (dgg (mm p q k) - 1))) ∧ dgg (mm p q k) ≤ dgg (mm p q (k - 1)) ∧ (2 ≤ k → dgg (mm p q k) < dgg (mm p q (k - 1))) ∧ (∀ i, i ≤ k → pbd 9 (mm p q i)) ∧ pbd 9 (mm p q (k + 1)) := by
  obtain ⟨H, hb⟩ := mm_chn hp hq hd k hk hm1 (fun i h1 h2 => hm2 i (by omega) h2)
  have ha := dln_top (hb (k - 1) (by omega)) (hm1 (k - 1) (by omega))
  have hbb := dln_top (hb k (by omega)) (hm1 k (by omega))
  have h0 := dln_top (hb 0 (by omega)) (hm1 0 (by omega))
  have h1 := dln_top (hb 1 (by omega)) (hm1 1 (by omega))
  obtain ⟨hdk, hdk'⟩ := chn_d H k (by omega) (by omega)
  have hdk : dgg (mm p q k) ≤ dgg (mm p q (k - 1)) := hdk
  have hdk' : 2 ≤ k → dgg (mm p q k) < dgg (mm p q (k - 1)) := hdk'
  obtain ⟨hg0, hh0⟩ := chn_h0 H k (by omega) (by omega)
  have hg0 : 0 < (gm p q k).natAbs := hg0
  have hh0 : 0 < (hm p q k).natAbs := hh0
  have hdp := hm2 k (by omega) (by omega)
  have hR1 := prs_eq (b := mm p q k (dgg (mm p q k))) (B := mm p q k) (A := mm p q (k - 1)) hdk _ (Nat.le_refl _)
  have hR2 := prs_hi (b := mm p q k (dgg (mm p q k))) (B := mm p q k) (A := mm p q (k - 1)) hdk rfl (fun t ht => ha.1.2 t (by omega)) (fun t ht => hbb.1.2 t (by omega)) _ (Nat.le_refl _)
  have hR3 : ∀ t, dgg (mm p q k) ≤ t → rem2 (mm p q (k - 1)) (mm p q k) t = 0 := fun t ht => hR2 t (by omega)
  have hs : ∀ t, (rem2 (mm p q (k - 1)) (mm p q k) t).natAbs = (gm p q k).natAbs * (hm p q k).natAbs ^ (dgg (mm p q (k - 1)) - dgg (mm p q k)) * sbr (fun f => f t) (dgg (mm p q k) - 1) (mm p q 0) (dgg (mm p q 1) - (dgg (mm p q k) - 1)) (mm p q 1) (dgg (mm p q 0) - (dgg (mm p q k) - 1)) := by
    intro t
    exact chn_left (φ := fun f => f t) (fun a f g => rfl) (by omega) H hdp (dvr_of hR1) (by rw [Int.natAbs_pow]) hR3
  have hdv : ∀ t, (gm p q k * hm p q k ^ (dgg (mm p q (k - 1)) - dgg (mm p q k))) ∣ rem2 (mm p q (k - 1)) (mm p q k) t := by
    intro t
    refine dvd_nat (hs t) _ ?_
    rw [Int.natAbs_mul, Int.natAbs_pow]
  have hmk : psc (gm p q k * hm p q k ^ (dgg (mm p q (k - 1)) - dgg (mm p q k))) (mm p q (k + 1)) = rem2 (mm p q (k - 1)) (mm p q k) := by
    rw [mm_step p q k (by omega)]
    exact pl_ext (fun t => Int.mul_ediv_cancel' (hdv t))
  have hs0 : gm p q k * hm p q k ^ (dgg (mm p q (k - 1)) - dgg (mm p q k)) ≠ 0 := Int.mul_ne_zero (by omega) (Int.pow_ne_zero (by omega))
  have hz : ∀ t, dgg (mm p q k) ≤ t → mm p q (k + 1) t = 0 := by
    intro t ht
    have h1 := congrFun hmk t
    rw [hR3 t ht] at h1
    simp only [psc] at h1
    rcases Int.mul_eq_zero.mp h1 with h | h
    · exact absurd h hs0
    · exact h
  refine ⟨hmk, by omega, by omega, hz, ?_, hdk, hdk', hb, fun t ht => hz t (by have := hbb.2; omega)⟩
  intro t
  by_cases ht : dgg (mm p q k) ≤ t
  · rw [hz t ht]
    exact Nat.zero_le _
  · have e1 := congrArg Int.natAbs (congrFun hmk t)
    rw [hs t] at e1
    simp only [psc] at e1
    rw [Int.natAbs_mul, Int.natAbs_mul, Int.natAbs_pow] at e1
    have e2 := Nat.eq_of_mul_eq_mul_left (Nat.mul_pos hg0 (Nat.pow_pos hh0)) e1
    rw [e2]
    exact sbr_bd (A := p) (B := q) (fun t ht => h0.1.2 t ht) (fun t ht => h1.1.2 t ht) (by omega) _ _
/-- the next height -/
theorem hm_ex {p q : Pl} (hp : pbd 9 p) (hq : pbd 9 q) (hd : dgg q ≤ dgg p) {k : Nat} (hk : 1 ≤ k) (hm1 : mmn p q k) (hm2 : ∀ i, i < k → 1 ≤ i → 0 < dgg (mm p q i)) :
    (dgg (mm p q k) < dgg (mm p q (k - 1)) → hm p q (k + 1) * hm p q k ^ (dgg (mm p q (k - 1)) - dgg (mm p q k) - 1) = mm p q k (dgg (mm p q k)) ^ (dgg (mm p q (k - 1)) - dgg (mm p q k)) ∧ (hm p q (k + 1)).natAbs ≤ nsz (dgg p + 1) p ^ (dgg q - dgg (mm p q k)) * nsz (dgg q + 1) q ^ (dgg p - dgg (mm p q k))) ∧
    (dgg (mm p q k) = dgg (mm p q (k - 1)) → hm p q (k + 1) = 1 ∧ hm p q k = 1 ∧ k = 1) ∧ hm p q k ≠ 0 := by
  obtain ⟨H, hb⟩ := mm_chn hp hq hd k hk hm1 hm2
  have h0 := dln_top (hb 0 (by omega)) (hm1 0 (by omega))
  have h1 := dln_top (hb 1 (by omega)) (hm1 1 (by omega))
  obtain ⟨hdk, hdk'⟩ := chn_d H k (by omega) (by omega)
  have hdk' : 2 ≤ k → dgg (mm p q k) < dgg (mm p q (k - 1)) := hdk'
  obtain ⟨hg0, hh0⟩ := chn_h0 H k (by omega) (by omega)
  have hh0 : 0 < (hm p q k).natAbs := hh0
  refine ⟨fun h4 => ?_, fun h4 => ?_, by omega⟩
  · have h5 := chn_high (by omega) H h4
    have h5 : (mm p q k (dgg (mm p q k))).natAbs ^ (dgg (mm p q (k - 1)) - dgg (mm p q k)) = (hm p q k).natAbs ^ (dgg (mm p q (k - 1)) - dgg (mm p q k) - 1) * sbr (fun f => f (dgg (mm p q k))) (dgg (mm p q k)) (mm p q 0) (dgg (mm p q 1) - dgg (mm p q k)) (mm p q 1) (dgg (mm p q 0) - dgg (mm p q k)) := h5
    have h6 : hm p q k ^ (dgg (mm p q (k - 1)) - dgg (mm p q k) - 1) ∣ mm p q k (dgg (mm p q k)) ^ (dgg (mm p q (k - 1)) - dgg (mm p q k)) := dvd_nat (by rw [Int.natAbs_pow]; exact h5) _ (by rw [Int.natAbs_pow])
    have h7 : hm p q (k + 1) * hm p q k ^ (dgg (mm p q (k - 1)) - dgg (mm p q k) - 1) = mm p q k (dgg (mm p q k)) ^ (dgg (mm p q (k - 1)) - dgg (mm p q k)) := by
      rw [hm_step p q k hk, if_neg (by omega), Int.ediv_mul_cancel h6]
    refine ⟨h7, ?_⟩
    have e1 := congrArg Int.natAbs h7
    rw [Int.natAbs_mul, Int.natAbs_pow, Int.natAbs_pow, h5, Nat.mul_comm] at e1
    have e2 := Nat.eq_of_mul_eq_mul_left (Nat.pow_pos hh0) e1
    rw [e2]
    exact sbr_bd (A := p) (B := q) (fun t ht => h0.1.2 t ht) (fun t ht => h1.1.2 t ht) (Nat.le_refl _) _ _
  · have hk1 : k = 1 := by
      apply Classical.byContradiction
      intro h6
      have := hdk' (by omega)
      omega
    subst hk1
    refine ⟨?_, rfl, rfl⟩
    rw [hm_step p q 1 hk, if_pos (by omega)]
    rfl
/-- the sequence of p and q has M members -/
def ends (p q : Pl) (M : Nat) : Prop := 2 ≤ M ∧ mmn p q (M - 1) ∧ (∀ i, i < M - 1 → 1 ≤ i → 0 < dgg (mm p q i)) ∧ (0 < dgg (mm p q (M - 1)) → dln (mm p q M) = 0)
theorem ends_uniq {p q : Pl} {M M' : Nat} (h : ends p q M) (h' : ends p q M') : M = M' := by
  have key : ∀ M M', ends p q M → ends p q M' → ¬ M < M' := by
    intro M M' h h' hlt
    have h1 := h'.2.2.1 (M - 1) (by have := h.1; omega) (by have := h.1; omega)
    have h2 := h.2.2.2 h1
    have h3 := h'.2.1 M (by omega)
    omega
  have := key M M' h h'
  have := key M' M h' h
  omega
theorem dgg_q (p q : Pl) : dgg (mm p q 1) = dgg q := rfl
theorem dgg_p (p q : Pl) : dgg (mm p q 0) = dgg p := rfl
theorem ends_dec {p q : Pl} (hp : pbd 9 p) (hq : pbd 9 q) (hd : dgg q ≤ dgg p) : ∀ k, mmn p q (k + 1) → (∀ i, i < k + 1 → 1 ≤ i → 0 < dgg (mm p q i)) → dgg (mm p q (k + 1)) + k ≤ dgg q
  | 0, _, _ => by rw [dgg_q]; omega
  | k + 1, h1, h2 => by
    have ih := ends_dec hp hq hd k (fun i hi => h1 i (by omega)) (fun i hi h3 => h2 i (by omega) h3)
    obtain ⟨H, hb⟩ := mm_chn hp hq hd (k + 2) (by omega) h1 (fun i h3 h4 => h2 i h3 h4)
    have := (chn_d H (k + 2) (by omega) (by omega)).2 (by omega)
    have : dgg (mm p q (k + 1 + 1)) < dgg (mm p q (k + 1)) := this
    omega
theorem ends_le {p q : Pl} (hp : pbd 9 p) (hq : pbd 9 q) (hd : dgg q ≤ dgg p) {M : Nat} (h : ends p q M) : M ≤ dgg q + 2 := by
  have h1 := h.1
  have := ends_dec hp hq hd (M - 2) (by rw [show M - 2 + 1 = M - 1 by omega]; exact h.2.1) (fun i hi h3 => h.2.2.1 i (by omega) h3)
  omega
-- in bits
def szb (e : Nat) (z : Int) : Prop := z.natAbs ≤ 2 ^ e
theorem szb_mono {e e' : Nat} {z : Int} (h : szb e z) (he : e ≤ e') : szb e' z := Nat.le_trans h (Nat.pow_le_pow_right (by decide) he)
theorem szb_mul {a b : Nat} {x y : Int} (hx : szb a x) (hy : szb b y) : szb (a + b) (x * y) := by
  unfold szb at *
  rw [Int.natAbs_mul, Nat.pow_add]
  exact Nat.mul_le_mul hx hy
theorem szb_add {a : Nat} {x y : Int} (hx : szb a x) (hy : szb a y) : szb (a + 1) (x + y) := by
  unfold szb at *
  rw [Nat.pow_succ]
  omega
theorem szb_neg {a : Nat} {x : Int} (hx : szb a x) : szb a (-x) := by
  unfold szb at *
  rw [Int.natAbs_neg]
  exact hx
theorem szb_pow {a : Nat} {x : Int} (hx : szb a x) : ∀ n, szb (a * n) (x ^ n)
  | 0 => by simp [szb]
  | n + 1 => by
    rw [Int.pow_succ, Nat.mul_succ]
    exact szb_mul (szb_pow hx n) hx
theorem szb_z (e : Nat) : szb e 0 := Nat.zero_le _
theorem szb_dv {e : Nat} {x y : Int} (h : szb e (x * y)) (hx : x ≠ 0) : szb e y := by
  unfold szb at *
  rw [Int.natAbs_mul] at h
  have : 1 * y.natAbs ≤ x.natAbs * y.natAbs := Nat.mul_le_mul_right _ (by omega)
  omega
/-- a pair whose sequence has room -/
def gdp (p q : Pl) (s : Nat) : Prop := pbd 9 p ∧ pbd 9 q ∧ 0 < dln p ∧ 0 < dln q ∧ dgg q ≤ dgg p ∧ nsz (dgg p + 1) p ≤ 2 ^ s ∧ nsz (dgg q + 1) q ≤ 2 ^ s ∧ 32 ≤ s ∧ s * (dgg p + dgg q) ≤ 512 ∧ s ≤ 64
theorem nsz_ge (f : Pl) : ∀ (n t : Nat), t < n → (f t).natAbs ≤ nsz n f
  | 0, t, h => by omega
  | n + 1, t, h => by
    simp only [nsz]
    by_cases ht : t = n
    · subst ht; omega
    · have := nsz_ge f n t (by omega); omega
theorem gdp_0 {p q : Pl} {s : Nat} (h : gdp p q s) (t : Nat) : szb s (p t) := by
  obtain ⟨h1, h2, h3, h4, h5, h6, _⟩ := h
  by_cases ht : t < dgg p + 1
  · exact Nat.le_trans (nsz_ge p _ t ht) h6
  · rw [(dln_top h1 h3).1.2 t (by omega)]
    exact szb_z _
theorem gdp_1 {p q : Pl} {s : Nat} (h : gdp p q s) (t : Nat) : szb s (q t) := by
  obtain ⟨h1, h2, h3, h4, h5, h6, h7, _⟩ := h
  by_cases ht : t < dgg q + 1
  · exact Nat.le_trans (nsz_ge q _ t ht) h7
  · rw [(dln_top h2 h4).1.2 t (by omega)]
    exact szb_z _
/-- bits of member k -/
def mbt (p q : Pl) (s : Nat) : Nat → Nat
  | 0 => s
  | 1 => s
  | k + 2 => s * ((dgg q - (dgg (mm p q (k + 1)) - 1)) + (dgg p - (dgg (mm p q (k + 1)) - 1)))
def hbt (p q : Pl) (s : Nat) : Nat → Nat
  | 0 => 0
  | 1 => 0
  | k + 2 => s * ((dgg q - dgg (mm p q (k + 1))) + (dgg p - dgg (mm p q (k + 1))))
theorem szb_two {a b s x y : Nat} {z : Int} (h : z.natAbs ≤ x ^ a * y ^ b) (hx : x ≤ 2 ^ s) (hy : y ≤ 2 ^ s) : szb (s * (a + b)) z := by
  refine Nat.le_trans h ?_
  rw [Nat.mul_add, Nat.pow_add, Nat.pow_mul, Nat.pow_mul]
  exact Nat.mul_le_mul (Nat.pow_le_pow_left hx a) (Nat.pow_le_pow_left hy b)
theorem mm_bit {p q : Pl} {s : Nat} (h : gdp p q s) {k : Nat} (hm1 : mmn p q (k - 1)) (hm2 : ∀ i, i < k → 1 ≤ i → 0 < dgg (mm p q i)) (t : Nat) : szb (mbt p q s k) (mm p q k t) := by
  match k with
  | 0 => exact gdp_0 h t
  | 1 => exact gdp_1 h t
  | k + 2 =>
    obtain ⟨h1, h2, h3, h4, h5, h6, h7, _⟩ := h
    have := (mm_ex h1 h2 h5 (k := k + 1) (by omega) hm1 (fun i hi h8 => hm2 i (by omega) h8)).2.2.2.2.1 t
    exact szb_two this h6 h7
theorem hm_bit {p q : Pl} {s : Nat} (h : gdp p q s) {k : Nat} (hk : 1 ≤ k) (hm1 : mmn p q (k - 1)) (hm2 : ∀ i, i < k - 1 → 1 ≤ i → 0 < dgg (mm p q i)) : szb (hbt p q s k) (hm p q k) := by
  match k with
  | 0 => omega
  | 1 => show (hm p q 1).natAbs ≤ 2 ^ 0; exact Nat.le_refl _
  | k + 2 =>
    obtain ⟨h1, h2, h3, h4, h5, h6, h7, _⟩ := h
    have H := hm_ex h1 h2 h5 (k := k + 1) (by omega) hm1 (fun i hi h8 => hm2 i (by omega) h8)
    obtain ⟨C, hb⟩ := mm_chn h1 h2 h5 (k + 1) (by omega) hm1 (fun i h3 h4 => hm2 i h3 h4)
    have hle := (chn_d C (k + 1) (by omega) (by omega)).1
    have hle : dgg (mm p q (k + 1)) ≤ dgg (mm p q k) := hle
    by_cases hd : dgg (mm p q (k + 1)) < dgg (mm p q k)
    · exact szb_two (H.1 hd).2 h6 h7
    · obtain ⟨e1, _, e3⟩ := H.2.1 (by show dgg (mm p q (k + 1)) = dgg (mm p q k); omega)
      show (hm p q (k + 1 + 1)).natAbs ≤ _
      rw [e1]
      exact Nat.pos_of_ne_zero (fun h => by simp at h)
theorem gm_bit {p q : Pl} {s : Nat} (h : gdp p q s) {k : Nat} (hk : 1 ≤ k) (hm1 : mmn p q (k - 2)) (hm2 : ∀ i, i < k - 1 → 1 ≤ i → 0 < dgg (mm p q i)) : szb (mbt p q s (k - 1)) (gm p q k) := by
  match k with
  | 0 => omega
  | 1 => show (gm p q 1).natAbs ≤ 2 ^ s; exact Nat.pos_of_ne_zero (fun h => by simp at h)
  | k + 2 =>
    rw [gm_step p q (k + 1) (by omega)]
    exact mm_bit h hm1 hm2 _
theorem prs_bit {b : Int} {B A : Pl} {dB dA eA eB : Nat} (hb : szb eB b) (hB : ∀ t, szb eB (B t)) (hA : ∀ t, szb eA (A t)) : ∀ m t, szb (eA + m * (eB + 1)) (prs b B dB A dA m t)
  | 0, t => by simpa [prs] using hA t
  | m + 1, t => by
    have ih := prs_bit (dB := dB) (dA := dA) hb hB hA m
    have e : eA + (m + 1) * (eB + 1) = (eA + m * (eB + 1) + eB) + 1 := by rw [Nat.succ_mul]; omega
    rw [e]
    simp only [prs, pad, psc, shf]
    refine szb_add (by have := szb_mul hb (ih t); rw [Nat.add_comm] at this; exact this) (szb_mul (szb_neg (ih _)) ?_)
    split
    · exact szb_z _
    · exact hB _
