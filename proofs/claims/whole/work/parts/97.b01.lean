/-! ===== numbers in the other order ===== -/
def rv (n : Nat) (f : Pl) : Pl := fun i => if i ≤ n then f (n - i) else 0
theorem rv_pbd (n : Nat) (f : Pl) : pbd (n + 1) (rv n f) := fun k hk => by
  show (if k ≤ n then f (n - k) else 0) = 0
  rw [if_neg (by omega)]
theorem rv_0 (f : Pl) : rv 0 f = pcn (f 0) := pl_ext (fun i => by
  show (if i ≤ 0 then f (0 - i) else 0) = if i = 0 then f 0 else 0
  by_cases h : i = 0
  · subst h; rfl
  · rw [if_neg (by omega), if_neg h])
theorem dgr_0' {A : Pl} (h : pbd 1 A) : A = pcn (A 0) := pl_ext (fun n => by
  show A n = if n = 0 then A 0 else 0
  by_cases hn : n = 0
  · subst hn; rw [if_pos rfl]
  · rw [if_neg hn]; exact h n (by omega))
theorem rv_s (n : Nat) (f : Pl) : rv (n + 1) f = pad (psc (f 0) (mono (n + 1))) (rv n (ptl f)) := pl_ext (fun i => by
  show (if i ≤ n + 1 then f (n + 1 - i) else 0) = f 0 * (if i = n + 1 then 1 else 0) + (if i ≤ n then f (n - i + 1) else 0)
  by_cases h : i = n + 1
  · subst h
    rw [if_pos (by omega), if_pos rfl, if_neg (by omega), Nat.sub_self]
    omega
  · rw [if_neg h]
    by_cases h2 : i ≤ n
    · rw [if_pos (by omega), if_pos h2, show n + 1 - i = n - i + 1 by omega]; omega
    · rw [if_neg (by omega), if_neg h2]; omega)
theorem pmu_dec (f g : Pl) : pmu f g = pad (psc (f 0) g) (shf 1 (pmu (ptl f) g)) := pl_ext (fun n => by
  match n with
  | 0 => show f 0 * g 0 = f 0 * g 0 + (if 0 < 1 then 0 else _); rw [if_pos (by omega)]; omega
  | n + 1 =>
    show f 0 * g (n + 1) + pmn n (ptl f) g = f 0 * g (n + 1) + (if n + 1 < 1 then 0 else pmn (n + 1 - 1) (ptl f) g)
    rw [if_neg (by omega), Nat.add_sub_cancel])
theorem rv_pmu {n : Nat} {g : Pl} (hg : pbd (n + 1) g) : ∀ (m : Nat) (f : Pl), pbd (m + 1) f → rv (m + n) (pmu f g) = pmu (rv m f) (rv n g)
  | 0, f, hf => by
    have e : f = pcn (f 0) := dgr_0' hf
    rw [rv_0, pcn_mu, Nat.zero_add]
    refine pl_ext (fun i => ?_)
    have e2 : pmu f g = psc (f 0) g := by rw [← pcn_mu, ← e]
    rw [e2]
    show (if i ≤ n then f 0 * g (n - i) else 0) = f 0 * (if i ≤ n then g (n - i) else 0)
    by_cases h : i ≤ n
    · rw [if_pos h, if_pos h]
    · rw [if_neg h, if_neg h]; omega
  | m + 1, f, hf => by
    have ih := rv_pmu hg m (ptl f) (fun k hk => hf (k + 1) (by omega))
    rw [rv_s, pmu_addl, psc_mul', shf_mu, ← ih]
    refine pl_ext (fun i => ?_)
    rw [pmu_dec f g]
    generalize pmu (ptl f) g = Q
    show (if i ≤ m + 1 + n then f 0 * g (m + 1 + n - i) + (if m + 1 + n - i < 1 then 0 else Q (m + 1 + n - i - 1)) else 0) = f 0 * (if i < m + 1 then 0 else (if i - (m + 1) ≤ n then g (n - (i - (m + 1))) else 0)) + (if i ≤ m + n then Q (m + n - i) else 0)
    by_cases h1 : i ≤ m + 1 + n
    · rw [if_pos h1]
      congr 1
      · congr 1
        by_cases h2 : i < m + 1
        · rw [if_pos h2]; exact hg _ (by omega)
        · rw [if_neg h2, if_pos (by omega)]; congr 1; omega
      · by_cases h2 : i ≤ m + n
        · rw [if_neg (by omega), if_pos h2]; congr 1; omega
        · rw [if_pos (by omega), if_neg h2]
    · rw [if_neg h1, if_neg (by omega), if_neg (by omega), if_neg (by omega)]; omega
theorem pbd_mono1 (k : Nat) : pbd (k + 1) (mono k) := fun t ht => by show (if t = k then (1 : Int) else 0) = 0; rw [if_neg (by omega)]
theorem evn_mono (w : Rat) : ∀ k, evn (k + 1) (mono k) w = w ^ k
  | 0 => by
    show ((mono 0 0 : Int) : Rat) + w * evn 0 (ptl (mono 0)) w = w ^ 0
    rw [Rat.pow_zero, show mono 0 0 = 1 from rfl, show evn 0 (ptl (mono 0)) w = 0 from rfl, show ((1 : Int) : Rat) = 1 from rfl]
    grind
  | k + 1 => by
    have ih := evn_mono w k
    show ((mono (k + 1) 0 : Int) : Rat) + w * evn (k + 1) (ptl (mono (k + 1))) w = w ^ (k + 1)
    rw [mono_tl, ih, Rat.pow_succ, show mono (k + 1) 0 = 0 by show (if 0 = k + 1 then (1 : Int) else 0) = 0; rw [if_neg (by omega)], show ((0 : Int) : Rat) = 0 from rfl]
    grind
theorem vl_mono (w : Rat) (k : Nat) : vl (mono k) w = w ^ k := by rw [vl_eq (pbd_mono1 k), evn_mono]
/-- the value at 1 / z -/
theorem rv_vl {z : Rat} (hz : z ≠ 0) : ∀ (n : Nat) (f : Pl), pbd (n + 1) f → vl (rv n f) (z⁻¹) = (z⁻¹) ^ n * vl f z
  | 0, f, hf => by
    have e : f = pcn (f 0) := dgr_0' hf
    rw [rv_0, vl_pcn, e, vl_pcn, Rat.pow_zero]
    show ((f 0 : Int) : Rat) = 1 * (((if 0 = 0 then f 0 else 0) : Int) : Rat)
    rw [if_pos rfl]; grind
  | n + 1, f, hf => by
    have ih := rv_vl hz n (ptl f) (fun k hk => hf (k + 1) (by omega))
    rw [rv_s, vl_lin (fin_mono _) ⟨_, rv_pbd _ _⟩, vl_mono, ih, vl_eq hf, vl_eq (n := n + 1) (f := ptl f) (fun k hk => hf (k + 1) (by omega)), Rat.pow_succ]
    show _ = _ * (((f 0 : Int) : Rat) + z * evn (n + 1) (ptl f) z)
    have hw : z⁻¹ * z = 1 := Rat.inv_mul_cancel z hz
    generalize z⁻¹ = w at *
    generalize w ^ n = W
    generalize evn (n + 1) (ptl f) z = E
    grind
theorem nsz_rv (n : Nat) (f : Pl) : nsz (n + 1) (rv n f) = nsz (n + 1) f := by
  have : ∀ m, m ≤ n + 1 → nsz m (rv n f) + nsz (n + 1 - m) f = nsz (n + 1) f := by
    intro m
    induction m with
    | zero => intro _; simp [nsz]
    | succ m ih =>
      intro hm
      have := ih (by omega)
      simp only [nsz]
      rw [show n + 1 - m = (n - m) + 1 by omega] at this
      simp only [nsz] at this
      have e : rv n f m = f (n - m) := by show (if m ≤ n then f (n - m) else 0) = _; rw [if_pos (by omega)]
      rw [e, show n + 1 - (m + 1) = n - m by omega]
      omega
  have := this (n + 1) (Nat.le_refl _)
  rw [Nat.sub_self] at this
  simp only [nsz] at this ⊢
  omega
theorem dgg_ge {f : Pl} {k : Nat} (h9 : pbd 9 f) (h : f k ≠ 0) : k ≤ dgg f ∧ 0 < dln f := by
  have h0 : 0 < dln f := nz_dln h9 (fun hh => by rw [hh] at h; exact h rfl)
  refine ⟨?_, h0⟩
  apply Nat.le_of_not_lt
  intro hk
  exact h ((dln_top h9 h0).1.2 k (by omega))
theorem dgg_le {f : Pl} {k : Nat} (h9 : pbd 9 f) (h : pbd (k + 1) f) (h0 : 0 < dln f) : dgg f ≤ k := by
  apply Nat.le_of_not_lt
  intro hk
  exact (dln_top h9 h0).1.1 (h _ (by omega))
