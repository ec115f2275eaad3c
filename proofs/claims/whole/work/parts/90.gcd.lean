/-! ===== the last member divides all ===== -/
def mono (t : Nat) : Pl := fun n => if n = t then 1 else 0
theorem mono_tl (t : Nat) : ptl (mono (t + 1)) = mono t := pl_ext (fun n => by
  show (if n + 1 = t + 1 then (1 : Int) else 0) = if n = t then 1 else 0
  by_cases h : n = t
  · rw [if_pos h, if_pos (by omega)]
  · rw [if_neg h, if_neg (by omega)])
theorem shf_mu : ∀ (t : Nat) (B : Pl), pmu (mono t) B = shf t B
  | 0, B => by
    have : mono 0 = pcn 1 := pl_ext (fun n => rfl)
    rw [this, pmu_one, shf_0]
  | t + 1, B => by
    refine pl_ext (fun n => ?_)
    have ih := shf_mu t B
    match n with
    | 0 =>
      show pmn 0 (mono (t + 1)) B = shf (t + 1) B 0
      simp [pmn, mono, shf]
    | n + 1 =>
      have h1 := congrFun ih n
      show pmn (n + 1) (mono (t + 1)) B = shf (t + 1) B (n + 1)
      have h2 : pmn (n + 1) (mono (t + 1)) B = mono (t + 1) 0 * B (n + 1) + pmn n (ptl (mono (t + 1))) B := rfl
      rw [h2, mono_tl]
      have h3 : pmn n (mono t) B = shf t B n := h1
      rw [h3]
      simp only [mono, shf]
      by_cases h : n < t
      · have h5 : n + 1 < t + 1 := by omega
        simp [h, h5]
      · have h5 : ¬ n + 1 < t + 1 := by omega
        simp [h, h5]
theorem fin_mono (t : Nat) : fin (mono t) := ⟨t + 1, fun k hk => by show (if k = t then (1 : Int) else 0) = 0; rw [if_neg (by omega)]⟩
theorem psc_mul' (a : Int) (f g : Pl) : pmu (psc a f) g = psc a (pmu f g) := by rw [← pcn_mu, ← pcn_mu, pmu_assoc]
theorem cmb_mu (q : Nat → Int) (B : Pl) : ∀ k, ∃ Q, fin Q ∧ cmb q B 0 k = pmu Q B
  | 0 => ⟨pz, ⟨0, fun _ _ => rfl⟩, by rw [pmu_z]; rfl⟩
  | k + 1 => by
    obtain ⟨Q, hQ, e⟩ := cmb_mu q B k
    refine ⟨pad (psc (q k) (mono k)) Q, ?_, ?_⟩
    · obtain ⟨n, hn⟩ := hQ
      obtain ⟨m, hm⟩ := fin_mono k
      refine ⟨max n m, fun j hj => ?_⟩
      show q k * mono k j + Q j = 0
      rw [hn j (by omega), hm j (by omega)]
      omega
    · rw [pmu_addl, psc_mul', shf_mu, ← e]
      simp only [cmb, Nat.zero_add]
/-- one step: lead^(δ+1) times a member is what follows, times a number, and a multiple of the next -/
theorem mm_rel {p q : Pl} {s : Nat} (h : gdp p q s) {k : Nat} (hk : 1 ≤ k) (hm1 : mmn p q k) (hm2 : ∀ i, i < k → 1 ≤ i → 0 < dgg (mm p q i)) :
    ∃ Q, fin Q ∧ psc (mm p q k (dgg (mm p q k)) ^ (dgg (mm p q (k - 1)) - dgg (mm p q k) + 1)) (mm p q (k - 1)) = pad (psc (gm p q k * hm p q k ^ (dgg (mm p q (k - 1)) - dgg (mm p q k))) (mm p q (k + 1))) (pmu Q (mm p q k)) := by
  obtain ⟨_, _, hdl, _⟩ := gh_nz h hk hm1 hm2
  obtain ⟨_, hex, _, _⟩ := mm_dv h hk hm1 hm2
  have hR := prs_eq (b := mm p q k (dgg (mm p q k))) (B := mm p q k) (A := mm p q (k - 1)) hdl _ (Nat.le_refl _)
  obtain ⟨Q, hQ, e⟩ := cmb_mu (prq (mm p q k (dgg (mm p q k))) (mm p q k) (dgg (mm p q k)) (mm p q (k - 1)) (dgg (mm p q (k - 1))) (dgg (mm p q (k - 1)) - dgg (mm p q k) + 1)) (mm p q k) (dgg (mm p q (k - 1)) - dgg (mm p q k) + 1)
  refine ⟨Q, hQ, ?_⟩
  rw [hR, e]
  refine pl_ext (fun t => ?_)
  have := hex t
  show 1 * rem2 (mm p q (k - 1)) (mm p q k) t + _ = gm p q k * hm p q k ^ (dgg (mm p q (k - 1)) - dgg (mm p q k)) * mm p q (k + 1) t + _
  rw [this]
  omega
def dvq (g f : Pl) : Prop := ∃ (κ : Int) (e : Pl), κ ≠ 0 ∧ fin e ∧ psc κ f = pmu g e
theorem dvq_self (g : Pl) : dvq g g := ⟨1, pcn 1, by decide, fin_pcn 1, by rw [pmu_comm, pmu_one]; exact pl_ext (fun t => by show 1 * g t = g t; omega)⟩
theorem psc_psc (a b : Int) (f : Pl) : psc a (psc b f) = psc (a * b) f := pl_ext (fun t => by show a * (b * f t) = a * b * f t; rw [Int.mul_assoc])
theorem dvq_step {g a b c Q : Pl} {β s : Int} (hβ : β ≠ 0) (hQ : fin Q) (h : psc β a = pad (psc s c) (pmu Q b)) (hb : dvq g b) (hc : dvq g c) : dvq g a := by
  obtain ⟨κ, e, hκ, fe, h1⟩ := hb
  obtain ⟨κ', e', hκ', fe', h2⟩ := hc
  refine ⟨κ * κ' * β, pad (psc (κ * s) e') (psc κ' (pmu Q e)), Int.mul_ne_zero (Int.mul_ne_zero hκ hκ') hβ, fin_pad (fin_psc _ fe') (fin_psc _ (fin_pmu hQ fe)), ?_⟩
  rw [← psc_psc, h, pmu_addr, psc_mur, psc_mur, ← h2, ← pmu_assoc, pmu_comm g Q, pmu_assoc, ← h1, psc_mur]
  refine pl_ext (fun t => ?_)
  show κ * κ' * (s * c t + pmu Q b t) = κ * s * (κ' * c t) + κ' * (κ * pmu Q b t)
  grind
theorem mm_gcd {p q : Pl} {s M : Nat} (h : gdp p q s) (he : ends p q M) : ∀ j, j < M → dvq (mm p q (M - 1)) (mm p q (M - 1 - j)) ∧ (0 < j → dvq (mm p q (M - 1)) (mm p q (M - j)))
  | 0, _ => ⟨dvq_self _, fun hh => absurd hh (by omega)⟩
  | j + 1, hj => by
    have h2 := he.1
    have ih := mm_gcd h he j (by omega)
    refine ⟨?_, fun _ => by rw [show M - (j + 1) = M - 1 - j by omega]; exact ih.1⟩
    obtain ⟨k, hk⟩ : ∃ k, k = M - 1 - j := ⟨_, rfl⟩
    have hk1 : 1 ≤ k := by omega
    have hm1 : mmn p q k := fun i hi => he.2.1 i (by omega)
    have hm2 : ∀ i, i < k → 1 ≤ i → 0 < dgg (mm p q i) := fun i hi h3 => he.2.2.1 i (by omega) h3
    obtain ⟨Q, hQ, e⟩ := mm_rel h hk1 hm1 hm2
    have hβ : mm p q k (dgg (mm p q k)) ^ (dgg (mm p q (k - 1)) - dgg (mm p q k) + 1) ≠ 0 := Int.pow_ne_zero (((gh_nz h hk1 hm1 hm2).2.2.2 k (Nat.le_refl _)).1)
    rw [show M - 1 - (j + 1) = k - 1 by omega]
    have hb : dvq (mm p q (M - 1)) (mm p q k) := by rw [hk]; exact ih.1
    by_cases hj0 : j = 0
    · -- what the last but one leaves is nothing
      have hkM : k = M - 1 := by omega
      have hz : mm p q (k + 1) = pz := by
        obtain ⟨_, _, _, hm0⟩ := mm_dv h hk1 hm1 hm2
        by_cases hd : 0 < dgg (mm p q k)
        · have hd' : 0 < dgg (mm p q (M - 1)) := by rw [← hkM]; exact hd
          have := he.2.2.2 hd'
          rw [show k + 1 = M by omega]
          refine dln_0 (fun t ht => ?_) this
          have := hm0 t (by have := dgg_lt (mm p q k); omega)
          rw [show k + 1 = M by omega] at this
          exact this
        · exact pl_ext (fun t => hm0 t (by omega))
      refine dvq_step hβ hQ e hb ⟨1, pz, by decide, ⟨0, fun _ _ => rfl⟩, ?_⟩
      rw [hz, pmu_comm, pmu_z]
      exact pl_ext (fun t => rfl)
    · refine dvq_step hβ hQ e hb ?_
      have := ih.2 (by omega)
      rw [show M - j = k + 1 by omega] at this
      exact this
-- content, primitive part
def ctf : Nat → Pl → Nat
  | 0, _ => 0
  | n + 1, f => Nat.gcd (ctf n f) (f n).natAbs
theorem ctf_dvd (f : Pl) : ∀ (n k : Nat), k < n → (ctf n f) ∣ (f k).natAbs
  | 0, k, h => by omega
  | n + 1, k, h => by
    simp only [ctf]
    by_cases hk : k = n
    · subst hk; exact Nat.gcd_dvd_right _ _
    · exact Nat.dvd_trans (Nat.gcd_dvd_left _ _) (ctf_dvd f n k (by omega))
theorem ctf_gr (f : Pl) (l : Nat) : ∀ (n : Nat), (∀ k, k < n → l ∣ (f k).natAbs) → l ∣ ctf n f
  | 0, _ => Nat.dvd_zero l
  | n + 1, h => Nat.dvd_gcd (ctf_gr f l n (fun k hk => h k (by omega))) (h n (by omega))
theorem ctf_pos {f : Pl} {n k : Nat} (hk : k < n) (h : f k ≠ 0) : 0 < ctf n f := by
  apply Nat.pos_of_ne_zero
  intro h0
  have := ctf_dvd f n k hk
  rw [h0] at this
  have := Nat.eq_zero_of_zero_dvd this
  omega
/-- the primitive part, with a lead above 0 -/
def ppt (f : Pl) : Pl := pdv f ((f (dgg f)).sign * (ctf 9 f : Int))
theorem ppt_ok {f : Pl} (h9 : pbd 9 f) (h : 0 < dln f) : prm (ppt f) ∧ pbd 9 (ppt f) ∧ psc ((f (dgg f)).sign * (ctf 9 f : Int)) (ppt f) = f ∧ (f (dgg f)).sign * (ctf 9 f : Int) ≠ 0 ∧ dgr (ppt f) (dgg f) ∧ 0 < ppt f (dgg f) := by
  obtain ⟨hd, h8⟩ := dln_top h9 h
  have hc := ctf_pos (n := 9) (k := dgg f) h8 hd.1
  have hs := sign_pm hd.1
  have hne : (f (dgg f)).sign * (ctf 9 f : Int) ≠ 0 := Int.mul_ne_zero (by omega) (by omega)
  have hdv : ∀ k, (f (dgg f)).sign * (ctf 9 f : Int) ∣ f k := by
    intro k
    by_cases hk : k < 9
    · refine dvd_nat (c := (f k).natAbs / ctf 9 f) (b := ctf 9 f) ?_ _ ?_
      · exact (Nat.mul_div_cancel' (ctf_dvd f 9 k hk)).symm
      · rw [Int.natAbs_mul]
        rcases hs with e | e <;> rw [e] <;> simp
    · rw [h9 k (by omega)]; exact Int.dvd_zero _
  have hsc : psc ((f (dgg f)).sign * (ctf 9 f : Int)) (ppt f) = f := pl_ext (fun k => Int.mul_ediv_cancel' (hdv k))
  have hz : ∀ k, f k = 0 → ppt f k = 0 := fun k hk => by
    show f k / _ = 0
    rw [hk]; exact Int.zero_ediv _
  have hb9 : pbd 9 (ppt f) := fun k hk => hz k (h9 k hk)
  have hlead : 0 < ppt f (dgg f) := by
    have e := congrFun hsc (dgg f)
    have e : (f (dgg f)).sign * (ctf 9 f : Int) * ppt f (dgg f) = f (dgg f) := e
    generalize ppt f (dgg f) = x at *
    apply Int.not_le.mp
    intro hx
    have hcp : (0 : Int) < ctf 9 f := by omega
    rcases Int.lt_or_gt_of_ne hd.1 with hn | hn
    · rw [Int.sign_eq_neg_one_of_neg hn] at e
      have := Int.mul_le_mul_of_nonneg_left hx (Int.le_of_lt hcp)
      have e2 : -1 * (ctf 9 f : Int) * x = -((ctf 9 f : Int) * x) := by grind
      omega
    · rw [Int.sign_eq_one_of_pos hn] at e
      have := Int.mul_le_mul_of_nonneg_left hx (Int.le_of_lt hcp)
      have e2 : 1 * (ctf 9 f : Int) * x = (ctf 9 f : Int) * x := by grind
      omega
  refine ⟨?_, hb9, hsc, hne, ⟨by omega, fun k hk => hz k (hd.2 k hk)⟩, hlead⟩
  intro l hl
  -- l times the content divides all numbers
  have h5 : l * ctf 9 f ∣ ctf 9 f := by
    refine ctf_gr f _ 9 (fun k hk => ?_)
    obtain ⟨y, hy⟩ := hl k
    have e := congrFun hsc k
    have e : (f (dgg f)).sign * (ctf 9 f : Int) * ppt f k = f k := e
    rw [← e, hy, Int.natAbs_mul, Int.natAbs_mul, Int.natAbs_mul]
    have h1 : (f (dgg f)).sign.natAbs = 1 := by rcases hs with e | e <;> rw [e] <;> rfl
    rw [h1, Nat.one_mul]
    simp only [Int.natAbs_natCast]
    refine ⟨y.natAbs, ?_⟩
    grind
  obtain ⟨m, hm⟩ := h5
  have h6 : ctf 9 f * 1 = ctf 9 f * (l * m) := by rw [Nat.mul_one]; rw [Nat.mul_comm l (ctf 9 f), Nat.mul_assoc] at hm; exact hm
  have h7 := Nat.eq_of_mul_eq_mul_left hc h6
  exact Nat.eq_one_of_mul_eq_one_right h7.symm
theorem prm_pm {g g' : Pl} {a b : Int} (hg : prm g) (hg' : prm g') (ha : a ≠ 0) (hb : b ≠ 0) (h : psc a g = psc b g') : a.natAbs = b.natAbs := by
  -- a divides b times all of g', so a divides b
  have key : ∀ {g g' : Pl} {a b : Int}, prm g' → a ≠ 0 → b ≠ 0 → psc a g = psc b g' → a.natAbs ∣ b.natAbs := by
    intro g g' a b hg' ha hb h
    have hd : ∀ k, a ∣ b * g' k := fun k => ⟨g k, (congrFun h k).symm⟩
    have hgcd : 0 < Nat.gcd a.natAbs b.natAbs := Nat.gcd_pos_of_pos_left _ (by omega)
    have h1 : a.natAbs / Nat.gcd a.natAbs b.natAbs = 1 := by
      refine hg' _ (fun k => ?_)
      refine Int.natAbs_dvd_natAbs.mp ?_
      rw [Int.natAbs_natCast]
      have h2 : a.natAbs ∣ b.natAbs * (g' k).natAbs := by
        rw [← Int.natAbs_mul]
        exact Int.natAbs_dvd_natAbs.mpr (hd k)
      have hco := Nat.coprime_div_gcd_div_gcd hgcd
      refine Nat.Coprime.dvd_of_dvd_mul_left hco ?_
      refine (Nat.mul_dvd_mul_iff_left hgcd).mp ?_
      rw [Nat.mul_div_cancel' (Nat.gcd_dvd_left _ _), ← Nat.mul_assoc, Nat.mul_div_cancel' (Nat.gcd_dvd_right _ _)]
      exact h2
    have h3 : a.natAbs = Nat.gcd a.natAbs b.natAbs := by
      have := Nat.div_mul_cancel (Nat.gcd_dvd_left a.natAbs b.natAbs)
      rw [h1, Nat.one_mul] at this
      exact this.symm
    rw [h3]
    exact Nat.gcd_dvd_right _ _
  exact Nat.dvd_antisymm (key hg' ha hb h) (key hg hb ha h.symm)
