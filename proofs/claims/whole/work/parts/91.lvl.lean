/-! ===== members divided by what they share ===== -/
theorem fin_of_psc {N : Int} {f g : Pl} (hN : N ≠ 0) (h : fin f) (e : f = psc N g) : fin g := by
  obtain ⟨n, hn⟩ := h
  refine ⟨n, fun k hk => ?_⟩
  have h1 : N * g k = 0 := by rw [← hn k hk, e]; rfl
  rcases Int.mul_eq_zero.mp h1 with h | h
  · exact absurd h hN
  · exact h
theorem ends_last {p q : Pl} {s M : Nat} (h : gdp p q s) (he : ends p q M) : pbd 9 (mm p q (M - 1)) ∧ 0 < dln (mm p q (M - 1)) := by
  have h2 := he.1
  obtain ⟨_, hb⟩ := mm_chn h.1 h.2.1 h.2.2.2.2.1 (M - 1) (by omega) he.2.1 he.2.2.1
  exact ⟨hb _ (Nat.le_refl _), he.2.1 _ (Nat.le_refl _)⟩
/-- all members are multiples of g -/
theorem mm_fac {p q : Pl} {s M : Nat} (h : gdp p q s) (he : ends p q M) {i : Nat} (hi : i < M) : ∃ u, fin u ∧ mm p q i = pmu (ppt (mm p q (M - 1))) u := by
  obtain ⟨l1, l2⟩ := ends_last h he
  obtain ⟨g1, g2, g3, g4, g5, g6⟩ := ppt_ok l1 l2
  have hd := (mm_gcd h he (M - 1 - i) (by omega)).1
  rw [show M - 1 - (M - 1 - i) = i by omega] at hd
  obtain ⟨κ, e, hκ, fe, h1⟩ := hd
  rw [← g3, psc_mul', ← psc_mur] at h1
  obtain ⟨u, hu, hfu⟩ := gauss g1 hκ h1
  exact ⟨u, fin_of_psc hκ (fin_psc _ fe) hu, hfu⟩
noncomputable def cof (p q : Pl) (M i : Nat) : Pl := @Classical.epsilon Pl ⟨pz⟩ (fun u => fin u ∧ mm p q i = pmu (ppt (mm p q (M - 1))) u)
theorem cof_ok {p q : Pl} {s M : Nat} (h : gdp p q s) (he : ends p q M) {i : Nat} (hi : i < M) : fin (cof p q M i) ∧ mm p q i = pmu (ppt (mm p q (M - 1))) (cof p q M i) := Classical.epsilon_spec_aux ⟨pz⟩ (fun u => fin u ∧ mm p q i = pmu (ppt (mm p q (M - 1))) u) (mm_fac h he hi)
/-- the class's members divided by g -/
noncomputable def cce (p q : Pl) (M i : Nat) : Pl := psc (lo p q i) (cof p q M i)
theorem cce_ok {p q : Pl} {s M : Nat} (h : gdp p q s) (he : ends p q M) {i : Nat} (hi : i < M) : fin (cce p q M i) ∧ cc p q i = pmu (ppt (mm p q (M - 1))) (cce p q M i) := by
  obtain ⟨a, b⟩ := cof_ok h he hi
  refine ⟨fin_psc _ a, ?_⟩
  show psc _ _ = _
  unfold cce
  rw [psc_mur, ← b]
theorem pmu_pcn_r (c : Int) (g : Pl) : pmu g (pcn c) = psc c g := by rw [pmu_comm, pcn_mu]
theorem cc_rel {p q : Pl} {s : Nat} (h : gdp p q s) {k : Nat} (hk : 1 ≤ k) (hm1 : mmn p q k) (hm2 : ∀ i, i < k → 1 ≤ i → 0 < dgg (mm p q i)) :
    ∃ (β t : Int) (Q : Pl), 0 < β ∧ t < 0 ∧ fin Q ∧ psc β (cc p q (k - 1)) = pad (psc t (cc p q (k + 1))) (pmu Q (cc p q k)) := by
  obtain ⟨g0, h0, hdl, hdg⟩ := gh_nz h hk hm1 hm2
  have l1 := lo_pm h k (fun i hi => hm1 i (by omega)) (fun i hi h3 => hm2 i (by omega) h3)
  have hb0 : cc p q k (dgg (mm p q k)) ≠ 0 := by
    show lo p q k * mm p q k (dgg (mm p q k)) ≠ 0
    exact Int.mul_ne_zero (by omega) (hdg k (Nat.le_refl _)).1
  have hsg := sign_pm hb0
  have hR := prs_eq (b := cc p q k (dgg (mm p q k))) (B := cc p q k) (dB := dgg (mm p q k)) (A := cc p q (k - 1)) (dA := dgg (mm p q (k - 1))) hdl _ (Nat.le_refl _)
  obtain ⟨Q, hQ, e⟩ := cmb_mu (prq (cc p q k (dgg (mm p q k))) (cc p q k) (dgg (mm p q k)) (cc p q (k - 1)) (dgg (mm p q (k - 1))) (dgg (mm p q (k - 1)) - dgg (mm p q k) + 1)) (cc p q k) (dgg (mm p q (k - 1)) - dgg (mm p q k) + 1)
  refine ⟨((cc p q k (dgg (mm p q k))).natAbs : Int) ^ (dgg (mm p q (k - 1)) - dgg (mm p q k) + 1), -(((gm p q k).natAbs : Int) * ((hm p q k).natAbs : Int) ^ (dgg (mm p q (k - 1)) - dgg (mm p q k))), psc ((cc p q k (dgg (mm p q k))).sign ^ (dgg (mm p q (k - 1)) - dgg (mm p q k) + 1)) Q, Int.pow_pos (by omega), ?_, fin_psc _ hQ, ?_⟩
  · have : 0 < ((gm p q k).natAbs : Int) * ((hm p q k).natAbs : Int) ^ (dgg (mm p q (k - 1)) - dgg (mm p q k)) := Int.mul_pos (by omega) (Int.pow_pos (by omega))
    omega
  · refine pl_ext (fun t => ?_)
    have hr := cc_rest h hk hm1 hm2 t
    have hR' := congrFun hR t
    rw [e] at hR'
    have hR' : cc p q k (dgg (mm p q k)) ^ (dgg (mm p q (k - 1)) - dgg (mm p q k) + 1) * cc p q (k - 1) t = 1 * prs (cc p q k (dgg (mm p q k))) (cc p q k) (dgg (mm p q k)) (cc p q (k - 1)) (dgg (mm p q (k - 1))) (dgg (mm p q (k - 1)) - dgg (mm p q k) + 1) t + pmu Q (cc p q k) t := hR'
    show _ * cc p q (k - 1) t = _ * cc p q (k + 1) t + pmu (psc _ Q) (cc p q k) t
    rw [psc_mul', ← hr, ← sgn_abs, Int.mul_pow, Int.mul_assoc, hR']
    show _ = _ + _ * pmu Q (cc p q k) t
    generalize (cc p q k (dgg (mm p q k))).sign ^ (dgg (mm p q (k - 1)) - dgg (mm p q k) + 1) = S
    grind
theorem ppt_nz {f : Pl} (h9 : pbd 9 f) (h : 0 < dln f) : ppt f ≠ pz := fun hh => by
  have := (ppt_ok h9 h).2.2.2.2.2
  rw [hh] at this
  exact absurd this (by show ¬ (0 : Int) < 0; decide)
theorem psc_inj {a : Int} (ha : a ≠ 0) {f g : Pl} (h : psc a f = psc a g) : f = g := pl_ext (fun t => Int.eq_of_mul_eq_mul_left ha (congrFun h t))
/-- divided by what they share the members are a sequence -/
theorem cce_st {p q : Pl} {s M : Nat} (h : gdp p q s) (he : ends p q M) : stch (cce p q M) (M - 1) := by
  have h2 := he.1
  obtain ⟨l1, l2⟩ := ends_last h he
  obtain ⟨g1, g2, g3, g4, g5, g6⟩ := ppt_ok l1 l2
  have hg0 := ppt_nz l1 l2
  refine ⟨fun k hk => (cce_ok h he (by omega)).1, ?_, ?_⟩
  · obtain ⟨e1, e2⟩ := cce_ok h he (show M - 1 < M by omega)
    have hl := (ends_sg h he (show M - 1 < M by omega)).1
    refine ⟨lo p q (M - 1) * ((mm p q (M - 1) (dgg (mm p q (M - 1)))).sign * (ctf 9 (mm p q (M - 1)) : Int)), Int.mul_ne_zero (by omega) g4, ?_⟩
    refine pmu_cancel hg0 ?_
    rw [← e2, pmu_pcn_r, ← psc_psc, g3]
    rfl
  · intro k hk
    have hm1 : mmn p q (k + 1) := fun i hi => he.2.1 i (by omega)
    have hm2 : ∀ i, i < k + 1 → 1 ≤ i → 0 < dgg (mm p q i) := fun i hi h3 => he.2.2.1 i (by omega) h3
    obtain ⟨β, t, Q, hβ, ht, hQ, e⟩ := cc_rel h (k := k + 1) (by omega) hm1 hm2
    refine ⟨β, t, Q, hβ, ht, hQ, ?_⟩
    have a0 := (cce_ok h he (show k < M by omega)).2
    have a1 := (cce_ok h he (show k + 1 < M by omega)).2
    have a2 := (cce_ok h he (show k + 2 < M by omega)).2
    refine pmu_cancel hg0 ?_
    rw [psc_mur, pmu_addr, psc_mur, ← pmu_assoc, pmu_comm _ Q, pmu_assoc, ← a0, ← a1, ← a2]
    exact e
