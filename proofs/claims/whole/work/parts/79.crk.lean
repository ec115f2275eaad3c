/-! ===== the class's sequence: run, jumps ===== -/
theorem cc_0 (p q : Pl) : cc p q 0 = p := pl_ext (fun t => by show 1 * p t = p t; omega)
theorem cc_1 (p q : Pl) : cc p q 1 = q := pl_ext (fun t => by show 1 * q t = q t; omega)
theorem run_ok {fu B op oq s : Nat} {σ : rr_M} {Z : Nat → Option Int} {p q : Pl} (hfu : 400 < fu) (h : gdp p q s) (hc : crf B σ) (hZ : bgs B σ Z) (hnp : nx B (B + op) = 9) (hnq : nx B (B + oq) = 9) (hop : isB (op - 1) = false) (hoq : isB (oq - 1) = false) (hp : ∀ j, j < 9 → (mg_l σ (B + op) j).toInt = p j) (hq : ∀ j, j < 9 → (mg_l σ (B + oq) j).toInt = q j) :
    wq (f_Seq_run fu (nx B) (B + 63) (B + op) (B + oq) σ) (fun r => frs B σ r.2 ∧ ∃ Z' M, bgs B r.2 Z' ∧ (∀ s, 280 ≤ s → Z' s = Z s) ∧ ends p q M ∧ M ≤ 10 ∧ mg_i r.2 (B + 63) 3 = nI M ∧ crs B (M - 1) r.2 Z' p q) := by
  unfold f_Seq_run
  refine wq_bd (wq_mo (cld_ok (row := 0) (o := op) (f := p) hfu hc hZ (by omega) hnp hop hp h.2.2.1) ?_)
  rintro r1 ⟨F1, N1, D1, S1, Z1, L1, O1, V1⟩
  have hc1 := crf_frs hc F1
  have hq1 : ∀ j, j < 9 → (mg_l r1.2 (B + oq) j).toInt = q j := fun j hj => by rw [F1.2.2 oq hoq]; exact hq j hj
  refine wq_bd (wq_mo (cld_ok (row := 1) (o := oq) (f := q) hfu hc1 L1 (by omega) hnq hoq hq1 h.2.2.2.1) ?_)
  rintro r2 ⟨F2, N2, D2, S2, Z2, L2, O2, V2⟩
  have hc2 := crf_frs hc1 F2
  have ix : rr_ix 1 (nx B (B + 65)) = true := by rw [nx_65]; decide
  have m1 : rr_n 1 = 1 := rfl
  have h8 := dgg_lt q
  dsimp only [rr_lt, rr_jn]
  rw [sq_1 hc2, m1, D2, if_pos (nI_pos' (by omega))]
  refine wq_ip ix ?_
  have L3 : bgs B (ms_i r2.2 (B + 63) 3 2) Z2 := bgs_ms L2 isB_f63
  have hc3 : crf B (ms_i r2.2 (B + 63) 3 2) := hc2
  rw [sq_10 hc3]
  refine wq_bd (wq_mo (bo_set (x := 78) (v := 1) hfu L3 (by decide)) ?_)
  rintro r4 ⟨L4, F4⟩
  have hc4 := crf_sbf hc3 F4
  rw [sq_11 hc4]
  refine wq_bd (wq_mo (bo_set (x := 80) (v := 1) hfu L4 (by decide)) ?_)
  rintro r5 ⟨L5, F5⟩
  have Fs : sbf B (ms_i r2.2 (B + 63) 3 2) r5.2 := sbf_tr F4 F5
  have Fall : frs B σ r5.2 := frs_tr F1 (frs_tr F2 (frs_tr (frs_ms (Or.inl rfl)) (sbf_frs Fs)))
  refine crn_l (σ0 := r5.2) (Z0 := zup (zup Z2 78 (1 : Int64).toInt) 80 (1 : Int64).toInt) hfu h (crf_frs hc Fall) ?_ fu 1 r5.2 _ (by omega) (by omega) L5 (sbf_frs (sbf_rfl _ _)) (fun _ _ => rfl) ?_ (fun i hi h3 => by omega) ?_ ?_ ?_ ?_
  · intro σ6 Z6 M a1 a2 a3 a4 a5 a6 a7
    refine wq_some ⟨frs_tr Fall a2, Z6, M, a1, fun s hs => ?_, a4, a5, a6, a7⟩
    rw [a3 s hs, zup_n (ge_ne hs (by decide)), zup_n (ge_ne hs (by decide)), O2 s (fun j hj => ge_nb hs (by omega) hj), O1 s (fun j hj => ge_nb hs (by omega) hj)]
  · intro i hi
    rcases (by omega : i = 0 ∨ i = 1) with h5 | h5
    · subst h5; exact h.2.2.1
    · subst h5; exact h.2.2.2.1
  · rw [sbf_i Fs isB_f63, si_s]; rfl
  · intro i hi
    rw [sbf_i Fs isB_f65, sbf_i Fs isB_f66, si_row (by omega), si_row (by omega)]
    rcases (by omega : i = 0 ∨ i = 1) with h5 | h5
    · subst h5
      rw [cc_0, (N2 0 (by omega)).1, (N2 0 (by omega)).2]
      refine ⟨fun j hj => ?_, D1, S1⟩
      rw [zup_n (nb_ne (by decide)), zup_n (nb_ne (by decide)), O2 _ (fun j' hj' => nb_nb (by omega) hj hj')]
      exact V1 j hj
    · subst h5
      rw [cc_1]
      refine ⟨fun j hj => ?_, D2, S2⟩
      rw [zup_n (nb_ne (by decide)), zup_n (nb_ne (by decide))]
      exact V2 j hj
  · rw [zup_n (by omega), zup_s]; rfl
  · rw [zup_s]; rfl
-- changes of sign far out
/-- signs of the members far out, to the right and to the left -/
def sgR (p q : Pl) (k : Nat) : Int := (cc p q k (dgg (mm p q k))).sign
def sgL (p q : Pl) (k : Nat) : Int := (-1) ^ dgg (mm p q k) * sgR p q k
def chR (p q : Pl) : Nat → Nat
  | 0 => 0
  | k + 1 => chR p q k + (if sgR p q (k + 1) = sgR p q k then 0 else 1)
def chL (p q : Pl) : Nat → Nat
  | 0 => 0
  | k + 1 => chL p q k + (if sgL p q (k + 1) = sgL p q k then 0 else 1)
theorem chR_le (p q : Pl) : ∀ k, chR p q k ≤ k
  | 0 => Nat.le_refl _
  | k + 1 => by have := chR_le p q k; simp only [chR]; split <;> omega
theorem chL_le (p q : Pl) : ∀ k, chL p q k ≤ k
  | 0 => Nat.le_refl _
  | k + 1 => by have := chL_le p q k; simp only [chL]; split <;> omega
theorem ends_sg {p q : Pl} {s M : Nat} (h : gdp p q s) (he : ends p q M) {k : Nat} (hk : k < M) : (lo p q k = 1 ∨ lo p q k = -1) ∧ dgr (mm p q k) (dgg (mm p q k)) ∧ (sgR p q k = 1 ∨ sgR p q k = -1) := by
  obtain ⟨e1, e2, e3, e4⟩ := he
  have l := lo_pm h k (fun i hi => e2 i (by omega)) (fun i hi h3 => e3 i (by omega) h3)
  have d := (gh_nz h (k := M - 1) (by omega) e2 e3).2.2.2 k (by omega)
  refine ⟨l, d, sign_pm ?_⟩
  show lo p q k * mm p q k (dgg (mm p q k)) ≠ 0
  exact Int.mul_ne_zero (by omega) d.1
theorem par_xor : ∀ a, a < 9 → ∀ b, b < 9 → ((((nI a ^^^ nI b) &&& 1) = 0) ↔ (a % 2 = b % 2)) := by decide +kernel
theorem m1_pow (n : Nat) : ((-1 : Int) ^ n) = if n % 2 = 0 then 1 else -1 := by
  induction n with
  | zero => rfl
  | succ n ih =>
    rw [Int.pow_succ, ih]
    by_cases h : n % 2 = 0
    · rw [if_pos h, if_neg (by omega)]; rfl
    · rw [if_neg h, if_pos (by omega)]; rfl
theorem sgL_eq {p q : Pl} {a b : Nat} (ha : sgR p q a = 1 ∨ sgR p q a = -1) (hb : sgR p q b = 1 ∨ sgR p q b = -1) : (sgL p q a = sgL p q b) ↔ ((dgg (mm p q a) % 2 = dgg (mm p q b) % 2) ↔ sgR p q a = sgR p q b) := by
  unfold sgL
  rw [m1_pow, m1_pow]
  rcases ha with x | x <;> rcases hb with y | y <;> rw [x, y] <;> by_cases h1 : dgg (mm p q a) % 2 = 0 <;> by_cases h2 : dgg (mm p q b) % 2 = 0 <;> simp [h1, h2] <;> omega
theorem sgI_eq {x y : Int} : sgI x = sgI y ↔ x.sign = y.sign := by
  constructor
  · intro h
    rw [← sgI_t, ← sgI_t, h]
  · intro h
    exact i_inj (by rw [sgI_t, sgI_t, h])
theorem cbl_l {fu B s M : Nat} {σ : rr_M} {Z : Nat → Option Int} {p q : Pl} (h : gdp p q s) (he : ends p q M) (hM : M ≤ 10) (hc : crf B σ) (h3 : mg_i σ (B + 63) 3 = nI M) (hR : crs B (M - 1) σ Z p q) {kk : Int32 → Option Int32} {Q : Int32 → Prop} (hk : wq (kk (nI (chL p q (M - 1)))) Q) :
    ∀ (f k : Nat), 1 ≤ k → k ≤ M → M + 1 - k ≤ f → wq (l_Seq_changesBelow_4 fu (nx B) (B + 63) σ f (nI (chL p q (k - 1))) (nI k) kk) Q
  | 0, k, h1, h2, h4 => by omega
  | f + 1, k, h1, h2, h4 => by
    rw [l_Seq_changesBelow_4, h3]
    by_cases hkM : k = M
    · subst hkM
      exact wq_ip (nI_le (Nat.le_refl _) (by omega)) hk
    · have c0 : ¬ nI M ≤ nI k := nI_ge (by omega) (by omega)
      have c1 : ¬ (10 : Int32) ≤ nI k := nI_ge (b := 10) (by omega) (by omega)
      have e1 : nI k - 1 = nI (k - 1) := nI_sub (b := 1) h1
      have m1 : rr_n (nI k) = k := n_nI (by omega)
      have m2 : rr_n (nI (k - 1)) = k - 1 := n_nI (by omega)
      have i1 : rr_ix (nI k) (nx B (B + 65)) = true := by rw [nx_65]; exact ix_nI (by omega) (by omega)
      have i2 : rr_ix (nI (k - 1)) (nx B (B + 65)) = true := by rw [nx_65]; exact ix_nI (by omega) (by omega)
      have i3 : rr_ix (nI k) (nx B (B + 66)) = true := by rw [nx_66]; exact ix_nI (by omega) (by omega)
      have i4 : rr_ix (nI (k - 1)) (nx B (B + 66)) = true := by rw [nx_66]; exact ix_nI (by omega) (by omega)
      obtain ⟨_, a2, a3⟩ := hR k (by omega)
      obtain ⟨_, b2, b3⟩ := hR (k - 1) (by omega)
      obtain ⟨_, _, s1⟩ := ends_sg h he (show k < M by omega)
      obtain ⟨_, _, s2⟩ := ends_sg h he (show k - 1 < M by omega)
      dsimp only [rr_lt, rr_jn]
      rw [if_neg c0, if_neg c1, sq_1 hc, sq_2 hc, e1, m1, m2, a2, a3, b2, b3]
      refine wq_ip i1 (wq_ip i2 ?_)
      have hpar := par_xor (dgg (mm p q k)) (by have := dgg_lt (mm p q k); omega) (dgg (mm p q (k - 1))) (by have := dgg_lt (mm p q (k - 1)); omega)
      have hsg : (sgI (cc p q k (dgg (mm p q k))) = sgI (cc p q (k - 1) (dgg (mm p q (k - 1))))) ↔ sgR p q k = sgR p q (k - 1) := sgI_eq
      have hL := sgL_eq s1 s2
      have hch : chL p q k = chL p q (k - 1) + (if sgL p q k = sgL p q (k - 1) then 0 else 1) := by
        obtain ⟨j, rfl⟩ : ∃ j, k = j + 1 := ⟨k - 1, by omega⟩
        rfl
      have goon : wq (l_Seq_changesBelow_4 fu (nx B) (B + 63) σ f (nI (chL p q k)) (nI (k + 1)) kk) Q := by
        have := cbl_l (fu := fu) h he hM hc h3 hR hk f (k + 1) (by omega) (by omega) (by omega)
        rw [Nat.add_sub_cancel] at this
        exact this
      by_cases hp : dgg (mm p q k) % 2 = dgg (mm p q (k - 1)) % 2
      · rw [if_pos (hpar.mpr hp)]
        refine wq_ip i3 (wq_ip i4 ?_)
        by_cases hs : sgR p q k = sgR p q (k - 1)
        · rw [if_pos (hsg.mpr hs), if_pos rfl, nI_1]
          rw [if_pos (hL.mpr ⟨fun _ => hs, fun _ => hp⟩), Nat.add_zero] at hch
          rw [← hch]; exact goon
        · rw [if_neg (fun hh => hs (hsg.mp hh)), if_neg (by decide), nI_1, nI_1]
          rw [if_neg (fun hh => hs ((hL.mp hh).mp hp))] at hch
          rw [← hch]; exact goon
      · rw [if_neg (fun hh => hp (hpar.mp hh))]
        refine wq_ip i3 (wq_ip i4 ?_)
        by_cases hs : sgR p q k = sgR p q (k - 1)
        · rw [if_pos (hsg.mpr hs), if_neg (by decide), nI_1, nI_1]
          rw [if_neg (fun hh => hp ((hL.mp hh).mpr hs))] at hch
          rw [← hch]; exact goon
        · rw [if_neg (fun hh => hs (hsg.mp hh)), if_pos rfl, nI_1]
          rw [if_pos (hL.mpr ⟨fun hh => absurd hh hp, fun hh => absurd hh hs⟩), Nat.add_zero] at hch
          rw [← hch]; exact goon
theorem cbl_ok {fu B s M : Nat} {σ : rr_M} {Z : Nat → Option Int} {p q : Pl} (hfu : 400 < fu) (h : gdp p q s) (he : ends p q M) (hM : M ≤ 10) (hc : crf B σ) (h3 : mg_i σ (B + 63) 3 = nI M) (hR : crs B (M - 1) σ Z p q) : wq (f_Seq_changesBelow fu (nx B) (B + 63) σ) (fun v => v = nI (chL p q (M - 1))) := by
  unfold f_Seq_changesBelow
  have := he.1
  exact cbl_l (fu := fu) (kk := fun v => some v) (Q := fun v => v = nI (chL p q (M - 1))) h he hM hc h3 hR (wq_some rfl) fu 1 (by omega) (by omega) (by omega)
theorem cjp_l {fu B s M : Nat} {σ : rr_M} {Z : Nat → Option Int} {p q : Pl} (h : gdp p q s) (he : ends p q M) (hM : M ≤ 10) (hc : crf B σ) (h3 : mg_i σ (B + 63) 3 = nI M) (hR : crs B (M - 1) σ Z p q) {kk : Int32 → Option Int32} {Q : Int32 → Prop} (hk : wq (kk (nI (chR p q (M - 1)))) Q) :
    ∀ (f k : Nat), 1 ≤ k → k ≤ M → M + 1 - k ≤ f → wq (l_Seq_jumps_4 fu (nx B) (B + 63) σ f (nI (chR p q (k - 1))) (nI k) kk) Q
  | 0, k, h1, h2, h4 => by omega
  | f + 1, k, h1, h2, h4 => by
    rw [l_Seq_jumps_4, h3]
    by_cases hkM : k = M
    · subst hkM
      exact wq_ip (nI_le (Nat.le_refl _) (by omega)) hk
    · have c0 : ¬ nI M ≤ nI k := nI_ge (by omega) (by omega)
      have c1 : ¬ (10 : Int32) ≤ nI k := nI_ge (b := 10) (by omega) (by omega)
      have e1 : nI k - 1 = nI (k - 1) := nI_sub (b := 1) h1
      have m1 : rr_n (nI k) = k := n_nI (by omega)
      have m2 : rr_n (nI (k - 1)) = k - 1 := n_nI (by omega)
      have i3 : rr_ix (nI k) (nx B (B + 66)) = true := by rw [nx_66]; exact ix_nI (by omega) (by omega)
      have i4 : rr_ix (nI (k - 1)) (nx B (B + 66)) = true := by rw [nx_66]; exact ix_nI (by omega) (by omega)
      obtain ⟨_, a2, a3⟩ := hR k (by omega)
      obtain ⟨_, b2, b3⟩ := hR (k - 1) (by omega)
      dsimp only [rr_lt, rr_jn]
      rw [if_neg c0, if_neg c1, sq_2 hc, e1, m1, m2, a3, b3]
      refine wq_ip i3 (wq_ip i4 ?_)
      have hsg : (sgI (cc p q k (dgg (mm p q k))) = sgI (cc p q (k - 1) (dgg (mm p q (k - 1))))) ↔ sgR p q k = sgR p q (k - 1) := sgI_eq
      have hch : chR p q k = chR p q (k - 1) + (if sgR p q k = sgR p q (k - 1) then 0 else 1) := by
        obtain ⟨j, rfl⟩ : ∃ j, k = j + 1 := ⟨k - 1, by omega⟩
        rfl
      have goon : wq (l_Seq_jumps_4 fu (nx B) (B + 63) σ f (nI (chR p q k)) (nI (k + 1)) kk) Q := by
        have := cjp_l (fu := fu) h he hM hc h3 hR hk f (k + 1) (by omega) (by omega) (by omega)
        rw [Nat.add_sub_cancel] at this
        exact this
      by_cases hs : sgR p q k = sgR p q (k - 1)
      · rw [if_pos (hsg.mpr hs), nI_1]
        rw [if_pos hs, Nat.add_zero] at hch
        rw [← hch]; exact goon
      · rw [if_neg (fun hh => hs (hsg.mp hh)), nI_1, nI_1]
        rw [if_neg hs] at hch
        rw [← hch]; exact goon
theorem cjp_ok {fu B s M : Nat} {σ : rr_M} {Z : Nat → Option Int} {p q : Pl} (hfu : 400 < fu) (h : gdp p q s) (he : ends p q M) (hM : M ≤ 10) (hc : crf B σ) (h3 : mg_i σ (B + 63) 3 = nI M) (hR : crs B (M - 1) σ Z p q) : wq (f_Seq_jumps fu (nx B) (B + 63) σ) (fun v => v = nI (chL p q (M - 1)) - nI (chR p q (M - 1))) := by
  unfold f_Seq_jumps
  have := he.1
  refine cjp_l (fu := fu) h he hM hc h3 hR ?_ fu 1 (by omega) (by omega) (by omega)
  refine wq_ob (wq_mo (cbl_ok hfu h he hM hc h3 hR) ?_)
  rintro v rfl
  exact wq_some rfl
theorem cld_dg {fu B s M : Nat} {σ : rr_M} {Z : Nat → Option Int} {p q : Pl} (he : ends p q M) (hM : M ≤ 10) (hc : crf B σ) (h3 : mg_i σ (B + 63) 3 = nI M) (hR : crs B (M - 1) σ Z p q) : f_Seq_lastDegree (nx B) (B + 63) σ = some (nI (dgg (mm p q (M - 1)))) := by
  have h1 := he.1
  have c0 : ¬ nI M ≤ 0 := nI_nle (by omega) (by omega)
  have c1 : ¬ (10 : Int32) < nI M := nI_nlt (b := M) (a := 10) hM (by omega)
  have e1 : nI M - 1 = nI (M - 1) := nI_sub (b := 1) (by omega)
  have m1 : rr_n (nI (M - 1)) = M - 1 := n_nI (by omega)
  have i1 : rr_ix (nI (M - 1)) (nx B (B + 65)) = true := by rw [nx_65]; exact ix_nI (by omega) (by omega)
  unfold f_Seq_lastDegree
  rw [h3, if_neg c0, if_neg c1]
  simp only [rr_lt, sq_1 hc, e1, m1, i1, if_true, (hR (M - 1) (Nat.le_refl _)).2.1]
