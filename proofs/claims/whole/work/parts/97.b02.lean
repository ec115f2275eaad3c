/-! ===== a combination that is a number, and its size ===== -/
theorem npos {p : Pl} {d : Nat} (h : dgr p d) : 0 < nsz (d + 1) p := by
  have := nsz_ge p (d + 1) d (by omega)
  have := h.1
  omega
theorem bez_last {p q : Pl} {s M : Nat} (h : gdp p q s) (he : ends p q M) (h0 : dgg (mm p q (M - 1)) = 0) :
    ∃ (u v : Pl) (κ : Int), κ ≠ 0 ∧ pbd (dgg q) u ∧ fin v ∧ pad (pmu u p) (pmu v q) = pcn κ ∧ ∀ i, (u i).natAbs ≤ 2 * nsz (dgg p + 1) p ^ (dgg q - 1) * nsz (dgg q + 1) q ^ dgg p := by
  have h2 := he.1
  obtain ⟨g1, g2, g3, g4, g5, g6, _⟩ := h
  have tp := dln_top g1 g3
  have tq := dln_top g2 g4
  by_cases hM : M = 2
  · subst hM
    have h0 : dgg q = 0 := h0
    have eq := dgr_0 (by rw [← h0]; exact tq.1 : dgr q 0)
    refine ⟨pz, pcn 1, q 0, ?_, fun _ _ => rfl, fin_pcn 1, ?_, fun i => Nat.zero_le _⟩
    · have := tq.1.1; rw [h0] at this; exact this
    · rw [pmu_z, pmu_one, ← eq]
      exact pl_ext (fun t => by show (0 : Int) + q t = q t; omega)
  · obtain ⟨k, hk⟩ : ∃ k, M = k + 2 := ⟨M - 2, by omega⟩
    subst hk
    have hk1 : 1 ≤ k := by omega
    have hm1 : mmn p q k := fun i hi => he.2.1 i (by omega)
    have hm2 : ∀ i, i ≤ k → 1 ≤ i → 0 < dgg (mm p q i) := fun i hi h3 => he.2.2.1 i (by omega) h3
    obtain ⟨H, hb⟩ := mm_chn g1 g2 g5 k hk1 hm1 (fun i h1 h2 => hm2 i (by omega) h2)
    have ha := dln_top (hb (k - 1) (by omega)) (hm1 (k - 1) (by omega))
    have hbb := dln_top (hb k (by omega)) (hm1 k (by omega))
    obtain ⟨hdk, hdk'⟩ := chn_d H k (by omega) (by omega)
    have hdk : dgg (mm p q k) ≤ dgg (mm p q (k - 1)) := hdk
    obtain ⟨hg0, hh0⟩ := chn_h0 H k (by omega) (by omega)
    have hg0 : 0 < (gm p q k).natAbs := hg0
    have hh0 : 0 < (hm p q k).natAbs := hh0
    have hdp := hm2 k (by omega) (by omega)
    have hR1 := prs_eq (b := mm p q k (dgg (mm p q k))) (B := mm p q k) (A := mm p q (k - 1)) hdk _ (Nat.le_refl _)
    have hR2 := prs_hi (b := mm p q k (dgg (mm p q k))) (B := mm p q k) (A := mm p q (k - 1)) hdk rfl (fun t ht => ha.1.2 t (by omega)) (fun t ht => hbb.1.2 t (by omega)) _ (Nat.le_refl _)
    have hR3 : ∀ t, dgg (mm p q k) ≤ t → rem2 (mm p q (k - 1)) (mm p q k) t = 0 := fun t ht => hR2 t (by omega)
    have hs : ∀ t, (rem2 (mm p q (k - 1)) (mm p q k) t).natAbs = (gm p q k).natAbs * (hm p q k).natAbs ^ (dgg (mm p q (k - 1)) - dgg (mm p q k)) * sbr (fun f => f t) (dgg (mm p q k) - 1) (mm p q 0) (dgg (mm p q 1) - (dgg (mm p q k) - 1)) (mm p q 1) (dgg (mm p q 0) - (dgg (mm p q k) - 1)) := by
      intro t
      exact chn_left (φ := fun f => f t) (fun a f g => rfl) (by omega) H hdp (dvr_of hR1) (by rw [Int.natAbs_pow]) hR3
    obtain ⟨hmk, _⟩ := mm_ex g1 g2 g5 hk1 hm1 hm2
    have hdec := ends_dec g1 g2 g5 (k - 1) (by rw [show k - 1 + 1 = k by omega]; exact hm1) (fun i hi h3 => hm2 i (by omega) h3)
    rw [show k - 1 + 1 = k by omega] at hdec
    obtain ⟨u, v, b1, b2, b3, b4⟩ := sbr_bez (A := p) (B := q) (m := dgg p) (n := dgg q) (fun t ht => tp.1.2 t ht) (fun t ht => tq.1.2 t ht) (dgg (mm p q k) - 1) (dgg q - (dgg (mm p q k) - 1)) (dgg p - (dgg (mm p q k) - 1)) (by omega) (npos tp.1)
    have hval : ∀ t, (pad (pmu u p) (pmu v q) t).natAbs = (mm p q (k + 1) t).natAbs := fun t => by
      rw [b3 t]
      have e1 := congrArg Int.natAbs (congrFun hmk t)
      rw [hs t] at e1
      simp only [psc] at e1
      rw [Int.natAbs_mul, Int.natAbs_mul, Int.natAbs_pow] at e1
      exact (Nat.eq_of_mul_eq_mul_left (Nat.mul_pos hg0 (Nat.pow_pos hh0)) e1).symm
    have hl := ends_last ⟨g1, g2, g3, g4, g5, g6, by assumption⟩ he
    have e8 : k + 2 - 1 = k + 1 := by omega
    rw [e8] at h0 hl
    have tl := (dln_top hl.1 hl.2).1
    rw [h0] at tl
    refine ⟨u, v, pad (pmu u p) (pmu v q) 0, ?_, fun t ht => b1 t (by omega), ⟨_, b2⟩, ?_, fun i => Nat.le_trans (b4 i) ?_⟩
    · have := hval 0
      have := tl.1
      omega
    · exact dgr_0' (fun t ht => by
        have a := hval t
        rw [tl.2 t (by omega)] at a
        exact Int.natAbs_eq_zero.mp a)
    · refine Nat.mul_le_mul (Nat.mul_le_mul_left 2 (Nat.pow_le_pow_right (npos tp.1) (by omega))) (Nat.pow_le_pow_right (npos tq.1) (by omega))
-- the other order
theorem mono_0 : mono 0 = pcn 1 := pl_ext (fun _ => rfl)
theorem rv_mn (N : Nat) (κ : Int) : rv N (pcn κ) = psc κ (mono N) := pl_ext (fun i => by
  show (if i ≤ N then (if N - i = 0 then κ else 0) else 0) = κ * (if i = N then 1 else 0)
  by_cases h : i = N
  · subst h; rw [if_pos (Nat.le_refl _), if_pos (by omega), if_pos rfl]; omega
  · rw [if_neg h]
    by_cases h2 : i ≤ N
    · rw [if_pos h2, if_neg (by omega)]; omega
    · rw [if_neg h2]; omega)
theorem rv_pad (N : Nat) (f g : Pl) : rv N (pad f g) = pad (rv N f) (rv N g) := pl_ext (fun i => by
  show (if i ≤ N then f (N - i) + g (N - i) else 0) = (if i ≤ N then f (N - i) else 0) + (if i ≤ N then g (N - i) else 0)
  by_cases h : i ≤ N
  · rw [if_pos h, if_pos h, if_pos h]
  · rw [if_neg h, if_neg h, if_neg h]; rfl)
theorem mono_unit {g : Pl} {κ : Int} (hg : g 0 ≠ 0) (hgd : ∃ d, dgr g d) (hκ : κ ≠ 0) : ∀ (N : Nat) (X : Pl), fin X → pmu g X = psc κ (mono N) → dgr g 0
  | 0, X, fX, h => by
    refine unit_dg fX hgd hκ (h.trans ?_)
    rw [mono_0, ← pmu_pcn_r, pmu_one]
  | N + 1, X, fX, h => by
    have h0 : X 0 = 0 := by
      have e := congrFun h 0
      have e : g 0 * X 0 = κ * (if 0 = N + 1 then 1 else 0) := e
      rw [if_neg (by omega), Int.mul_zero] at e
      rcases Int.mul_eq_zero.mp e with q | q
      · exact absurd q hg
      · exact q
    have hX : X = pmu (mono 1) (ptl X) := by
      rw [shf_mu]
      refine pl_ext (fun i => ?_)
      show X i = if i < 1 then 0 else X (i - 1 + 1)
      by_cases hi : i < 1
      · rw [if_pos hi, show i = 0 by omega]; exact h0
      · rw [if_neg hi, show i - 1 + 1 = i by omega]
    have fX' : fin (ptl X) := by
      obtain ⟨n, hn⟩ := fX
      exact ⟨n, fun k hk => hn (k + 1) (by omega)⟩
    refine mono_unit hg hgd hκ N (ptl X) fX' ?_
    have hm : mono (N + 1) = pmu (mono 1) (mono N) := by
      rw [shf_mu]
      refine pl_ext (fun i => ?_)
      show (if i = N + 1 then (1 : Int) else 0) = if i < 1 then 0 else (if i - 1 = N then 1 else 0)
      by_cases hi : i < 1
      · rw [if_pos hi, if_neg (by omega)]
      · rw [if_neg hi]
        by_cases h5 : i = N + 1
        · rw [if_pos h5, if_pos (by omega)]
        · rw [if_neg h5, if_neg (by omega)]
    have hnz : mono 1 ≠ pz := fun hh => by
      have := congrFun hh 1
      have : (1 : Int) = 0 := this
      omega
    refine pmu_cancel hnz ?_
    rw [← pmu_assoc, pmu_comm (mono 1) g, pmu_assoc, ← hX, h, hm, psc_mur]
theorem rv_gdp {h : Pl} {s d : Nat} (hg : gdp h (der h) s) (hd : dgr h (d + 1)) (hc : cpr h (der h)) : gdp (rv (d + 1) h) (rv d (der h)) s ∧ dgg (rv (d + 1) h) ≤ d + 1 ∧ dgg (rv d (der h)) ≤ d ∧ d + 1 < 9 ∧ dgg h = d + 1 := by
  obtain ⟨g1, g2, g3, g4, g5, g6, g7, g8, g9, g10⟩ := hg
  have hdd : dgg h = d + 1 := dgr_un (dln_top g1 g3).1 hd
  have h9 := (dln_top g1 g3).2
  obtain ⟨e1, e2, e3⟩ := dgg_der g1 (by omega)
  have p9 : pbd 9 (rv (d + 1) h) := fun k hk => rv_pbd _ _ k (by omega)
  have q9 : pbd 9 (rv d (der h)) := fun k hk => rv_pbd _ _ k (by omega)
  have hp0 : rv (d + 1) h 0 ≠ 0 := hd.1
  have hq0 : rv d (der h) 0 ≠ 0 := (der_dgr hd).1
  have a1 := (dgg_ge p9 hp0).2
  have a2 := (dgg_ge q9 hq0).2
  have a3 := dgg_le p9 (rv_pbd _ _) a1
  have a4 := dgg_le q9 (rv_pbd _ _) a2
  have a5 : d ≤ dgg (rv (d + 1) h) := by
    by_cases h0 : h 0 = 0
    · have h1 : h 1 ≠ 0 := by
        intro h1
        obtain ⟨U, W, κ, _, _, hκ, e⟩ := hc
        have e := congrFun e 0
        have e : U 0 * h 0 + W 0 * (((0 : Nat) : Int) + 1) * h 1 = κ := by
          have e' : U 0 * h 0 + W 0 * ((((0 : Nat) : Int) + 1) * h (0 + 1)) = κ := e
          rw [← Int.mul_assoc] at e'
          exact e'
        rw [h0, h1] at e
        omega
      refine (dgg_ge p9 (k := d) ?_).1
      show (if d ≤ d + 1 then h (d + 1 - d) else 0) ≠ 0
      rw [if_pos (by omega), show d + 1 - d = 1 by omega]
      exact h1
    · have := (dgg_ge p9 (k := d + 1) (by
        show (if d + 1 ≤ d + 1 then h (d + 1 - (d + 1)) else 0) ≠ 0
        rw [if_pos (by omega), Nat.sub_self]
        exact h0)).1
      omega
  refine ⟨⟨p9, q9, a1, a2, by omega, ?_, ?_, g8, ?_, g10⟩, a3, a4, by omega, hdd⟩
  · refine Nat.le_trans (nsz_mn _ (show dgg (rv (d + 1) h) + 1 ≤ d + 1 + 1 by omega)) ?_
    rw [nsz_rv, ← hdd]; exact g6
  · refine Nat.le_trans (nsz_mn _ (show dgg (rv d (der h)) + 1 ≤ d + 1 by omega)) ?_
    rw [nsz_rv, show d + 1 = dgg (der h) + 1 by omega]; exact g7
  · refine Nat.le_trans (Nat.mul_le_mul_left s ?_) g9
    omega
theorem rv_const {h : Pl} {s d M : Nat} (hg : gdp h (der h) s) (hd : dgr h (d + 1)) (hc : cpr h (der h)) (he : ends (rv (d + 1) h) (rv d (der h)) M) : dgg (mm (rv (d + 1) h) (rv d (der h)) (M - 1)) = 0 := by
  obtain ⟨hgr, _, _, h9, hdd⟩ := rv_gdp hg hd hc
  have h2 := he.1
  obtain ⟨l1, l2⟩ := ends_last hgr he
  obtain ⟨g1, g2, g3, g4, g5, g6⟩ := ppt_ok l1 l2
  obtain ⟨a1, a2⟩ := cof_ok hgr he (show 0 < M by omega)
  obtain ⟨b1, b2⟩ := cof_ok hgr he (show 1 < M by omega)
  have a2 : rv (d + 1) h = pmu (ppt (mm (rv (d + 1) h) (rv d (der h)) (M - 1))) (cof (rv (d + 1) h) (rv d (der h)) M 0) := a2
  have b2 : rv d (der h) = pmu (ppt (mm (rv (d + 1) h) (rv d (der h)) (M - 1))) (cof (rv (d + 1) h) (rv d (der h)) M 1) := b2
  obtain ⟨U, W, κ, ⟨n1, fU⟩, ⟨n2, fW⟩, hκ, e⟩ := hc
  obtain ⟨n, hn1, hn2⟩ : ∃ n, n1 ≤ n ∧ n2 ≤ n := ⟨n1 + n2, by omega, by omega⟩
  have r1 := rv_pmu hd.2 n U (pbd_mono fU (by omega))
  have r2 := rv_pmu (der_dgr hd).2 (n + 1) W (pbd_mono fW (by omega))
  have r3 := congrArg (rv (n + (d + 1))) e
  rw [rv_pad, rv_mn, r1, show n + (d + 1) = n + 1 + d by omega, r2] at r3
  have r4 : ∀ (G c0 c1 : Pl), rv (d + 1) h = pmu G c0 → rv d (der h) = pmu G c1 → pmu G (pad (pmu (rv n U) c0) (pmu (rv (n + 1) W) c1)) = psc κ (mono (n + 1 + d)) := by
    intro G c0 c1 x y
    rw [x, y] at r3
    exact unit_r rP _ _ _ _ _ _ r3
  have r4 := r4 _ _ _ a2 b2
  have hg0 : ppt (mm (rv (d + 1) h) (rv d (der h)) (M - 1)) 0 ≠ 0 := fun hh => by
    have e0 := congrFun a2 0
    have e0 : rv (d + 1) h 0 = ppt (mm (rv (d + 1) h) (rv d (der h)) (M - 1)) 0 * cof (rv (d + 1) h) (rv d (der h)) M 0 0 := e0
    rw [hh, Int.zero_mul] at e0
    exact hd.1 e0
  have := mono_unit hg0 ⟨_, g5⟩ hκ _ _ (fin_pad (fin_pmu ⟨_, rv_pbd _ _⟩ a1) (fin_pmu ⟨_, rv_pbd _ _⟩ b1)) r4
  exact dgr_un g5 this
