/-! ===== brackets are parted ===== -/
/-- brackets only shrink -/
def bsh (B n : Nat) (σ0 σ : rr_M) : Prop := ∀ i, i < n → (mg_l σ0 (B + 331) i).toInt ≤ (mg_l σ (B + 331) i).toInt ∧ (mg_l σ (B + 332) i).toInt ≤ (mg_l σ0 (B + 332) i).toInt
def bof (B : Nat) (mid : Int) (σ : rr_M) (i : Nat) : Prop := (mg_l σ (B + 332) i).toInt ≤ mid ∨ mid ≤ (mg_l σ (B + 331) i).toInt
theorem prt_hi {B k : Nat} {σ : rr_M} {P : Pl} {m : Int64} (hP : pok P) (hd : 0 < dgg P) (h : bk1 B σ P k) (hm : ¬ mg_l σ (B + 332) k ≤ m) (hu : (k : Int) < cX P m.toInt) :
    bk1 B (ms_i (ms_l σ (B + 332) k m) (B + 334) k (nI (cX P m.toInt).toNat)) P k ∧ (mg_l σ (B + 331) k).toInt < m.toInt ∧ m.toInt < (mg_l σ (B + 332) k).toInt := by
  obtain ⟨a1, a2, a3, a4, a5, a6, a7⟩ := h
  rw [Int64.le_iff_toInt_le] at hm
  have hlt : (mg_l σ (B + 331) k).toInt < m.toInt := by
    apply Int.not_le.mp
    intro hh
    have := cX_mono hP hd hh
    omega
  refine ⟨?_, hlt, by omega⟩
  unfold bk1
  rw [si_l, sl_n (by omega), sl_s, si_n (by omega), sl_i, si_s]
  exact ⟨hlt, a2, by omega, a4, rfl, a6, hu⟩
theorem prt_lo {B k : Nat} {σ : rr_M} {P : Pl} {m : Int64} (hP : pok P) (hd : 0 < dgg P) (h : bk1 B σ P k) (hm : ¬ m ≤ mg_l σ (B + 331) k) (hu : cX P m.toInt ≤ (k : Int)) :
    bk1 B (ms_i (ms_l σ (B + 331) k m) (B + 333) k (nI (cX P m.toInt).toNat)) P k ∧ (mg_l σ (B + 331) k).toInt < m.toInt ∧ m.toInt < (mg_l σ (B + 332) k).toInt := by
  obtain ⟨a1, a2, a3, a4, a5, a6, a7⟩ := h
  rw [Int64.le_iff_toInt_le] at hm
  have hlt : m.toInt < (mg_l σ (B + 332) k).toInt := by
    apply Int.not_le.mp
    intro hh
    have := cX_mono hP hd hh
    omega
  refine ⟨?_, by omega, hlt⟩
  unfold bk1
  rw [si_l, sl_s, sl_n (by omega), si_s, si_n (by omega), sl_i]
  exact ⟨hlt, by omega, a3, rfl, a5, hu, a7⟩
def pst (B k : Nat) (mid : Int) (σ0 σ : rr_M) (Z : Nat → Option Int) (P : Pl) : Prop := fra B IK LK σ0 σ ∧ bgs B σ Z ∧ (∀ i, i < rn P 0 → bk1 B σ P i) ∧ bsh B (rn P 0) σ0 σ ∧ ∀ i, i < k → bof B mid σ i
theorem prt_in {fu B : Nat} {σ0 : rr_M} {Z : Nat → Option Int} {P : Pl} {m : Int64} (hP : pok P) (hd : 0 < dgg P) (hc0 : crf B σ0) (h5 : mg_i σ0 (B + 319) 5 = nI (rn P 0)) {kk : rr_M → Option (Unit × rr_M)} {Q : Unit × rr_M → Prop} (hk : ∀ σ, pst B (rn P 0) m.toInt σ0 σ Z P → wq (kk σ) Q) :
    ∀ (fl k : Nat) (σ : rr_M), k ≤ rn P 0 → 10 - k ≤ fl → pst B k m.toInt σ0 σ Z P → wq (l_Pla_part_79 fu (nx B) (B + 319) m (nI (cX P m.toInt).toNat) fl (nI k) σ kk) Q
  | 0, k, σ, h1, h2, _ => by
    have := rl_0 hP hd
    omega
  | fl + 1, k, σ, h1, h2, hS => by
    obtain ⟨F, L, hB, hsh, hof⟩ := hS
    obtain ⟨d1, d2, d3⟩ := rl_0 hP hd
    obtain ⟨p0, p1, p2, p3, p4, p7, p8, p9, p10, p11, p12, p13⟩ := rx_pla
    obtain ⟨s1, s2, s3, s4, s5, s6, s7, s8⟩ := rx_sim
    have hc := crf_fra hc0 F
    have i5 : mg_i σ (B + 319) 5 = nI (rn P 0) := by rw [F.2.1 319 (by decide) (by unfold IK; omega)]; exact h5
    have cr := cX_rg hP hd m.toInt
    rw [l_Pla_part_79]
    rw [i5]
    by_cases hke : k = rn P 0
    · subst hke
      exact wq_ip (nI_le (Nat.le_refl _) (by omega)) (hk σ ⟨F, L, hB, hsh, hof⟩)
    have hkn : k < rn P 0 := by omega
    refine wq_in (nI_ge (by omega) (by omega)) ?_
    dsimp only [rr_lt]
    have ml : rr_n (nI k) = k := n_nI (by omega)
    have ix : ∀ o, NX o = 8 → rr_ix (nI k) (nx B (B + o)) = true := fun o h => by rw [nx_at, h]; exact ix_nI (by omega) (by omega)
    rw [ml, nI_1]
    -- what follows the two tests
    have next : ∀ σ', pst B (k + 1) m.toInt σ0 σ' Z P → wq (l_Pla_part_79 fu (nx B) (B + 319) m (nI (cX P m.toInt).toNat) fl (nI (k + 1)) σ' kk) Q := fun σ' h => prt_in hP hd hc0 h5 hk fl (k + 1) σ' (by omega) (by omega) h
    have same : bof B m.toInt σ k → pst B (k + 1) m.toInt σ0 σ Z P := fun h => ⟨F, L, hB, hsh, fun i hi => by
      by_cases hik : i = k
      · subst hik; exact h
      · exact hof i (by omega)⟩
    refine wq_jj (fun σ' => (cX P m.toInt ≤ k ∧ σ' = σ) ∨ ((k : Int) < cX P m.toInt ∧ pst B (k + 1) m.toInt σ0 σ' Z P)) ?_ ?_
    · intro k' hk'
      by_cases hu : cX P m.toInt ≤ k
      · exact wq_ip (nI_le (by omega) (by omega)) (hk' σ (Or.inl ⟨hu, rfl⟩))
      refine wq_in (nI_ge (by omega) (by omega)) ?_
      rw [hc 319 8 (by omega), p8]
      refine wq_ip (ix 332 s6) ?_
      by_cases hm : mg_l σ (B + 332) k ≤ m
      · exact wq_ip hm (hk' σ (Or.inr ⟨by omega, same (Or.inl (Int64.le_iff_toInt_le.mp hm))⟩))
      refine wq_in hm (wq_ip (ix 332 s6) ?_)
      rw [sl_r, hc 319 10 (by omega), p10]
      refine wq_ip (ix 334 s8) (hk' _ (Or.inr ⟨by omega, ?_⟩))
      obtain ⟨x1, x2, x3⟩ := prt_hi hP hd (hB k hkn) hm (by omega)
      refine ⟨fra_tr F (fra_tr (fra_ml (by unfold LK; omega)) (fra_mi (by unfold IK; omega))), bgs_ms (bgs_msl L (by decide)) (by decide), fun i hi => ?_, fun i hi => ?_, fun i hi => ?_⟩
      · by_cases hik : i = k
        · subst hik; exact x1
        · exact bk1_of (hB i hi) (by rw [si_l, sl_n (by omega)]) (by rw [si_l, sl_n (by omega)]) (by rw [si_n (by omega), sl_i]) (by rw [si_n (by omega), sl_i])
      · have := hsh i hi
        rw [si_l, sl_n (by omega)]
        by_cases hik : i = k
        · subst hik; rw [sl_s]; omega
        · rw [sl_n (by omega)]; exact this
      · unfold bof
        rw [si_l, sl_n (a := B + 332) (b := B + 331) (by omega)]
        by_cases hik : i = k
        · subst hik; rw [sl_s]; omega
        · rw [sl_n (by omega)]; exact hof i (by omega)
    · rintro σ' hR
      refine wq_jj (fun σ'' => pst B (k + 1) m.toInt σ0 σ'' Z P) ?_ next
      intro k' hk'
      rcases hR with ⟨hu, rfl⟩ | ⟨hu, hp⟩
      rotate_left
      · exact wq_ip (nI_lt (by omega) (by omega)) (hk' σ' hp)
      refine wq_in (nI_nlt (by omega) (by omega)) ?_
      rw [hc 319 7 (by omega), p7]
      refine wq_ip (ix 331 s5) ?_
      by_cases hm : m ≤ mg_l σ' (B + 331) k
      · exact wq_ip hm (hk' σ' (same (Or.inr (Int64.le_iff_toInt_le.mp hm))))
      refine wq_in hm (wq_ip (ix 331 s5) ?_)
      rw [sl_r, hc 319 9 (by omega), p9]
      refine wq_ip (ix 333 s7) (hk' _ ?_)
      obtain ⟨x1, x2, x3⟩ := prt_lo hP hd (hB k hkn) hm hu
      refine ⟨fra_tr F (fra_tr (fra_ml (by unfold LK; omega)) (fra_mi (by unfold IK; omega))), bgs_ms (bgs_msl L (by decide)) (by decide), fun i hi => ?_, fun i hi => ?_, fun i hi => ?_⟩
      · by_cases hik : i = k
        · subst hik; exact x1
        · exact bk1_of (hB i hi) (by rw [si_l, sl_n (by omega)]) (by rw [si_l, sl_n (by omega)]) (by rw [si_n (by omega), sl_i]) (by rw [si_n (by omega), sl_i])
      · have := hsh i hi
        rw [si_l, sl_n (a := B + 331) (b := B + 332) (by omega)]
        by_cases hik : i = k
        · subst hik; rw [sl_s]; omega
        · rw [sl_n (by omega)]; exact this
      · unfold bof
        rw [si_l, sl_n (a := B + 331) (b := B + 332) (by omega)]
        by_cases hik : i = k
        · subst hik; rw [sl_s]; omega
        · rw [sl_n (by omega)]; exact hof i (by omega)
theorem jmid {a b : Int64} (h1 : -549755813888 ≤ a.toInt) (h2 : a.toInt < b.toInt) (h3 : b.toInt ≤ 549755813888) : ((a + b) >>> ((1 : Int32).toInt64 &&& 63)).toInt = (a.toInt + b.toInt) / 2 ∧ (b - a).toInt = b.toInt - a.toInt := by
  refine ⟨?_, j_sub (by omega) (by omega)⟩
  rw [show ((a + b) >>> ((1 : Int32).toInt64 &&& 63)).toInt = (a + b).toInt / 2 ^ 1 from Jvm.Kit.i64_shr _ _ (k := 1) (by decide), j_add (by omega) (by omega)]
  rfl
/-- how the placer stands -/
def plc (B : Nat) (σ0 σ : rr_M) (P : Pl) : Prop := pfx B (fun o => o = 280 ∨ IK o) LK σ0 σ ∧ (∃ Z, pcx B σ Z P) ∧ ∀ i, i < rn P 0 → bk1 B σ P i
theorem plc_in {B k : Nat} {m : Int} {σ0 σ : rr_M} {Z : Nat → Option Int} {P : Pl} (hP : pok P) (hd : 0 < dgg P) (X : pcx B σ0 Z P) (h : pst B k m σ0 σ Z P) : plc B σ0 σ P := by
  obtain ⟨F, L, hB, hsh, hof⟩ := h
  refine ⟨pfx_mo (fra_pfx F) (fun o h => Or.inr h) (fun o h => h), ⟨Z, ?_⟩, hB⟩
  obtain ⟨a, b, hp⟩ := X.2.2.1
  refine pcx_mv hP hd X (fra_pfx F) L ⟨a, b, ?_⟩ (fun _ _ => rfl) rfl (by unfold IK; omega) (fun i hi => by unfold LK; omega) (by rw [F.2.1 319 (by decide) (by unfold IK; omega)]) (by rw [F.2.1 319 (by decide) (by unfold IK; omega)])
  unfold prf at hp ⊢
  rw [F.1]
  exact hp
theorem plc_tr {B : Nat} {σ0 σ σ' : rr_M} {P : Pl} (h : plc B σ0 σ P) (h' : plc B σ σ' P) : plc B σ0 σ' P := ⟨pfx_tr h.1 h'.1, h'.2⟩
theorem prt_l {fu B j : Nat} {σ0 : rr_M} {P : Pl} (hfu : 400 < fu) (hP : pok P) (hd : 0 < dgg P) (hj : j < rn P 0) {Q : Unit × rr_M → Prop} (hk : ∀ σ, plc B σ0 σ P → (cX P (mg_l σ (B + 332) j).toInt ≤ cX P (mg_l σ (B + 331) j).toInt + 1 ∨ (mg_l σ (B + 332) j).toInt ≤ (mg_l σ (B + 331) j).toInt + 1) → Q ((), σ)) :
    ∀ (fl d : Nat) (σ : rr_M), d ≤ 40 → d < fl → plc B σ0 σ P → (mg_l σ (B + 332) j).toInt - (mg_l σ (B + 331) j).toInt ≤ 2 ^ d → wq (l_Pla_part_2 fu (nx B) (B + 319) (nI j) fl (nI (40 - d)) σ (fun σ_37 => some ((), σ_37))) Q
  | 0, d, σ, h1, h2, _, _ => by omega
  | fl + 1, d, σ, h1, h2, hS, hw => by
    obtain ⟨F, ⟨Z, X⟩, hB⟩ := hS
    obtain ⟨d1, d2, d3⟩ := rl_0 hP hd
    obtain ⟨p0, p1, p2, p3, p4, p7, p8, p9, p10, p11, p12, p13⟩ := rx_pla
    obtain ⟨s1, s2, s3, s4, s5, s6, s7, s8⟩ := rx_sim
    have hc := X.1
    obtain ⟨a1, a2, a3, a4, a5, a6, a7⟩ := hB j hj
    have c1 := cX_rg hP hd (mg_l σ (B + 331) j).toInt
    have c2 := cX_rg hP hd (mg_l σ (B + 332) j).toInt
    rw [l_Pla_part_2]
    refine wq_in (show ¬ (40 : Int32) < nI (40 - d) from nI_nlt (a := 40) (b := 40 - d) (by omega) (by omega)) ?_
    dsimp only [rr_lt]
    have ml : rr_n (nI j) = j := n_nI (by omega)
    have ix : ∀ o, NX o = 8 → rr_ix (nI j) (nx B (B + o)) = true := fun o h => by rw [nx_at, h]; exact ix_nI (by omega) (by omega)
    rw [ml, hc 319 10 (by omega), p10, hc 319 9 (by omega), p9, hc 319 8 (by omega), p8, hc 319 7 (by omega), p7]
    refine wq_ip (ix 334 s8) (wq_ip (ix 333 s7) ?_)
    rw [a4, a5, nI_sub (by omega)]
    by_cases hle : cX P (mg_l σ (B + 332) j).toInt ≤ cX P (mg_l σ (B + 331) j).toInt + 1
    · exact wq_ip (show nI _ ≤ (1 : Int32) from nI_le (b := 1) (by omega) (by omega)) (wq_some (hk σ ⟨F, ⟨Z, X⟩, hB⟩ (Or.inl hle)))
    refine wq_in (show ¬ nI _ ≤ (1 : Int32) from nI_ge (a := 1) (by omega) (by omega)) (wq_ip (ix 332 s6) (wq_ip (ix 331 s5) ?_))
    obtain ⟨t1, t2⟩ := jmid a2 a1 a3
    by_cases hlt : (mg_l σ (B + 332) j).toInt ≤ (mg_l σ (B + 331) j).toInt + 1
    · refine wq_in ?_ (wq_some (hk σ ⟨F, ⟨Z, X⟩, hB⟩ (Or.inr hlt)))
      rw [Int64.lt_iff_toInt_lt, t2]
      show ¬ (1 : Int) < _
      omega
    refine wq_ip ?_ (wq_ip (ix 331 s5) (wq_ip (ix 332 s6) ?_))
    · rw [Int64.lt_iff_toInt_lt, t2]
      show (1 : Int) < _
      omega
    have hd0 : d ≠ 0 := fun h => by
      subst h
      have : (2 : Int) ^ 0 = 1 := rfl
      omega
    obtain ⟨d', rfl⟩ : ∃ d', d = d' + 1 := ⟨d - 1, by omega⟩
    obtain ⟨m, hm⟩ : ∃ m, m = ((mg_l σ (B + 331) j + mg_l σ (B + 332) j) >>> ((1 : Int32).toInt64 &&& 63)) := ⟨_, rfl⟩
    rw [← hm] at t1
    rw [← hm, hc 319 2 (by omega), p2]
    refine wq_bd (wq_mo (mvc (e := 39) hfu hP hd X (by omega) (szb_39 (by omega) (by omega))) ?_)
    rintro ⟨u1, σ4⟩ ⟨F4, Z4, X4, O4, A4⟩
    dsimp only at F4 X4 A4 ⊢
    refine wq_bd (wq_mo (rupc hfu hP hd X4 A4 (hee39 P)) ?_)
    rintro ⟨r, σ5⟩ ⟨e5, F5, Z5, X5, O5, A5⟩
    dsimp only at e5 F5 X5 A5 ⊢
    have G5 : pfx B (fun o => o = 280) (fun _ => False) σ σ5 := pfx_tr F4 (pfx_mo F5 (fun o h => h.elim) (fun o h => h))
    have l1 : mg_l σ5 (B + 331) = mg_l σ (B + 331) := G5.2.2 331 (by decide) (fun h => h)
    have l2 : mg_l σ5 (B + 332) = mg_l σ (B + 332) := G5.2.2 332 (by decide) (fun h => h)
    have B5 : ∀ i, i < rn P 0 → bk1 B σ5 P i := fun i hi => bk1_of (hB i hi) (by rw [l1]) (by rw [l2]) (by rw [G5.2.1 333 (by decide) (by omega)]) (by rw [G5.2.1 334 (by decide) (by omega)])
    rw [show r = nI (cX P m.toInt).toNat from e5]
    refine prt_in (σ0 := σ5) (Z := Z5) hP hd X5.1 X5.2.2.2.2.2.2.2.1 (fun σ6 h6 => ?_) fu 0 σ5 (Nat.zero_le _) (by omega) ⟨fra_rf, X5.2.1, B5, fun i hi => ⟨Int.le_refl _, Int.le_refl _⟩, fun i hi => absurd hi (by omega)⟩
    rw [nI_1, show 40 - (d' + 1) + 1 = 40 - d' by omega]
    have h6' := plc_in hP hd X5 h6
    refine prt_l hfu hP hd hj hk fl d' σ6 (by omega) (by omega) (plc_tr ⟨pfx_tr F (pfx_mo G5 (fun o h => Or.inl h) (fun o h => h.elim)), ⟨Z5, X5⟩, B5⟩ h6') ?_
    obtain ⟨_, _, _, hsh, hof⟩ := h6
    have q1 := hsh j hj
    have q2 := hof j hj
    unfold bof at q2
    rw [l1, l2] at q1
    rw [Int.pow_succ] at hw
    omega
theorem prt_ok {fu B j : Nat} {σ : rr_M} {P : Pl} (hfu : 400 < fu) (hP : pok P) (hd : 0 < dgg P) (hj : j < rn P 0) (h : plc B σ σ P) :
    wq (f_Pla_part fu (nx B) (B + 319) (nI j) σ) (fun r => plc B σ r.2 P ∧ (cX P (mg_l r.2 (B + 332) j).toInt ≤ cX P (mg_l r.2 (B + 331) j).toInt + 1 ∨ (mg_l r.2 (B + 332) j).toInt ≤ (mg_l r.2 (B + 331) j).toInt + 1)) := by
  unfold f_Pla_part
  obtain ⟨a1, a2, a3, a4, a5, a6, a7⟩ := h.2.2 j hj
  refine prt_l (σ0 := σ) hfu hP hd hj (fun σ' h1 h2 => ⟨h1, h2⟩) fu 40 σ (by omega) (by omega) h ?_
  have : (2 : Int) ^ 40 = 1099511627776 := by decide
  omega
