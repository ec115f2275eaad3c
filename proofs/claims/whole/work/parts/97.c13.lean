/-! ===== a bracket is narrowed ===== -/
noncomputable def sL (P : Pl) : Int := (SM P 0 (dgg (SM P 0))).sign
theorem sL_ok {P : Pl} (hP : pok P) (hd : 0 < dgg P) : (sL P = 1 ∨ sL P = -1) ∧ sL P = es P 0 * (HL P 0 (dgg (HL P 0))).sign := by
  have h := dep_pos hP hd
  obtain ⟨v1, v2, v3, v4, v5, v6, v7⟩ := HL_ok hP hd h
  have e6 := (SM_seq hP hd).2.2.2.2.2.1
  have e : sL P = es P 0 * (HL P 0 (dgg (HL P 0))).sign := by
    unfold sL
    rw [e6]
    show (es P 0 * HL P 0 (dgg (HL P 0))).sign = _
    rw [Int.sign_mul]
    rcases es_pm hP hd 0 with q | q <;> rw [q] <;> rfl
  refine ⟨?_, e⟩
  rw [e]
  rcases es_pm hP hd 0 with q | q <;> rcases sign_pm v6.1 with q' | q' <;> rw [q, q'] <;> decide
theorem and1_tab : ∀ a, a < 9 → ((nI a &&& 1) = 0 ↔ a % 2 = 0) := by decide +kernel
theorem sgI_neg (z : Int) : (-(sgI z)).toInt = -(z.sign) := by
  rcases Int.lt_trichotomy z 0 with h | h | h
  · have : sgI z = -1 := by unfold sgI; rw [if_neg (by omega), if_pos h]
    rw [this, Int.sign_eq_neg_one_of_neg h]; rfl
  · subst h; rfl
  · have : sgI z = 1 := by unfold sgI; rw [if_pos h]
    rw [this, Int.sign_eq_one_of_pos h]; rfl
/-- the sign at a place of a bracket with one root tells on which side the root lies -/
theorem nar_sg {P : Pl} {j : Nat} (hP : pok P) (hd : 0 < dgg P) {L m : Int} (hj : (j : Int) < rl P 0) (hL : cX P L = j) (hLm : L < m) (hm : cX P m ≤ (j : Int) + 1) (hm0 : (j : Int) ≤ cX P m) :
    (es P 0 * sgq (vl (HL P 0) ((m : Rat) / (2 : Rat) ^ 12)) = (-1) ^ (rl P 0 - j).toNat * sL P) ↔ cX P m = j := by
  have h := dep_pos hP hd
  obtain ⟨l1, l2⟩ := sL_ok hP hd
  have hs := cn_sgn hP hd h ((m : Rat) / (2 : Rat) ^ 12)
  have hz : vl (HL P 0) ((m : Rat) / (2 : Rat) ^ 12) = 0 → cX P m = (j : Int) + 1 := fun h0 => by
    have := cn_zero hP hd h (gr_lt 12 hLm) h0
    unfold cX at hL hm hm0 ⊢
    omega
  have e1 : ((-1 : Int)) ^ (rl P 0 - j).toNat = 1 ∨ ((-1 : Int)) ^ (rl P 0 - j).toNat = -1 := by
    rw [m1_pow]
    by_cases hh : (rl P 0 - j).toNat % 2 = 0
    · rw [if_pos hh]; exact Or.inl rfl
    · rw [if_neg hh]; exact Or.inr rfl
  unfold rsg at hs
  by_cases h0 : sgq (vl (HL P 0) ((m : Rat) / (2 : Rat) ^ 12)) = 0
  · have hc := hz (sgq_0.mp h0)
    rw [h0, Int.mul_zero]
    constructor
    · intro hh
      rcases e1 with q | q <;> rcases l1 with q' | q' <;> rw [q, q'] at hh <;> omega
    · intro hh; omega
  · rw [if_neg h0] at hs
    rw [hs, show cn P 0 ((m : Rat) / (2 : Rat) ^ 12) = cX P m from rfl]
    by_cases hc : cX P m = j
    · rw [hc, l2]
      constructor
      · intro _; rfl
      · intro _; grind
    · have hc : cX P m = (j : Int) + 1 := by omega
      have e2 : (rl P 0 - j).toNat = (rl P 0 - cX P m).toNat + 1 := by omega
      constructor
      · intro hh
        rw [e2, Int.pow_succ] at hh
        have e3 : es P 0 * ((-1) ^ (rl P 0 - cX P m).toNat * (HL P 0 (dgg (HL P 0))).sign) = (-1) ^ (rl P 0 - cX P m).toNat * sL P := by rw [l2]; grind
        rw [e3] at hh
        rw [e2, Int.pow_succ] at e1
        generalize (-1 : Int) ^ (rl P 0 - cX P m).toNat = w at *
        rcases l1 with q' | q' <;> rw [q'] at hh <;> omega
      · intro hh; omega
theorem nar_l {fu B j : Nat} {σ0 : rr_M} {P : Pl} {t : Int32} (hfu : 400 < fu) (hP : pok P) (hd : 0 < dgg P) (hj : j < rn P 0) {Q : Unit × rr_M → Prop} (hk : ∀ σ, plc B σ0 σ P → (mg_l σ (B + 332) j).toInt = (mg_l σ (B + 331) j).toInt + 1 → Q ((), σ)) :
    ∀ (fl d : Nat) (σ : rr_M), d ≤ 40 → d < fl → plc B σ0 σ P → (mg_l σ (B + 332) j).toInt - (mg_l σ (B + 331) j).toInt ≤ 2 ^ d → ((mg_l σ (B + 332) j).toInt ≤ (mg_l σ (B + 331) j).toInt + 1 ∨ (cX P (mg_l σ (B + 332) j).toInt ≤ cX P (mg_l σ (B + 331) j).toInt + 1 ∧ t.toInt = (-1) ^ (rl P 0 - j).toNat * sL P)) → wq (l_Pla_narrow_44 fu (nx B) (B + 319) (nI j) t fl (nI (40 - d)) σ (fun σ_37 => some ((), σ_37))) Q
  | 0, d, σ, h1, h2, _, _, _ => by omega
  | fl + 1, d, σ, h1, h2, hS, hw, hal => by
    obtain ⟨F, ⟨Z, X⟩, hB⟩ := hS
    obtain ⟨d1, d2, d3⟩ := rl_0 hP hd
    obtain ⟨p0, p1, p2, p3, p4, p7, p8, p9, p10, p11, p12, p13⟩ := rx_pla
    obtain ⟨s1, s2, s3, s4, s5, s6, s7, s8⟩ := rx_sim
    have hc := X.1
    obtain ⟨a1, a2, a3, a4, a5, a6, a7⟩ := hB j hj
    rw [l_Pla_narrow_44]
    refine wq_in (show ¬ (40 : Int32) < nI (40 - d) from nI_nlt (a := 40) (b := 40 - d) (by omega) (by omega)) ?_
    dsimp only [rr_lt]
    have ml : rr_n (nI j) = j := n_nI (by omega)
    have ix : ∀ o, NX o = 8 → rr_ix (nI j) (nx B (B + o)) = true := fun o h => by rw [nx_at, h]; exact ix_nI (by omega) (by omega)
    rw [ml, hc 319 8 (by omega), p8, hc 319 7 (by omega), p7]
    refine wq_ip (ix 332 s6) (wq_ip (ix 331 s5) ?_)
    obtain ⟨t1, t2⟩ := jmid a2 a1 a3
    by_cases hlt : (mg_l σ (B + 332) j).toInt ≤ (mg_l σ (B + 331) j).toInt + 1
    · refine wq_in ?_ (wq_some (hk σ ⟨F, ⟨Z, X⟩, hB⟩ (by omega)))
      rw [Int64.lt_iff_toInt_lt, t2]
      show ¬ (1 : Int) < _
      omega
    obtain ⟨hal, ht⟩ : cX P (mg_l σ (B + 332) j).toInt ≤ cX P (mg_l σ (B + 331) j).toInt + 1 ∧ t.toInt = (-1) ^ (rl P 0 - j).toNat * sL P := by
      rcases hal with h | h
      · exact absurd h hlt
      · exact h
    have cL : cX P (mg_l σ (B + 331) j).toInt = j := by omega
    have cH : cX P (mg_l σ (B + 332) j).toInt = (j : Int) + 1 := by omega
    refine wq_ip ?_ (wq_ip (ix 331 s5) (wq_ip (ix 332 s6) ?_))
    · rw [Int64.lt_iff_toInt_lt, t2]
      show (1 : Int) < _
      omega
    have hd0 : d ≠ 0 := fun h => by
      subst h
      have : (2 : Int) ^ 0 = 1 := rfl
      omega
    obtain ⟨d', rfl⟩ : ∃ d', d = d' + 1 := ⟨d - 1, by omega⟩
    obtain ⟨m, hm⟩ : ∃ m, m = ((mg_l σ (B + 331) j + mg_l σ (B + 332) j) >>> ((1 : Int32).toInt64 &&& 63)) := ⟨_, rfl⟩
    rw [← hm] at t1
    rw [← hm, hc 319 2 (by omega), p2]
    refine wq_bd (wq_mo (mvc (e := 39) hfu hP hd X (by omega) (szb_39 (by omega) (by omega))) ?_)
    rintro ⟨u1, σ4⟩ ⟨F4, Z4, X4, O4, A4⟩
    dsimp only at F4 X4 A4 ⊢
    refine wq_bd (wq_mo (soac hfu hP hd X4 A4 (hee39 P)) ?_)
    rintro ⟨r, σ5⟩ ⟨e5, F5, Z5, X5, O5, A5⟩
    dsimp only at e5 F5 X5 A5 ⊢
    have G5 : pfx B (fun o => o = 280) (fun _ => False) σ σ5 := pfx_tr F4 (pfx_mo F5 (fun o h => h.elim) (fun o h => h))
    have l1 : mg_l σ5 (B + 331) = mg_l σ (B + 331) := G5.2.2 331 (by decide) (fun h => h)
    have l2 : mg_l σ5 (B + 332) = mg_l σ (B + 332) := G5.2.2 332 (by decide) (fun h => h)
    have l3 : mg_i σ5 (B + 333) = mg_i σ (B + 333) := G5.2.1 333 (by decide) (by omega)
    have l4 : mg_i σ5 (B + 334) = mg_i σ (B + 334) := G5.2.1 334 (by decide) (by omega)
    have B5 : ∀ i, i < rn P 0 → bk1 B σ5 P i := fun i hi => bk1_of (hB i hi) (by rw [l1]) (by rw [l2]) (by rw [l3]) (by rw [l4])
    have mo1 := cX_mono hP hd (show (mg_l σ (B + 331) j).toInt ≤ m.toInt by omega)
    have mo2 := cX_mono hP hd (show m.toInt ≤ (mg_l σ (B + 332) j).toInt by omega)
    have hiff := nar_sg hP hd (L := (mg_l σ (B + 331) j).toInt) (m := m.toInt) (by omega) cL (by omega) (by omega) (by omega)
    rw [← e5, ← ht, Int32.toInt_inj] at hiff
    have hp5 : plc B σ σ5 P := ⟨pfx_mo G5 (fun o h => Or.inl h) (fun o h => h.elim), ⟨Z5, X5⟩, B5⟩
    rw [nI_1, show 40 - (d' + 1) + 1 = 40 - d' by omega]
    rw [Int.pow_succ] at hw
    have fin_ : ∀ o, (o = 331 ∨ o = 332) → (∀ i, i < rn P 0 → bk1 B (ms_l σ5 (B + o) j m) P i) → plc B σ5 (ms_l σ5 (B + o) j m) P := fun o ho hb => by
      have FF5 : fra B IK LK σ5 (ms_l σ5 (B + o) j m) := fra_ml (by unfold LK; omega)
      have hob : isB (o - 1) = false := by rcases ho with q | q <;> rw [q] <;> decide
      exact plc_in (k := 0) (m := 0) (Z := Z5) hP hd X5 ⟨FF5, bgs_msl X5.2.1 hob, hb, fun i hi => by
        have x5 := B5 i hi
        by_cases hij : i = j
        · subst hij
          rcases ho with q | q <;> subst q
          · rw [sl_s, sl_n (by omega), l1, l2]; omega
          · rw [sl_s, sl_n (by omega), l1, l2]; omega
        · rw [sl_n (by omega), sl_n (by omega)]; exact ⟨Int.le_refl _, Int.le_refl _⟩, fun i hi => absurd hi (by omega)⟩
    refine wq_jj (fun σ' => plc B σ5 σ' P ∧ (mg_l σ' (B + 332) j).toInt - (mg_l σ' (B + 331) j).toInt ≤ 2 ^ d' ∧ cX P (mg_l σ' (B + 332) j).toInt ≤ cX P (mg_l σ' (B + 331) j).toInt + 1) ?_ ?_
    · intro k' hk'
      by_cases hr : r = t
      · refine wq_ip hr ?_
        rw [X5.1 319 7 (by omega), p7]
        refine wq_ip (ix 331 s5) (hk' _ ⟨fin_ 331 (Or.inl rfl) (fun i hi => ?_), ?_, ?_⟩)
        · by_cases hij : i = j
          · subst hij
            unfold bk1
            rw [sl_s, sl_n (by omega), l2, sl_i, l3, l4, a4, a5, hiff.mp hr, cL]
            exact ⟨by omega, by omega, a3, rfl, rfl, by omega, a7⟩
          · exact bk1_of (B5 i hi) (by rw [sl_n (by omega)]) (by rw [sl_n (by omega)]) (by rw [sl_i]) (by rw [sl_i])
        · rw [sl_s, sl_n (by omega), l2]; omega
        · rw [sl_s, sl_n (by omega), l2, hiff.mp hr]; omega
      · refine wq_in hr ?_
        have hne : ¬ cX P m.toInt = j := fun hh => hr (hiff.mpr hh)
        have cm : cX P m.toInt = (j : Int) + 1 := by omega
        rw [X5.1 319 8 (by omega), p8]
        refine wq_ip (ix 332 s6) (hk' _ ⟨fin_ 332 (Or.inr rfl) (fun i hi => ?_), ?_, ?_⟩)
        · by_cases hij : i = j
          · subst hij
            unfold bk1
            rw [sl_n (a := B + 332) (b := B + 331) (by omega), sl_s, l1, sl_i, l3, l4, a4, a5, cm, cH]
            exact ⟨by omega, by omega, by omega, rfl, rfl, by omega, by omega⟩
          · exact bk1_of (B5 i hi) (by rw [sl_n (by omega)]) (by rw [sl_n (by omega)]) (by rw [sl_i]) (by rw [sl_i])
        · rw [sl_s, sl_n (by omega), l1]; omega
        · rw [sl_s, sl_n (by omega), l1, cm]; omega
    · rintro σ' ⟨hp', w', al'⟩
      exact nar_l hfu hP hd hj hk fl d' σ' (by omega) (by omega) (plc_tr ⟨F, ⟨Z, X⟩, hB⟩ (plc_tr hp5 hp')) w' (Or.inr ⟨al', ht⟩)
theorem nar_ok {fu B j : Nat} {σ : rr_M} {P : Pl} (hfu : 400 < fu) (hP : pok P) (hd : 0 < dgg P) (hj : j < rn P 0) (h : plc B σ σ P) (hal : cX P (mg_l σ (B + 332) j).toInt ≤ cX P (mg_l σ (B + 331) j).toInt + 1 ∨ (mg_l σ (B + 332) j).toInt ≤ (mg_l σ (B + 331) j).toInt + 1) :
    wq (f_Pla_narrow fu (nx B) (B + 319) (nI j) σ) (fun r => plc B σ r.2 P ∧ (mg_l r.2 (B + 332) j).toInt = (mg_l r.2 (B + 331) j).toInt + 1) := by
  obtain ⟨F, ⟨Z, X⟩, hB⟩ := h
  obtain ⟨d1, d2, d3⟩ := rl_0 hP hd
  obtain ⟨p0, p1, p2, p3, p4, p7, p8, p9, p10, p11, p12, p13⟩ := rx_pla
  obtain ⟨s1, s2, s3, s4, s5, s6, s7, s8⟩ := rx_sim
  obtain ⟨a1, a2, a3, a4, a5, a6, a7⟩ := hB j hj
  have hc := X.1
  have c1 := cX_rg hP hd (mg_l σ (B + 331) j).toInt
  have r63 : RX 63 2 = 66 ∧ NX 66 = 10 := by decide +kernel
  have ml : rr_n (nI j) = j := n_nI (by omega)
  unfold f_Pla_narrow
  dsimp only [rr_lt]
  rw [ml, hc 319 9 (by omega), p9, a4, X.2.2.2.2.2.2.2.1, nI_sub (by omega), hc 319 1 (by omega), p1, hc 63 2 (by omega), r63.1, show rr_n 0 = 0 from rfl]
  refine wq_ip (by rw [nx_at, s7]; exact ix_nI (by omega) (by omega)) ?_
  have hsg : mg_i σ (B + 66) 0 = sgI (SM P 0 (dgg (SM P 0))) := by
    have := (X.2.2.2.2.2.1 0 (Nat.zero_le _)).2.2
    rw [cc_0] at this
    exact this
  rw [hsg]
  refine wq_jj (fun t => t.toInt = (-1) ^ (rn P 0 - (cX P (mg_l σ (B + 331) j).toInt).toNat) * sL P) ?_ ?_
  · intro k' hk'
    have ixz : rr_ix 0 (nx B (B + 66)) = true := by rw [nx_at, r63.2]; decide
    have tab := and1_tab (rn P 0 - (cX P (mg_l σ (B + 331) j).toInt).toNat) (by omega)
    by_cases hev : (rn P 0 - (cX P (mg_l σ (B + 331) j).toInt).toNat) % 2 = 0
    · refine wq_ip (tab.mpr hev) (wq_ip ixz (hk' _ ?_))
      rw [m1_pow, if_pos hev, sgI_t, Int.one_mul]
      rfl
    · refine wq_in (fun hh => hev (tab.mp hh)) (wq_ip ixz (hk' _ ?_))
      rw [m1_pow, if_neg hev, sgI_neg]
      unfold sL
      omega
  · intro t ht
    refine nar_l (σ0 := σ) hfu hP hd hj (fun σ' h1 h2 => ⟨h1, h2⟩) fu 40 σ (by omega) (by omega) ⟨F, ⟨Z, X⟩, hB⟩ ?_ ?_
    · have : (2 : Int) ^ 40 = 1099511627776 := by decide
      omega
    · rcases hal with q | q
      · by_cases hw : (mg_l σ (B + 332) j).toInt ≤ (mg_l σ (B + 331) j).toInt + 1
        · exact Or.inl hw
        · refine Or.inr ⟨q, ?_⟩
          rw [ht]
          congr 2
          omega
      · exact Or.inl q
