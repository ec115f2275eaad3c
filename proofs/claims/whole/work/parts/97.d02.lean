/-! ===== the model lays a tray's roots ===== -/
theorem FF_sz {P : Pl} {l : Nat} (hP : pok P) (hd : 0 < dgg P) (h : l ≤ dep P) : pbd 9 (FF P l) ∧ ∀ k, -1099511627776 ≤ FF P l k ∧ FF P l k ≤ 1099511627776 := by
  obtain ⟨i1, i2, i3, i4⟩ := dep_ok hP (dg_dln hd)
  obtain ⟨h9, A, n, e, hA⟩ := i4 l h
  refine ⟨h9, fun k => ?_⟩
  have b := fis_sz hP.2 hP.1 e hA h9 k
  rw [Int.natAbs_mul] at b
  have b2 : 1 * (FF P l k).natAbs ≤ (A n).natAbs * (FF P l k).natAbs := Nat.mul_le_mul_right _ (by have := hA.1; omega)
  omega
theorem HL_sz {P : Pl} {l : Nat} (hP : pok P) (hd : 0 < dgg P) (h : l < dep P) : (∀ k, -1099511627776 ≤ HL P l k ∧ HL P l k ≤ 1099511627776) ∧ (∀ k, -4611686018427387904 < FF P (l + 1) (dgg (FF P (l + 1))) * HL P l k ∧ FF P (l + 1) (dgg (FF P (l + 1))) * HL P l k < 4611686018427387904) := by
  obtain ⟨t1, t2, t3, t4, t5, t6, t7⟩ := SM_ok hP hd h
  have he := es_pm hP hd l
  have hC := CM_nx hP hd h
  obtain ⟨b, hb⟩ : ∃ b, b = (if dgg (FF P (l + 1)) = 0 then (1 : Int) else sgl P) := ⟨_, rfl⟩
  rw [← hb] at hC
  have hbp : b = 1 ∨ b = -1 := by
    rw [hb]
    by_cases hz : dgg (FF P (l + 1)) = 0
    · rw [if_pos hz]; exact Or.inl rfl
    · rw [if_neg hz]; exact sgl_pm hP hd
  refine ⟨fun k => ?_, fun k => ?_⟩
  · have a : -1099511627776 ≤ es P l * HL P l k ∧ es P l * HL P l k ≤ 1099511627776 := t6 k
    rcases he with q | q <;> rw [q] at a <;> omega
  · have a := t5 k
    rw [hC] at a
    have a : -4611686018427387904 < b * FF P (l + 1) (dgg (FF P (l + 1))) * (es P l * HL P l k) ∧ b * FF P (l + 1) (dgg (FF P (l + 1))) * (es P l * HL P l k) < 4611686018427387904 := a
    have e : b * FF P (l + 1) (dgg (FF P (l + 1))) * (es P l * HL P l k) = (b * es P l) * (FF P (l + 1) (dgg (FF P (l + 1))) * HL P l k) := by grind
    rw [e] at a
    generalize FF P (l + 1) (dgg (FF P (l + 1))) * HL P l k = z at *
    rcases hbp with q | q <;> rcases he with q' | q' <;> rw [q, q'] at a <;> omega
theorem lay_l {fu C : Nat} {σ0 : rr_M} {P : Pl} (hfu : 70000 < fu) (hP : pok P) (hd : 0 < dgg P) {Q : Unit × rr_M → Prop} (hk : ∀ σ Y, lyd C (dep P) σ Y P → mfr C σ0 σ → Q ((), σ)) :
    ∀ (fl l : Nat) (σ : rr_M) (Y : Nat → Int), l ≤ dep P → 10 - l ≤ fl → lyd C l σ Y P → mpo C σ 8 (FF P l) → mfr C σ0 σ → wq (l_Mod_lays_34 fu (nm C) C fl (nI (us P l)) σ (fun σ_36 => some ((), σ_36))) Q
  | 0, l, σ, Y, h1, h2, _, _, _ => by
    have := (dep_ok hP (dg_dln hd)).2.2.1
    have := dgg_lt P
    omega
  | fl + 1, l, σ, Y, h1, h2, hV, h8, hF => by
    obtain ⟨i1, i2, i3, i4⟩ := dep_ok hP (dg_dln hd)
    have h88 := dgg_lt P
    obtain ⟨LY, V1, V2⟩ := hV
    have hm := LY.1
    obtain ⟨f9, fsz⟩ := FF_sz hP hd h1
    rw [l_Mod_lays_34]
    rw [show (8 : Int32) = nI 8 from rfl, mdg_ok (by omega) hm (by omega) h8]
    refine wq_ob (wq_some ?_)
    have d9 : dln (FF P l) ≤ 9 := lnn_le 9 _
    by_cases hle : l = dep P
    · refine wq_ip ((dg_le0 d9).mpr ?_) (wq_some (hk σ Y ?_ hF))
      · have : dgg (FF P l) = 0 := by rw [hle]; exact i2
        unfold dgg at this
        omega
      · rw [← hle]; exact ⟨LY, V1, V2⟩
    have hlt : l < dep P := by omega
    have hdl := i1 l hlt
    refine wq_in (fun hh => ?_) ?_
    · have := (dg_le0 d9).mp hh
      unfold dgg at hdl
      omega
    obtain ⟨_, ⟨s, h3⟩, h4, h5⟩ := (lvs_P hP hd).1 l hlt
    have u21 := us_22 hP hd hlt
    -- the chain's member is proved aside
    refine wq_bd (wq_mo (prv_ok (first := 36) (r := 8) hfu LY (by omega) (by omega) h8 h3 hdl fsz) ?_)
    rintro ⟨w1, σ1⟩ ⟨Y1, M, e1, L1, F1, O1, E1, M1, R1⟩
    dsimp only at e1 L1 F1 R1 ⊢
    have eM := ends_uniq E1 h4
    subst eM
    have hM2 := E1.1
    rw [e1, show (36 : Int32) = nI 36 from rfl, nI_add, show 36 + ML P l = (36 + (ML P l - 1)) + 1 by omega, nI_pred]
    obtain ⟨g1, g2, g3⟩ := R1 (ML P l - 1) (Nat.le_refl _)
    obtain ⟨q1, q2⟩ := ends_last h3 h4
    have sG : ∀ t, szb 600 (mm (FF P l) (der (FF P l)) (ML P l - 1) t) := fun t => by
      have lp := (ends_sg h3 h4 (show ML P l - 1 < ML P l by omega)).1
      have a : szb 600 (lo (FF P l) (der (FF P l)) (ML P l - 1) * mm (FF P l) (der (FF P l)) (ML P l - 1) t) := (cc_sz h3 h4 (show ML P l - 1 < ML P l by omega)).1 t
      exact szb_dv a (by omega)
    refine wq_bd (wq_mo (pln_ok (rp := 9) (row := 36 + (ML P l - 1)) hfu L1 (by omega) (by omega) g1 q1 q2 g2 sG (by omega) (by rw [← h5]; exact (FF_sz hP hd (show l + 1 ≤ dep P by omega)).2)) ?_)
    rintro ⟨w2, σ2⟩ ⟨F2, p9, Y2, L2, O2⟩
    dsimp only at F2 p9 L2 ⊢
    rw [← h5] at p9
    have p8 : mpo C σ2 8 (FF P l) := fun k hk => by
      rw [F2.2.2.2 _ (by omega)]
      exact frq_po F1 h8 k hk
    obtain ⟨v1, v2, ⟨s', v3⟩, v4, v5, v6, v7⟩ := HL_ok hP hd hlt
    obtain ⟨hs1, hs2⟩ := HL_sz hP hd hlt
    obtain ⟨_, _, pr3, _, _⟩ := FF_prm hP hd hlt
    have dl8 := dgg_lt (FF P l)
    refine wq_bd (wq_mo (mdv_ok (ri := 14) (rp := 8) (rb := 9) (D := FF P (l + 1)) (H := HL P l) (by omega) L2.1 (by omega) (by omega) (by omega) (by omega) (by omega) (by omega) pr3 v6 p9 (by rw [← v5]; exact p8) hs2) ?_)
    rintro ⟨w3, σ3⟩ ⟨g, e3, hg, p14⟩
    dsimp only at e3 p14 ⊢
    have L3 : LM C σ3 Y2 := by rw [e3]; exact LM_frm L2 rfl rfl rfl rfl
    have p93 : mpo C σ3 9 (FF P (l + 1)) := fun k hk => by
      rw [e3, mw_gsk, hg _ (by omega) (by omega)]
      exact p9 k hk
    have G3 : mfr C σ σ3 := mfr_tr (frq_mfr F1) (mfr_tr (frl_mfr F2 (by omega)) (by rw [e3]; exact mw_mfr (fun i hi => hg i (by omega) (by omega))))
    have c11 : mg_i σ3 C 11 = nI l := by
      rw [e3, mw_i, F2.2.1 C (by omega) (by omega) (by omega), F1.2.2.1 C (by omega) (by omega) (by omega) (by omega) (by omega)]
      exact V1
    have ml : rr_n (nI l) = l := n_nI (by omega)
    have ix9 : rr_ix (nI l) (nm C (C + 9)) = true := by rw [nm_9]; exact ix_nI (by omega) (by omega)
    have ix10 : rr_ix (nI l) (nm C (C + 10)) = true := by rw [nm_10]; exact ix_nI (by omega) (by omega)
    dsimp only [rr_lt]
    rw [mrf_9 L3.1, c11, ml]
    refine wq_ip ix9 ?_
    obtain ⟨σ4, e4⟩ : ∃ σ4, σ4 = ms_i σ3 (C + 9) l (nI (us P l)) := ⟨_, rfl⟩
    rw [← e4]
    have L4 : LM C σ4 Y2 := by rw [e4]; exact LM_ms L3 (by omega)
    have c114 : mg_i σ4 C 11 = nI l := by rw [e4, si_row (by omega)]; exact c11
    have p144 : mpo C σ4 14 (HL P l) := by rw [e4]; exact p14
    rw [mrf_10 L4.1, c114, ml]
    -- the simple polynomial is proved
    refine wq_bd (wq_mo (prv_ok (first := us P l) (r := 14) hfu L4 (by omega) (by omega) p144 v3 v2 hs1) ?_)
    rintro ⟨w5, σ5⟩ ⟨Y5, M5, e5, L5, F5, O5, E5, M5', R5⟩
    dsimp only at e5 L5 F5 R5 ⊢
    have eM5 := ends_uniq E5 v4
    subst eM5
    rw [e5]
    refine wq_ip ix10 ?_
    obtain ⟨σ6, e6⟩ : ∃ σ6, σ6 = ms_i σ5 (C + 10) l (nI (MH P l)) := ⟨_, rfl⟩
    rw [← e6]
    have L6 : LM C σ6 Y5 := by rw [e6]; exact LM_ms L5 (by omega)
    have c116 : mg_i σ6 C 11 = nI l := by rw [e6, si_row (by omega), F5.2.2.1 C (by omega) (by omega) (by omega) (by omega) (by omega)]; exact c114
    have m10 : mg_i σ6 (C + 10) l = nI (MH P l) := by rw [e6, si_s]
    rw [mrf_10 L6.1, c116, ml, m10, nI_1, nI_add, show us P l + (MH P l + 1) = us P (l + 1) from rfl]
    refine wq_ip ix10 ?_
    have key := lcp_b (fu := fu) (σ := σ6) (g0 := mg_l σ6 (C + 8)) L6.1 (kk := fun σ_34 => l_Mod_lays_34 fu (nm C) C fl (nI (us P (l + 1))) (ms_i σ_34 C 11 (mg_i σ_34 C 11 + 1)) (fun σ_36 => some ((), σ_36))) (Q := Q) ?_ fu 0 (mg_l σ6 (C + 8)) (by omega) (by omega) (fun _ _ _ => rfl) (fun j hj => absurd hj (by omega))
    · rw [mw_id] at key
      exact key
    intro g7 hg7 hg7'
    obtain ⟨σ7, e7⟩ : ∃ σ7, σ7 = mw_l σ6 (C + 8) g7 := ⟨_, rfl⟩
    rw [← e7]
    have c117 : mg_i σ7 C 11 = nI l := by rw [e7, mw_i]; exact c116
    rw [c117, nI_1]
    have L7 : LM C σ7 Y5 := by rw [e7]; exact LM_frm L6 rfl rfl rfl rfl
    have p96 : mpo C σ6 9 (FF P (l + 1)) := by
      rw [e6]
      have : mpo C σ5 9 (FF P (l + 1)) := frq_po F5 (by rw [e4]; exact p93)
      exact this
    have hYo : ∀ s', 20 ≤ s' → s' < slt 36 0 → Y2 s' = Y s' := fun s' a b => by
      rw [O2 s' (by omega) (by omega) (by omega) (by omega), O1 s' (by omega) (Or.inl b)]
    refine lay_l hfu hP hd hk fl (l + 1) _ Y5 (by omega) (by omega) ⟨LM_frm L7 rfl (si_row (by omega)) (si_row (by omega)) (si_row (by omega)), si_s _ _ _ _, fun i hi => ?_⟩ ?_ ?_
    · have h6e : ∀ o, o ≠ 0 → mg_i (ms_i σ7 C 11 (nI (l + 1))) (C + o) = mg_i σ6 (C + o) := fun o ho => by rw [si_row (by omega), e7, mw_i]
      rw [h6e 9 (by omega), h6e 10 (by omega)]
      by_cases hil : i = l
      · subst hil
        refine ⟨?_, m10, mrs_eq R5 (by rw [h6e 6 (by omega), e6, si_row (by omega)]) (by rw [h6e 7 (by omega), e6, si_row (by omega)]) (fun _ _ _ => rfl) (by omega)⟩
        rw [e6, si_row (by omega), F5.2.2.1 (C + 9) (by omega) (by omega) (by omega) (by omega) (by omega), e4, si_s]
      · obtain ⟨b1, b2, b3⟩ := V2 i (by omega)
        have um := us_mono (P := P) (i := i) l (by omega)
        refine ⟨?_, ?_, ?_⟩
        · rw [e6, si_row (by omega), F5.2.2.1 (C + 9) (by omega) (by omega) (by omega) (by omega) (by omega), e4, si_n (by omega), e3, mw_i, F2.2.1 _ (by omega) (by omega) (by omega), F1.2.2.1 _ (by omega) (by omega) (by omega) (by omega) (by omega)]
          exact b1
        · rw [e6, si_n (by omega), F5.2.2.1 (C + 10) (by omega) (by omega) (by omega) (by omega) (by omega), e4, si_row (by omega), e3, mw_i, F2.2.1 _ (by omega) (by omega) (by omega), F1.2.2.1 _ (by omega) (by omega) (by omega) (by omega) (by omega)]
          exact b2
        · have r1 : mrs C (us P i) (MH P i - 1) σ1 Y1 (HL P i) (der (HL P i)) := mrs_mv b3 F1 (by omega) (fun s a b => O1 s (by omega) (Or.inl b))
          have r4 : mrs C (us P i) (MH P i - 1) σ4 Y2 (HL P i) (der (HL P i)) := mrs_eq r1 (by rw [e4, si_row (by omega), e3, mw_i, F2.2.1 _ (by omega) (by omega) (by omega)]) (by rw [e4, si_row (by omega), e3, mw_i, F2.2.1 _ (by omega) (by omega) (by omega)]) (fun s a b => O2 s (by omega) (by omega) (by omega) (by omega)) (by omega)
          have r5 : mrs C (us P i) (MH P i - 1) σ5 Y5 (HL P i) (der (HL P i)) := mrs_mv r4 F5 (by omega) (fun s a b => O5 s (by omega) (Or.inl b))
          exact mrs_eq r5 (by rw [h6e 6 (by omega), e6, si_row (by omega)]) (by rw [h6e 7 (by omega), e6, si_row (by omega)]) (fun _ _ _ => rfl) (by omega)
    · intro k hk9
      rw [si_l, e7, mw_gsk, show 9 * 8 + k = 72 + k by omega, hg7' k hk9]
      exact p96 k hk9
    · have k4 : mfr C σ3 σ4 := by rw [e4]; exact mr_mfr (Or.inl rfl)
      have k6 : mfr C σ5 σ6 := by rw [e6]; exact mr_mfr (Or.inr rfl)
      have k7 : mfr C σ6 σ7 := by rw [e7]; exact mw_mfr (fun i hi => hg7 i (by omega) (by omega))
      exact mfr_tr hF (mfr_tr G3 (mfr_tr k4 (mfr_tr (frq_mfr F5) (mfr_tr k6 (mfr_tr k7 (mi_mfr (Or.inr rfl)))))))
theorem lay_ok {fu C t : Nat} {σ : rr_M} {Y : Nat → Int} {P : Pl} (hfu : 70000 < fu) (ht : t < 8) (hP : pok P) (hY : LM C σ Y) (hp : mpo C σ t P) :
    wq (f_Mod_lays fu (nm C) C (nI t) σ) (fun r => ∃ Y', lyd C (DP P) r.2 Y' P ∧ mfr C σ r.2) := by
  unfold f_Mod_lays
  dsimp only [rr_lt]
  obtain ⟨σ1, e1⟩ : ∃ σ1, σ1 = ms_i σ C 11 0 := ⟨_, rfl⟩
  rw [← e1]
  have L1 : LM C σ1 Y := by rw [e1]; exact LM_frm hY rfl (si_row (by omega)) (si_row (by omega)) (si_row (by omega))
  have F1 : mfr C σ σ1 := by rw [e1]; exact mi_mfr (Or.inr rfl)
  have key := lcp_a (fu := fu) (t := t) (σ := σ1) (g0 := mg_l σ1 (C + 8)) L1.1 (by omega) (by omega) (kk := fun σ_8 => l_Mod_lays_34 fu (nm C) C fu 0 σ_8 (fun σ_36 => some ((), σ_36))) (Q := fun r => ∃ Y', lyd C (DP P) r.2 Y' P ∧ mfr C σ r.2) ?_ fu 0 (mg_l σ1 (C + 8)) (by omega) (by omega) (fun _ _ _ => rfl) (fun j hj => absurd hj (by omega))
  · rw [mw_id] at key
    exact key
  intro g hg hg'
  obtain ⟨σ2, e2⟩ : ∃ σ2, σ2 = mw_l σ1 (C + 8) g := ⟨_, rfl⟩
  rw [← e2]
  have L2 : LM C σ2 Y := by rw [e2]; exact LM_frm L1 rfl rfl rfl rfl
  have F2 : mfr C σ σ2 := mfr_tr F1 (by rw [e2]; exact mw_mfr (fun i hi => hg i (by omega) (by omega)))
  have p2 : mpo C σ2 8 P := fun k hk => by
    rw [e2, mw_gsk, show 9 * 8 + k = 72 + k by omega, hg' k hk, e1]
    exact hp k hk
  have V2 : lyd C 0 σ2 Y P := ⟨L2, by rw [e2, mw_i, e1, si_s]; rfl, fun i hi => absurd hi (by omega)⟩
  by_cases hd : 0 < dgg P
  · have e : DP P = dep P := if_pos hd
    rw [e]
    exact lay_l (σ0 := σ) hfu hP hd (fun σ' Y' h1 h2 => ⟨Y', h1, h2⟩) fu 0 σ2 Y (Nat.zero_le _) (by omega) V2 p2 F2
  · have e : DP P = 0 := if_neg hd
    rw [e]
    have key2 : ∀ fl, 0 < fl → wq (l_Mod_lays_34 fu (nm C) C fl 0 σ2 (fun σ_36 => some ((), σ_36))) (fun r => ∃ Y', lyd C 0 r.2 Y' P ∧ mfr C σ r.2) := by
      intro fl hfl
      obtain ⟨f', rfl⟩ : ∃ f', fl = f' + 1 := ⟨fl - 1, by omega⟩
      rw [l_Mod_lays_34]
      rw [show (8 : Int32) = nI 8 from rfl, mdg_ok (by omega) L2.1 (by omega) p2]
      refine wq_ob (wq_some (wq_ip ((dg_le0 (lnn_le 9 _)).mpr ?_) (wq_some ⟨Y, V2, F2⟩)))
      unfold dgg at hd
      show dln P ≤ 1
      omega
    exact key2 fu (by omega)
