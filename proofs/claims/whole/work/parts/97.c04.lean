/-! ===== the class's divisor at a level ===== -/
theorem cdv_c {fu B o M : Nat} {σ : rr_M} {Z : Nat → Option Int} {p q : Pl} (hfu : 400 < fu) (hc : crf B σ) (hZ : bgs B σ Z) (ho : isB (o - 1) = false) (n0 : nx B (B + o) = 9) (he : ends p q M) (hM : M ≤ 10) (h3 : mg_i σ (B + 63) 3 = nI M) (hR : crs B (M - 1) σ Z p q) (hee : dgg (mm p q (M - 1)) = 0) :
    wq (f_Seq_copyDivisor fu (nx B) (B + 63) (B + o) σ) (fun r => fro B o σ r.2 ∧ (∀ j, j < 9 → (mg_l r.2 (B + o) j).toInt = pcn 1 j) ∧ ∃ Z', bgs B r.2 Z' ∧ (∀ s, s ≠ 68 → s ≠ 70 → s ≠ 74 → Z' s = Z s)) := by
  have h2 := he.1
  unfold f_Seq_copyDivisor
  have key : wq (l_Seq_copyDivisor_2 fu (nx B) (B + o) fu (nI 0) (mw_l σ (B + o) (mg_l σ (B + o))) (fun σ_4 =>
      Option.bind (f_Seq_lastDegree (nx B) (B + 63) σ_4) fun r_5 =>
        if 0 < r_5 then if rr_ix (((mg_i σ_4 (B + 63) 3) - 1) * 9 + r_5) (nx B (mg_r σ_4 (B + 63) 0)) = true then
          rr_bd (f_Big_copy (nx B) (mg_r σ_4 (B + 63) 8) (mg_r σ_4 (mg_r σ_4 (B + 63) 0) (rr_n (((mg_i σ_4 (B + 63) 3) - 1) * 9 + r_5))) σ_4) fun _ σ_12 =>
            Option.bind (f_Big_trailingZeros fu (nx B) (mg_r σ_12 (B + 63) 8) σ_12) fun r_15 =>
              rr_bd (f_Big_shiftDown fu (nx B) (mg_r σ_12 (B + 63) 8) r_15 σ_12) fun _ σ_18 =>
                l_Seq_copyDivisor_78 fu (nx B) (B + 63) (B + o) r_5 (((mg_i σ_4 (B + 63) 3) - 1) * 9) r_15 fu 0 σ_18 (fun σ_43 => rr_bd (f_Num_makePrimitive fu (nx B) (B + o) σ_43) fun _ σ_44 => some ((), σ_44))
          else none
        else if rr_ix 0 (nx B (B + o)) = true then some ((), ms_l σ_4 (B + o) (rr_n 0) 1) else none)) (fun r => fro B o σ r.2 ∧ (∀ j, j < 9 → (mg_l r.2 (B + o) j).toInt = pcn 1 j) ∧ ∃ Z', bgs B r.2 Z' ∧ (∀ s, s ≠ 68 → s ≠ 70 → s ≠ 74 → Z' s = Z s)) := by
    refine cdv_z n0 ?_ fu 0 _ (by omega) (by omega) (fun j hj => absurd hj (by omega))
    intro u hu
    have hcw : crf B (mw_l σ (B + o) u) := hc
    have hRw : crs B (M - 1) (mw_l σ (B + o) u) Z p q := hR
    have h3w : mg_i (mw_l σ (B + o) u) (B + 63) 3 = nI M := h3
    have Lw : bgs B (mw_l σ (B + o) u) Z := bgs_mw hZ ho
    rw [cld_dg (fu := fu) (s := 0) he hM hcw h3w hRw, hee]
    refine wq_ob (wq_some ?_)
    have c00 : ¬ (0 : Int32) < nI 0 := by decide
    rw [if_neg c00, n0, if_pos (by decide), mw_ms]
    refine wq_some ⟨fro_mw, fun j hj => ?_, Z, bgs_mw hZ ho, fun s _ _ _ => rfl⟩
    rw [mw_gsk]
    have m0 : rr_n 0 = 0 := rfl
    rw [m0]
    show _ = if j = 0 then (1 : Int) else 0
    by_cases hj0 : j = 0
    · subst hj0; rw [upL_s, if_pos rfl]; rfl
    · rw [upL_n hj0, hu j hj, if_neg hj0]; rfl
  rw [mw_id] at key
  exact key
theorem cdv_lv {fu B o l : Nat} {σ : rr_M} {Z : Nat → Option Int} {P : Pl} (hfu : 400 < fu) (hP : pok P) (hdP : 0 < dgg P) (h : l < dep P) (hc : crf B σ) (hZ : bgs B σ Z) (ho : isB (o - 1) = false) (n0 : nx B (B + o) = 9) (hM : ML P l ≤ 10) (h3 : mg_i σ (B + 63) 3 = nI (ML P l)) (hR : crs B (ML P l - 1) σ Z (CM P l) (der (CM P l))) :
    wq (f_Seq_copyDivisor fu (nx B) (B + 63) (B + o) σ) (fun r => fro B o σ r.2 ∧ (∀ j, j < 9 → (mg_l r.2 (B + o) j).toInt = CM P (l + 1) j) ∧ ∃ Z', bgs B r.2 Z' ∧ (∀ s, s ≠ 68 → s ≠ 70 → s ≠ 74 → Z' s = Z s)) := by
  obtain ⟨a, ha, e, e2, e3⟩ := cm_lv hP hdP h
  obtain ⟨z9, zz9, s, hg, he⟩ := cm_sz hP hdP h
  obtain ⟨_, ⟨s', h2⟩, h3', h4⟩ := (lvs_P hP hdP).1 l h
  obtain ⟨p1, p2, p3, p4, p5⟩ := FF_prm hP hdP h
  obtain ⟨v1, v2, _, _, v5, v6, v7⟩ := HL_ok hP hdP h
  obtain ⟨_, q2, q3⟩ := ends_psc ha h2 h3'
  have hM1 := he.1
  rw [← der_psc, ← e] at q2 q3
  have hee : dgg (mm (CM P l) (der (CM P l)) (ML P l - 1)) = dgg (FF P (l + 1)) := by rw [q3 _ (by omega), ← p5]
  by_cases hz : dgg (FF P (l + 1)) = 0
  · rw [hz] at hee
    have := cdv_c hfu hc hZ ho n0 he hM h3 hR hee
    have eC : CM P (l + 1) = pcn 1 := by unfold CM; rw [if_neg (by omega), if_pos hz]
    rw [eC]
    exact this
  · have eC : CM P (l + 1) = psc (sgl P) (FF P (l + 1)) := by unfold CM; rw [if_neg (by omega), if_neg hz]
    obtain ⟨hn, hhn⟩ : ∃ hn, hn = HL P l (dgg (HL P l)) := ⟨_, rfl⟩
    obtain ⟨g, hgg⟩ : ∃ g, g = FF P (l + 1) := ⟨_, rfl⟩
    obtain ⟨ed, hed⟩ : ∃ ed, ed = dgg (FF P (l + 1)) := ⟨_, rfl⟩
    rw [← hed] at p3 p4 hee hz v7
    rw [← hgg] at p1 p2 p3 p4 v5
    have hn0 : hn ≠ 0 := by rw [hhn]; exact v6.1
    have ha0 : a ≠ 0 := by omega
    have hF : FF P l (dgg (FF P l)) = g ed * hn := by
      rw [v7, v5, pmu_top (m := ed) (n := dgg (HL P l)) (fun t ht => p3.2 t ht) (fun t ht => v6.2 t ht), hhn]
    have l9 := (dln_top h2.1 h2.2.2.1).2
    -- last member
    obtain ⟨l1, l2⟩ := ends_last h2 h3'
    obtain ⟨g1, g2, g3, g4, g5, g6⟩ := ppt_ok l1 l2
    rw [← h4, ← hgg] at g3
    obtain ⟨K, hK⟩ : ∃ K, K = (mm (FF P l) (der (FF P l)) (ML P l - 1) (dgg (mm (FF P l) (der (FF P l)) (ML P l - 1)))).sign * (ctf 9 (mm (FF P l) (der (FF P l)) (ML P l - 1)) : Int) := ⟨_, rfl⟩
    rw [← hK] at g3 g4
    obtain ⟨Λ, hΛ⟩ : ∃ Λ, Λ = lo (FF P l) (der (FF P l)) (ML P l - 1) := ⟨_, rfl⟩
    have hcc : ∀ j, cc (CM P l) (der (CM P l)) (ML P l - 1) j = a * (Λ * (K * g j)) := fun j => by
      rw [q2 _ (by omega)]
      show a * (lo _ _ _ * mm _ _ _ j) = _
      rw [← hΛ, ← g3]
      rfl
    have hΛ0 : Λ ≠ 0 := by
      have := (ends_sg h2 h3' (show ML P l - 1 < ML P l by omega)).1
      rw [← hΛ] at this
      omega
    have hpd : CM P l (dgg (FF P l)) = a * (g ed * hn) := by rw [e]; show a * FF P l _ = _; rw [hF]
    have hX : ppt (psc (a * hn) g) = g := ppt_psc p2 p1 p3 p4 (Int.mul_ne_zero ha0 hn0)
    have hXd : dgr (psc (a * hn) g) ed := ⟨Int.mul_ne_zero (Int.mul_ne_zero ha0 hn0) p3.1, fun k hk => by show a * hn * g k = 0; rw [p3.2 k hk, Int.mul_zero]⟩
    have he9 : ed < 9 := by omega
    have hXl := dln_dgr hXd he9
    have hXg : dgg (psc (a * hn) g) = ed := by unfold dgg; rw [hXl]; omega
    have hXs : (psc (a * hn) g ed).sign = sgl P := by
      rw [← e3, hpd]
      show (a * hn * g ed).sign = _
      congr 1
      grind
    obtain ⟨i1, i2, i3, i4⟩ := dep_ok hP (dg_dln hdP)
    obtain ⟨h9, A, n, e4, hA⟩ := i4 l (by omega)
    have e5 : P = pmu (pmu A (HL P l)) g := by rw [pmu_assoc, pmu_comm (HL P l) g, ← v5]; exact e4
    have hsz := fis_sz hP.2 hP.1 e5 (dgr_pmu hA v6) p2
    have hlead : pmu A (HL P l) (n + dgg (HL P l)) = A n * hn := by rw [pmu_top (m := n) (n := dgg (HL P l)) (fun t ht => hA.2 t ht) (fun t ht => v6.2 t ht), hhn]
    have hszX : ∀ k, -1099511627776 ≤ psc (a * hn) g k ∧ psc (a * hn) g k ≤ 1099511627776 := fun k => by
      have b := hsz k
      rw [hlead, Int.mul_assoc, Int.natAbs_mul] at b
      have b2 : 1 * (hn * g k).natAbs ≤ (A n).natAbs * (hn * g k).natAbs := Nat.mul_le_mul_right _ (by have := hA.1; omega)
      show -1099511627776 ≤ a * hn * g k ∧ a * hn * g k ≤ 1099511627776
      rw [Int.mul_assoc]
      generalize hn * g k = z at *
      rcases ha with q | q <;> rw [q] <;> omega
    refine wq_mo (cdv_ok (g := g) (c' := 0) hfu hc hZ ho n0 he hM h3 hR (d := dgg (FF P l)) e2 l9 hee he9 (by omega) (by rw [hcc]; exact Int.mul_ne_zero ha0 (Int.mul_ne_zero hΛ0 (Int.mul_ne_zero g4 p3.1))) (X := psc (a * hn) g) (fun j => by
      rw [hcc, hcc, hpd]
      show _ = _ * (a * hn * g j)
      grind) (fun j hj => hXd.2 j hj) (fun k hk => hXd.2 k (by omega)) (by omega) (fun j => (cc_sz hg he (show ML P l - 1 < ML P l by omega)).1 j) (fun j => szb_mono (gdp_0 hg j) (by have := hg.2.2.2.2.2.2.2.2.2; omega)) hszX) ?_
    rintro r ⟨F1, N1, Z1⟩
    refine ⟨F1, fun j hj => ?_, Z1⟩
    rw [N1 j hj, hXg, hXs, hX, eC, hgg]
    rfl
