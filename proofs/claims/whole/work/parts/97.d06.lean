/-! ===== how often a root is one, by the model ===== -/
theorem oft_up {fu C s : Nat} {σ0 : rr_M} {Y0 : Nat → Int} {P : Pl} {x : Int} (hfu : 70000 < fu) (hP : pok P) (h15 : Y0 15 = x) (sx : szb 320 x) (hs : s ≤ 320) {kk : Int32 → rr_M → Option (Int32 × rr_M)} {Q : Int32 × rr_M → Prop} (hk : ∀ σ Y, lyd C (DP P) σ Y P → frm C σ0 σ → (∀ t, t ≠ 16 → t ≠ 17 → t ≠ 18 → t ≠ 19 → Y t = Y0 t) → wq (kk (nI (TN P ((x : Rat) / (2 : Rat) ^ s))) σ) Q) :
    ∀ (fl k : Nat) (σ : rr_M) (Y : Nat → Int), k ≤ DP P → 10 - k ≤ fl → lyd C (DP P) σ Y P → frm C σ0 σ → (∀ t, t ≠ 16 → t ≠ 17 → t ≠ 18 → t ≠ 19 → Y t = Y0 t) → wq (l_Mod_oftenOf_155 fu (nm C) C (nI s) fl (nI (smn k (fun l => (cn P l ((x : Rat) / (2 : Rat) ^ s)).toNat))) (nI k) σ kk) Q
  | 0, k, σ, Y, h1, h2, _, _, _ => by
    have := DP_8 hP
    omega
  | fl + 1, k, σ, Y, h1, h2, hV, hF, hO => by
    have h8 := DP_8 hP
    rw [l_Mod_oftenOf_155, hV.2.1]
    by_cases hke : k = DP P
    · subst hke
      exact wq_ip (nI_le (Nat.le_refl _) (by omega)) (hk σ Y hV hF hO)
    refine wq_in (nI_ge (by omega) (by omega)) (wq_bd (wq_mo (cnt_ok hfu hP hV (show k < DP P by omega) (by rw [hO 15 (by omega) (by omega) (by omega) (by omega)]; exact h15) sx hs) ?_))
    rintro ⟨r, σ1⟩ ⟨e1, F1, Y1, V1, O1⟩
    dsimp only [rr_lt] at e1 F1 V1 ⊢
    rw [e1, nI_add, nI_1]
    exact oft_up hfu hP h15 sx hs hk fl (k + 1) σ1 Y1 (by omega) (by omega) V1 (frm_tr hF F1) (fun t t1 t2 t3 t4 => by rw [O1 t t1 t2 t3 t4]; exact hO t t1 t2 t3 t4)
theorem oft_dn {fu C s T : Nat} {σ0 : rr_M} {Y0 : Nat → Int} {P : Pl} {x : Int} (hfu : 70000 < fu) (hP : pok P) (h15 : Y0 15 = x) (sx : szb 320 x) (hs : s ≤ 320) (hT : TN P ((x : Rat) / (2 : Rat) ^ s) ≤ T) {Q : Int32 × rr_M → Prop} (hk : ∀ σ Y, lyd C (DP P) σ Y P → frm C σ0 σ → Q (nI (T - TN P ((x : Rat) / (2 : Rat) ^ s)), σ)) :
    ∀ (fl k : Nat) (σ : rr_M) (Y : Nat → Int), k ≤ DP P → 10 - k ≤ fl → lyd C (DP P) σ Y P → frm C σ0 σ → (∀ t, t ≠ 16 → t ≠ 17 → t ≠ 18 → t ≠ 19 → Y t = Y0 t) → wq (l_Mod_oftenOf_194 fu (nm C) C (nI s) fl (nI (T - smn k (fun l => (cn P l ((x : Rat) / (2 : Rat) ^ s)).toNat))) (nI k) σ (fun a b => some (a, b))) Q
  | 0, k, σ, Y, h1, h2, _, _, _ => by
    have := DP_8 hP
    omega
  | fl + 1, k, σ, Y, h1, h2, hV, hF, hO => by
    have h8 := DP_8 hP
    rw [l_Mod_oftenOf_194, hV.2.1]
    by_cases hke : k = DP P
    · subst hke
      exact wq_ip (nI_le (Nat.le_refl _) (by omega)) (wq_some (hk σ Y hV hF))
    refine wq_in (nI_ge (by omega) (by omega)) (wq_bd (wq_mo (cnt_ok hfu hP hV (show k < DP P by omega) (by rw [hO 15 (by omega) (by omega) (by omega) (by omega)]; exact h15) sx hs) ?_))
    rintro ⟨r, σ1⟩ ⟨e1, F1, Y1, V1, O1⟩
    dsimp only [rr_lt] at e1 F1 V1 ⊢
    have hmn := smn_mono (f := fun l => (cn P l ((x : Rat) / (2 : Rat) ^ s)).toNat) (k + 1) (DP P) (by omega)
    have es1 : smn (k + 1) (fun l => (cn P l ((x : Rat) / (2 : Rat) ^ s)).toNat) = smn k (fun l => (cn P l ((x : Rat) / (2 : Rat) ^ s)).toNat) + (cn P k ((x : Rat) / (2 : Rat) ^ s)).toNat := rfl
    have hT' : smn (DP P) (fun l => (cn P l ((x : Rat) / (2 : Rat) ^ s)).toNat) ≤ T := hT
    rw [e1, nI_sub (by omega), nI_1, Nat.sub_sub, ← es1]
    exact oft_dn hfu hP h15 sx hs hT hk fl (k + 1) σ1 Y1 (by omega) (by omega) V1 (frm_tr hF F1) (fun t t1 t2 t3 t4 => by rw [O1 t t1 t2 t3 t4]; exact hO t t1 t2 t3 t4)
/-- the model's bracket -/
def mbr (i s : Nat) (L H : Int) (P : Pl) : Prop := ((s = 0 ∧ L = -268435456 ∧ H = 268435456) ∨ (1 ≤ s ∧ ∃ a, L = a * 536870912 ∧ H = (a + 1) * 536870912)) ∧ -(2 : Int) ^ (28 + s) ≤ L ∧ H ≤ (2 : Int) ^ (28 + s) ∧ L ≤ H ∧ cn P 0 ((L : Rat) / (2 : Rat) ^ s) ≤ i ∧ (i : Int) < cn P 0 ((H : Rat) / (2 : Rat) ^ s)
theorem mbr_end {P : Pl} (hP : pok P) (hd : 0 < dgg P) {i s : Nat} {L H : Int} (h : mbr i s L H P) (hs : 285 ≤ s) : cn P 0 ((H : Rat) / (2 : Rat) ^ s) ≤ cn P 0 ((L : Rat) / (2 : Rat) ^ s) + 1 := by
  obtain ⟨h1, _⟩ := h
  rcases h1 with ⟨h1, _⟩ | ⟨_, a, e1, e2⟩
  · omega
  · have q := sep_cell hP hd a (f := s - 29) (by omega)
    rw [rat_sh (X := L) (x := a) (z := 29) (F := s) (by omega) (by rw [e1, Int.mul_comm]; rfl), rat_sh (X := H) (x := a + 1) (z := 29) (F := s) (by omega) (by rw [e2, Int.mul_comm]; rfl)] at q
    exact q
theorem mbr_sz {P : Pl} {i s : Nat} {L H : Int} (h : mbr i s L H P) (hs : s ≤ 290) : szb 318 L ∧ szb 318 H := by
  obtain ⟨_, h2, h3, h4, _⟩ := h
  have a : (2 : Int) ^ (28 + s) ≤ 2 ^ 318 := pw_mono (by decide) (by omega)
  have h3' : ((2 ^ 318 : Nat) : Int) = (2 : Int) ^ 318 := by rw [Int.natCast_pow]; rfl
  unfold szb
  constructor <;> omega
theorem mbr_step {P : Pl} {i s : Nat} {L H : Int} (h : mbr i s L H P) : (cn P 0 (((L + H : Int) : Rat) / (2 : Rat) ^ (s + 1)) ≤ i → mbr i (s + 1) (L + H) (2 * H) P) ∧ ((i : Int) < cn P 0 (((L + H : Int) : Rat) / (2 : Rat) ^ (s + 1)) → mbr i (s + 1) (2 * L) (L + H) P) := by
  obtain ⟨h1, h2, h3, h4, h5, h6⟩ := h
  have e : (2 : Int) ^ (28 + (s + 1)) = 2 ^ (28 + s) * 2 := Int.pow_succ _ _
  constructor
  · intro hh
    refine ⟨Or.inr ⟨by omega, ?_⟩, by omega, by omega, by omega, hh, by rw [gr_2]; exact h6⟩
    rcases h1 with ⟨_, q1, q2⟩ | ⟨_, a, q1, q2⟩
    · exact ⟨0, by omega, by omega⟩
    · exact ⟨2 * a + 1, by omega, by omega⟩
  · intro hh
    refine ⟨Or.inr ⟨by omega, ?_⟩, by omega, by omega, by omega, by rw [gr_2]; exact h5, hh⟩
    rcases h1 with ⟨_, q1, q2⟩ | ⟨_, a, q1, q2⟩
    · exact ⟨-1, by omega, by omega⟩
    · exact ⟨2 * a, by omega, by omega⟩
theorem oft_l {fu C i : Nat} {σ0 : rr_M} {P : Pl} (hfu : 70000 < fu) (hP : pok P) (hd : 0 < dgg P) (hi : i < rn P 0) {kk : Int32 → rr_M → Option (Int32 × rr_M)} {Q : Int32 × rr_M → Prop} (hk : ∀ (s : Nat) (L H : Int) σ Y, lyd C (DP P) σ Y P → frm C σ0 σ → Y 452 = L → Y 453 = H → s ≤ 290 → mbr i s L H P → cn P 0 ((L : Rat) / (2 : Rat) ^ s) = i → cn P 0 ((H : Rat) / (2 : Rat) ^ s) = (i : Int) + 1 → wq (kk (nI s) σ) Q) :
    ∀ (fl s : Nat) (L H : Int) (σ : rr_M) (Y : Nat → Int), 300 - s ≤ fl → s ≤ 285 → lyd C (DP P) σ Y P → frm C σ0 σ → Y 452 = L → Y 453 = H → mbr i s L H P → wq (l_Mod_oftenOf_31 fu (nm C) C (nI i) fl (nI s) (nI (cn P 0 ((L : Rat) / (2 : Rat) ^ s)).toNat) (nI (cn P 0 ((H : Rat) / (2 : Rat) ^ s)).toNat) σ kk) Q
  | 0, s, L, H, σ, Y, h1, h2, _, _, _, _, _ => by omega
  | fl + 1, s, L, H, σ, Y, h1, h2, hV, hF, hL, hH, hB => by
    obtain ⟨d1, d2, d3⟩ := rl_0 hP hd
    have hdp := dep_pos hP hd
    have hDP : 0 < DP P := by unfold DP; rw [if_pos hd]; exact hdp
    obtain ⟨z1, z2⟩ := mbr_sz hB (by omega)
    have rg1 := cn_rg hP hd hdp ((L : Rat) / (2 : Rat) ^ s)
    have rg2 := cn_rg hP hd hdp ((H : Rat) / (2 : Rat) ^ s)
    have h5 := hB.2.2.2.2.1
    have h6 := hB.2.2.2.2.2
    rw [l_Mod_oftenOf_31]
    rw [nI_sub (by omega)]
    by_cases hle : cn P 0 ((H : Rat) / (2 : Rat) ^ s) ≤ cn P 0 ((L : Rat) / (2 : Rat) ^ s) + 1
    · exact wq_ip (show nI _ ≤ (1 : Int32) from nI_le (b := 1) (by omega) (by omega)) (hk s L H σ Y hV hF hL hH (by omega) hB (by omega) (by omega))
    refine wq_in (show ¬ nI _ ≤ (1 : Int32) from nI_ge (a := 1) (by omega) (by omega)) ?_
    have hs285 : s < 285 := by
      apply Nat.not_le.mp
      intro hh
      have := mbr_end hP hd hB hh
      omega
    obtain ⟨st1, st2⟩ := mbr_step hB
    have zM : szb 319 (L + H) := szb_add z1 z2
    rw [show (454 : Int32) = nI 454 from rfl, show (452 : Int32) = nI 452 from rfl, show (453 : Int32) = nI 453 from rfl]
    refine wq_bd (wq_mo (mo_addb (t := 454) (a := 452) (b := 453) (by_ := 1) (e := 1) (e1 := 318) hfu hV.1 (by omega) (by omega) (by omega) (Or.inl rfl) rfl (by rw [hL]; exact z1) (by rw [hH]; exact z2) (by omega)) ?_)
    rintro ⟨u1, σ1⟩ ⟨L1, F1⟩
    dsimp only at L1 F1 ⊢
    rw [hL, hH, Int.one_mul] at L1
    refine wq_bd (wq_mo (mo_addb (t := 452) (a := 452) (b := 452) (by_ := 1) (e := 1) (e1 := 318) hfu L1 (by omega) (by omega) (by omega) (Or.inl rfl) rfl (by rw [yup_n (by omega), hL]; exact z1) (by rw [yup_n (by omega), hL]; exact z1) (by omega)) ?_)
    rintro ⟨u2, σ2⟩ ⟨L2, F2⟩
    dsimp only at L2 F2 ⊢
    rw [yup_n (show (452 : Nat) ≠ 454 by omega), hL, Int.one_mul, ← Int.two_mul] at L2
    refine wq_bd (wq_mo (mo_addb (t := 453) (a := 453) (b := 453) (by_ := 1) (e := 1) (e1 := 318) hfu L2 (by omega) (by omega) (by omega) (Or.inl rfl) rfl (by rw [yup_n (by omega), yup_n (by omega), hH]; exact z2) (by rw [yup_n (by omega), yup_n (by omega), hH]; exact z2) (by omega)) ?_)
    rintro ⟨u3, σ3⟩ ⟨L3, F3⟩
    dsimp only [rr_lt] at L3 F3 ⊢
    rw [yup_n (show (453 : Nat) ≠ 452 by omega), yup_n (show (453 : Nat) ≠ 454 by omega), hH, Int.one_mul, ← Int.two_mul] at L3
    rw [show (15 : Int32) = nI 15 from rfl]
    refine wq_bd (wq_mo (mo_copies (t := 15) (s := 454) hfu L3 (by omega) (by omega)) ?_)
    rintro ⟨u4, σ4⟩ ⟨L4, F4⟩
    dsimp only at L4 F4 ⊢
    rw [yup_n (show (454 : Nat) ≠ 453 by omega), yup_n (show (454 : Nat) ≠ 452 by omega), yup_s] at L4
    obtain ⟨Y4, eY4⟩ : ∃ Y4, Y4 = yup (yup (yup (yup Y 454 (L + H)) 452 (2 * L)) 453 (2 * H)) 15 (L + H) := ⟨_, rfl⟩
    rw [← eY4] at L4
    have y15 : Y4 15 = L + H := by rw [eY4, yup_s]
    have y454 : Y4 454 = L + H := by rw [eY4, yup_n (by omega), yup_n (by omega), yup_n (by omega), yup_s]
    have y452 : Y4 452 = 2 * L := by rw [eY4, yup_n (by omega), yup_n (by omega), yup_s]
    have y453 : Y4 453 = 2 * H := by rw [eY4, yup_n (by omega), yup_s]
    have G4 : frm C σ σ4 := frm_tr F1 (frm_tr F2 (frm_tr F3 F4))
    have V4 := lyd_frm hP hV (Nat.le_refl _) G4 L4 (fun t a b => by rw [eY4, yup_n (by omega), yup_n (by omega), yup_n (by omega), yup_n (by omega)])
    rw [nI_1]
    refine wq_bd (wq_mo (cnt_ok (l := 0) (s := s + 1) hfu hP V4 hDP y15 (szb_mono zM (by omega)) (by omega)) ?_)
    rintro ⟨r, σ5⟩ ⟨e5, F5, Y5, V5, O5⟩
    dsimp only at e5 F5 V5 ⊢
    have rg3 := cn_rg hP hd hdp (((L + H : Int) : Rat) / (2 : Rat) ^ (s + 1))
    rw [e5]
    refine wq_j3 (fun v3 v4 σ' => ∃ L' H' Y', lyd C (DP P) σ' Y' P ∧ frm C σ0 σ' ∧ Y' 452 = L' ∧ Y' 453 = H' ∧ mbr i (s + 1) L' H' P ∧ v3 = nI (cn P 0 ((L' : Rat) / (2 : Rat) ^ (s + 1))).toNat ∧ v4 = nI (cn P 0 ((H' : Rat) / (2 : Rat) ^ (s + 1))).toNat) ?_ ?_
    · intro k' hk'
      by_cases hu : (i : Int) < cn P 0 (((L + H : Int) : Rat) / (2 : Rat) ^ (s + 1))
      · refine wq_ip (nI_lt (by omega) (by omega)) (wq_bd (wq_mo (mo_copies (t := 453) (s := 454) hfu V5.1 (by omega) (by omega)) ?_))
        rintro ⟨u6, σ6⟩ ⟨L6, F6⟩
        dsimp only at L6 F6 ⊢
        refine hk' _ _ _ ⟨2 * L, L + H, _, lyd_frm hP V5 (Nat.le_refl _) F6 L6 (fun t a b => yup_n (by omega)), frm_tr hF (frm_tr G4 (frm_tr F5 F6)), ?_, ?_, st2 hu, ?_, rfl⟩
        · rw [yup_n (by omega), O5 452 (by omega) (by omega) (by omega) (by omega)]; exact y452
        · rw [yup_s, O5 454 (by omega) (by omega) (by omega) (by omega)]; exact y454
        · rw [gr_2]
      · refine wq_in (nI_nlt (by omega) (by omega)) (wq_bd (wq_mo (mo_copies (t := 452) (s := 454) hfu V5.1 (by omega) (by omega)) ?_))
        rintro ⟨u6, σ6⟩ ⟨L6, F6⟩
        dsimp only at L6 F6 ⊢
        refine hk' _ _ _ ⟨L + H, 2 * H, _, lyd_frm hP V5 (Nat.le_refl _) F6 L6 (fun t a b => yup_n (by omega)), frm_tr hF (frm_tr G4 (frm_tr F5 F6)), ?_, ?_, st1 (by omega), rfl, ?_⟩
        · rw [yup_s, O5 454 (by omega) (by omega) (by omega) (by omega)]; exact y454
        · rw [yup_n (by omega), O5 453 (by omega) (by omega) (by omega) (by omega)]; exact y453
        · rw [gr_2]
    · rintro v3 v4 σ' ⟨L', H', Y', q1, q2, q3, q4, q5, q6, q7⟩
      rw [q6, q7]
      exact oft_l hfu hP hd hi hk fl (s + 1) L' H' σ' Y' (by omega) (by omega) q1 q2 q3 q4 q5
theorem oft_ok {fu C i : Nat} {σ : rr_M} {Y : Nat → Int} {P : Pl} (hfu : 70000 < fu) (hP : pok P) (hd : 0 < dgg P) (hi : i < rn P 0) (h : lyd C (DP P) σ Y P) :
    wq (f_Mod_oftenOf fu (nm C) C (nI i) σ) (fun r => r.1 = nI (mN P i) ∧ frm C σ r.2 ∧ ∃ Y', lyd C (DP P) r.2 Y' P) := by
  obtain ⟨d1, d2, d3⟩ := rl_0 hP hd
  have hdp := dep_pos hP hd
  have hDP : 0 < DP P := by unfold DP; rw [if_pos hd]; exact hdp
  unfold f_Mod_oftenOf
  rw [show (452 : Int32) = nI 452 from rfl, show (453 : Int32) = nI 453 from rfl, show (15 : Int32) = nI 15 from rfl]
  refine wq_bd (wq_mo (mo_sets (s := 452) (v := -268435456) hfu h.1 (by omega) (by decide)) ?_)
  rintro ⟨u1, σ1⟩ ⟨L1, F1⟩
  dsimp only at L1 F1 ⊢
  refine wq_bd (wq_mo (mo_sets (s := 453) (v := 268435456) hfu L1 (by omega) (by decide)) ?_)
  rintro ⟨u2, σ2⟩ ⟨L2, F2⟩
  dsimp only at L2 F2 ⊢
  have V2 := lyd_frm hP h (Nat.le_refl _) (frm_tr F1 F2) L2 (fun t a b => by rw [yup_n (by omega), yup_n (by omega)])
  rw [show f_Mod_realRoots fu (nm C) C 0 σ2 = some (nI (rn P 0)) from rrt_ok hfu hP V2 hDP]
  refine wq_ob (wq_some ?_)
  have c0 : cn P 0 (((-268435456 : Int) : Rat) / (2 : Rat) ^ 0) = 0 := cn_l hP hd hdp (by decide +kernel)
  have c1 : cn P 0 (((268435456 : Int) : Rat) / (2 : Rat) ^ 0) = rl P 0 := cn_r hP hd hdp (by decide +kernel)
  have key := oft_l (σ0 := σ) (kk := fun v2_28 σ_29 => rr_bd (f_Mod_copies fu (nm C) C (nI 15) (nI 453) σ_29) fun _ σ_30 => l_Mod_oftenOf_155 fu (nm C) C v2_28 fu 0 0 σ_30 (fun v5_38 σ_39 => rr_bd (f_Mod_copies fu (nm C) C (nI 15) (nI 452) σ_39) fun _ σ_40 => l_Mod_oftenOf_194 fu (nm C) C v2_28 fu v5_38 0 σ_40 (fun v5_48 σ_49 => some (v5_48, σ_49)))) (Q := fun r : Int32 × rr_M => r.1 = nI (mN P i) ∧ frm C σ r.2 ∧ ∃ Y', lyd C (DP P) r.2 Y' P) hfu hP hd hi ?_ fu 0 (-268435456) 268435456 σ2 _ (by omega) (by omega) V2 (frm_tr F1 F2) (by rw [yup_n (by omega), yup_s]; rfl) (by rw [yup_s]; rfl) ⟨Or.inl ⟨rfl, rfl, rfl⟩, by decide, by decide, by decide, by rw [c0]; omega, by rw [c1]; omega⟩
  · rw [c0, c1] at key
    exact key
  intro s L H σ3 Y3 V3 F3 hL hH hs hB e1 e2
  obtain ⟨z1, z2⟩ := mbr_sz hB hs
  refine wq_bd (wq_mo (mo_copies (t := 15) (s := 453) hfu V3.1 (by omega) (by omega)) ?_)
  rintro ⟨u4, σ4⟩ ⟨L4, F4⟩
  dsimp only at L4 F4 ⊢
  rw [hH] at L4
  have V4 := lyd_frm hP V3 (Nat.le_refl _) F4 L4 (fun t a b => yup_n (by omega))
  refine oft_up (σ0 := σ4) (Y0 := yup Y3 15 H) (x := H) hfu hP (yup_s _ _ _) (szb_mono z2 (by omega)) (by omega) (fun σ5 Y5 V5 F5 O5 => ?_) fu 0 σ4 _ (by omega) (by omega) V4 (frm_rfl _ _) (fun _ _ _ _ _ => rfl)
  refine wq_bd (wq_mo (mo_copies (t := 15) (s := 452) hfu V5.1 (by omega) (by omega)) ?_)
  rintro ⟨u6, σ6⟩ ⟨L6, F6⟩
  dsimp only at L6 F6 ⊢
  rw [O5 452 (by omega) (by omega) (by omega) (by omega), yup_n (show (452 : Nat) ≠ 15 by omega), hL] at L6
  have V6 := lyd_frm hP V5 (Nat.le_refl _) F6 L6 (fun t a b => yup_n (by omega))
  obtain ⟨t1, _, _⟩ := TN_TT hP hd ((L : Rat) / (2 : Rat) ^ s)
  obtain ⟨t2, _, _⟩ := TN_TT hP hd ((H : Rat) / (2 : Rat) ^ s)
  have hmu := mu_eq hP hd e1 e2
  have mp := mu_pos hP hd (i := i) (by omega)
  refine oft_dn (σ0 := σ6) (Y0 := yup Y5 15 L) (x := L) (T := TN P ((H : Rat) / (2 : Rat) ^ s)) hfu hP (yup_s _ _ _) (szb_mono z1 (by omega)) (by omega) (by omega) (fun σ7 Y7 V7 F7 => ⟨?_, frm_tr F3 (frm_tr F4 (frm_tr F5 (frm_tr F6 F7))), Y7, V7⟩) fu 0 σ6 _ (by omega) (by omega) V6 (frm_rfl _ _) (fun _ _ _ _ _ => rfl)
  dsimp only
  congr 1
  unfold mN
  omega
