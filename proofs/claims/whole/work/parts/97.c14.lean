/-! ===== finer grids ===== -/
theorem FF_dec {P : Pl} (hP : pok P) (hd : 0 < dgg P) : ∀ l, l ≤ dep P → dgg (FF P l) + l ≤ dgg P
  | 0, _ => Nat.le_refl _
  | l + 1, h => by
    have := FF_dec hP hd l (by omega)
    obtain ⟨v1, v2, v3, v4, v5, v6, v7⟩ := HL_ok hP hd (show l < dep P by omega)
    omega
theorem HL_7 {P : Pl} {l : Nat} (hP : pok P) (hd : 0 < dgg P) (h : l < dep P) (h1 : 0 < l ∨ 1 < dep P) : dgg (SM P l) ≤ 7 ∧ dgg (SM P l) = dgg (HL P l) := by
  have e : dgg (SM P l) = dgg (HL P l) := dgg_psc (by have := es_pm hP hd l; omega) _
  have a := FF_dec hP hd l (by omega)
  obtain ⟨v1, v2, v3, v4, v5, v6, v7⟩ := HL_ok hP hd h
  have := dgg_lt P
  refine ⟨?_, e⟩
  by_cases hl : 0 < l
  · omega
  · have hl : l = 0 := by omega
    subst hl
    have h1 : 1 < dep P := by omega
    have : 0 < dgg (FF P (0 + 1)) := (dep_ok hP (dg_dln hd)).1 1 h1
    omega
theorem szb_szl {e m : Nat} {z : Int} (h : szb e z) (hm : e < 30 * m) : szl m z := by
  have h1 : (1073741824 : Int) ^ m = 2 ^ (30 * m) := by
    rw [Int.pow_mul]; rfl
  have h2 : (2 : Int) ^ e < 2 ^ (30 * m) := by
    have := pw_mono (b := 2) (by decide) (show e + 1 ≤ 30 * m by omega)
    rw [Int.pow_succ] at this
    have : (0 : Int) < 2 ^ e := Int.pow_pos (by decide)
    omega
  have h3 : ((2 ^ e : Nat) : Int) = (2 : Int) ^ e := by rw [Int.natCast_pow]; rfl
  have h : z.natAbs ≤ 2 ^ e := h
  unfold szl
  rw [h1]
  omega
theorem mvt {fu B e F o : Nat} {σ : rr_M} {Z : Nat → Option Int} {P : Pl} {X : Int} (hfu : 400 < fu) (hP : pok P) (hd : 0 < dgg P) (h : pcx B σ Z P) (ho : isB o = true) (hX : Z o = some X) (hF : F ≤ 1000) (hFe : F ≤ e) (sX : szb e X) (he : e < 600) :
    wq (f_Poi_moveTo fu (nx B) (B + 280) (B + o) (nI F) σ) (fun r => pfx B (fun o => o = 280) (fun _ => False) σ r.2 ∧ ∃ Z', pcx B r.2 Z' P ∧ (∀ t, t ≠ 281 → Z' t = Z t) ∧ ptA B r.2 Z' ((X : Rat) / (2 : Rat) ^ F) e) := by
  obtain ⟨a, b, hp⟩ := h.2.2.1
  refine wq_mo (ptt_ok hfu h.2.1 hp ho hX hF hFe sX he) ?_
  rintro r ⟨F, hp', Z', hZ', hz, hA⟩
  exact ⟨fr2_pfx F rfl, Z', pcx_mv hP hd h (fr2_pfx (I := fun o => o = 280) (L := fun _ => False) F rfl) hZ' ⟨a, b, hp'⟩ (fun t ht => hz t (by omega)) (hz 339 (by omega)) (by omega) (fun _ _ h => h) (by rw [F.2.1 319 (by decide) (by omega)]) (by rw [F.2.1 319 (by decide) (by omega)]), hz, hA⟩
theorem pcx_sbf {B : Nat} {σ σ' : rr_M} {Z Z' : Nat → Option Int} {P : Pl} (hP : pok P) (hd : 0 < dgg P) (h : pcx B σ Z P) (F : sbf B σ σ') (hZ' : bgs B σ' Z') (hz : ∀ t, t < 280 ∨ t = 339 → Z' t = Z t) : pcx B σ' Z' P := by
  obtain ⟨a, b, hp⟩ := h.2.2.1
  exact pcx_mv hP hd h (sbf_pfx (I := fun _ => False) (L := fun _ => False) F) hZ' ⟨a, b, prf_sbf hp F⟩ (fun t ht => hz t (Or.inl ht)) (hz 339 (Or.inr rfl)) (by simp) (fun _ _ h => h) (by rw [F.2.1 319 (by decide)]) (by rw [F.2.1 319 (by decide)])
theorem md_ok {fu B : Nat} {σ : rr_M} {Z : Nat → Option Int} {P : Pl} {E : Int} {α : Type} {k : rr_M → Option α} {Q : α → Prop} (hfu : 400 < fu) (hP : pok P) (hd : 0 < dgg P) (h : pcx B σ Z P) (hE : Z 335 = some E) (sE : szb 284 E)
    (hk : ∀ σ' Z', pcx B σ' Z' P → Z' 335 = some E → Z' 337 = some (E - 1) → (∀ t, t ≠ 337 → Z' t = Z t) → sbf B σ σ' → wq (k σ') Q) :
    wq (rr_bd (f_Big_copy (nx B) (B + 337) (B + 335) σ) fun _ σ1 => rr_bd (f_Big_addTimes fu (nx B) (mg_r σ1 (B + 319) 12) (mg_r σ1 (B + 319) 13) (-1) 0 σ1) fun _ σ2 => k σ2) Q := by
  obtain ⟨p0, p1, p2, p3, p4, p7, p8, p9, p10, p11, p12, p13⟩ := rx_pla
  refine wq_bd (wq_mo (bo_copy (x := 337) (y := 335) h.2.1 (by decide) (by decide) hE (szl_mono (szb_szl (m := 10) sE (by omega)) (by decide))) ?_)
  rintro ⟨u1, σ1⟩ ⟨L1, S1⟩
  dsimp only at L1 S1 ⊢
  have X1 : pcx B σ1 (zup Z 337 E) P := pcx_sbf hP hd h S1 L1 (fun t ht => zup_n (by omega))
  rw [X1.1 319 12 (by omega), p12, X1.1 319 13 (by omega), p13]
  refine wq_bd (wq_mo (bo_add (x := 337) (y := 339) (u := 0) (m1 := 10) (m2 := 1) (v := E) (w := 1) (F := -1) hfu L1 (by decide) (by decide) (fun h => by omega) (zup_s _ _ _) (by rw [zup_n (by omega)]; exact h.2.2.2.1) (szb_szl sE (by omega)) (by unfold szl; decide) (by omega) (by omega) (by decide) (by decide) (by decide)) ?_)
  rintro ⟨u2, σ2⟩ ⟨L2, S2⟩
  dsimp only at L2 S2 ⊢
  have e1 : E + (-1 : Int64).toInt * (1 * 1073741824 ^ 0) = E - 1 := by
    have : (-1 : Int64).toInt = -1 := by decide
    rw [this]
    show E + -1 * (1 * 1) = E - 1
    omega
  rw [e1] at L2
  refine hk σ2 _ (pcx_sbf hP hd X1 S2 L2 (fun t ht => zup_n (by omega))) ?_ (zup_s _ _ _) (fun t ht => ?_) (sbf_tr S1 S2)
  · rw [zup_n (by omega), zup_n (by omega)]; exact hE
  · rw [zup_n ht, zup_n ht]
/-- the cell that is being refined -/
def cel (j f : Nat) (E : Int) (P : Pl) : Prop := 12 ≤ f ∧ f ≤ 256 ∧ -(2 : Int) ^ (27 + f) ≤ E - 1 ∧ E ≤ (2 : Int) ^ (27 + f) ∧ cn P 0 (((E - 1 : Int) : Rat) / (2 : Rat) ^ f) ≤ j ∧ (j : Int) < cn P 0 ((E : Rat) / (2 : Rat) ^ f)
theorem p2_283 {f : Nat} (h : f ≤ 256) : (2 : Int) ^ (27 + f) ≤ 2 ^ 283 := pw_mono (by decide) (by omega)
theorem cel_sz {j f : Nat} {E : Int} {P : Pl} (h : cel j f E P) : szb 283 E ∧ szb 283 (E - 1) := by
  obtain ⟨h1, h2, h3, h4, _, _⟩ := h
  have a := p2_283 h2
  have h3' : ((2 ^ 283 : Nat) : Int) = (2 : Int) ^ 283 := by rw [Int.natCast_pow]; rfl
  have b : (0 : Int) < 2 ^ (27 + f) := Int.pow_pos (by decide)
  unfold szb
  constructor <;> omega
theorem gr_2 (E : Int) (f : Nat) : ((2 * E : Int) : Rat) / (2 : Rat) ^ (f + 1) = (E : Rat) / (2 : Rat) ^ f := (rat_sh (X := 2 * E) (x := E) (z := 1) (F := f + 1) (by omega) (by show 2 * E = 2 ^ 1 * E; rfl)).symm
theorem rfn_l {fu B j : Nat} {σ0 : rr_M} {P : Pl} (hfu : 400 < fu) (hP : pok P) (hd : 0 < dgg P) (hj : j < rn P 0) (h7 : dgg (HL P 0) ≤ 7) {Q : Unit × rr_M → Prop}
    (hk : ∀ σ Z E f, pcx B σ Z P → Z 335 = some E → mg_i σ (B + 319) 14 = nI f → pfx B (fun o => o = 280 ∨ o = 319) (fun _ => False) σ0 σ → cel j f E P → cn P 0 (((E - 1 : Int) : Rat) / (2 : Rat) ^ f) = j → cn P 0 ((E : Rat) / (2 : Rat) ^ f) = (j : Int) + 1 → Q ((), σ)) :
    ∀ (fl f : Nat) (E : Int) (σ : rr_M) (Z : Nat → Option Int), 257 - f ≤ fl → pcx B σ Z P → Z 335 = some E → mg_i σ (B + 319) 14 = nI f → pfx B (fun o => o = 280 ∨ o = 319) (fun _ => False) σ0 σ → cel j f E P → wq (l_Pla_refine_33 fu (nx B) (B + 319) (nI j) fl (nI (cn P 0 (((E - 1 : Int) : Rat) / (2 : Rat) ^ f)).toNat) (nI (cn P 0 ((E : Rat) / (2 : Rat) ^ f)).toNat) σ (fun σ_40 => some ((), σ_40))) Q
  | 0, f, E, σ, Z, h1, _, _, _, _, hC => by
    have := hC.2.1
    omega
  | fl + 1, f, E, σ, Z, h1, X, hE, hf, F, hC => by
    obtain ⟨c1, c2, c3, c4, c5, c6⟩ := hC
    obtain ⟨d1, d2, d3⟩ := rl_0 hP hd
    obtain ⟨p0, p1, p2, p3, p4, p7, p8, p9, p10, p11, p12, p13⟩ := rx_pla
    have rg1 := cn_rg hP hd (dep_pos hP hd) (((E - 1 : Int) : Rat) / (2 : Rat) ^ f)
    have rg2 := cn_rg hP hd (dep_pos hP hd) ((E : Rat) / (2 : Rat) ^ f)
    rw [l_Pla_refine_33]
    rw [nI_sub (by omega)]
    by_cases hle : cn P 0 ((E : Rat) / (2 : Rat) ^ f) ≤ cn P 0 (((E - 1 : Int) : Rat) / (2 : Rat) ^ f) + 1
    · exact wq_ip (show nI _ ≤ (1 : Int32) from nI_le (b := 1) (by omega) (by omega)) (wq_some (hk σ Z E f X hE hf F ⟨c1, c2, c3, c4, c5, c6⟩ (by omega) (by omega)))
    refine wq_in (show ¬ nI _ ≤ (1 : Int32) from nI_ge (a := 1) (by omega) (by omega)) ?_
    have hf256 : f < 256 := by
      apply Nat.not_le.mp
      intro hh
      have := sep_cell hP hd (E - 1) hh
      rw [show E - 1 + 1 = E by omega] at this
      omega
    rw [hf]
    refine wq_in (show ¬ (256 : Int32) ≤ nI f from nI_ge (a := f) (b := 256) (by omega) (by omega)) ?_
    dsimp only [rr_lt]
    rw [nI_1]
    obtain ⟨σ1, e1⟩ : ∃ σ1, σ1 = ms_i σ (B + 319) 14 (nI (f + 1)) := ⟨_, rfl⟩
    rw [← e1]
    have F1 : pfx B (fun o => o = 280 ∨ o = 319) (fun _ => False) σ σ1 := by rw [e1]; exact fra_pfx (fra_mi (by omega))
    have X1 : pcx B σ1 Z P := by
      obtain ⟨a, b, hp⟩ := X.2.2.1
      refine pcx_mv hP hd X F1 (by rw [e1]; exact bgs_ms X.2.1 (by decide)) ⟨a, b, ?_⟩ (fun _ _ => rfl) rfl (by omega) (fun _ _ h => h) (by rw [e1, si_n (by omega)]) (by rw [e1, si_n (by omega)])
      rw [e1]; exact hp
    have f1 : mg_i σ1 (B + 319) 14 = nI (f + 1) := by rw [e1, si_s]
    have sz1 : (2 : Int) ^ (27 + (f + 1)) = 2 ^ (27 + f) * 2 := Int.pow_succ _ _
    have szE := (cel_sz ⟨c1, c2, c3, c4, c5, c6⟩).1
    have mo := cn_mono hP hd (dep_pos hP hd) (gr_le (X := 2 * E - 1) (Y := 2 * E) (f + 1) (by omega))
    have C2 : (cn P 0 (((2 * E - 1 : Int) : Rat) / (2 : Rat) ^ (f + 1)) ≤ j → cel j (f + 1) (2 * E) P) ∧ ((j : Int) < cn P 0 (((2 * E - 1 : Int) : Rat) / (2 : Rat) ^ (f + 1)) → cel j (f + 1) (2 * E - 1) P) := by
      constructor
      · intro hh
        exact ⟨by omega, by omega, by omega, by omega, hh, by rw [gr_2]; exact c6⟩
      · intro hh
        refine ⟨by omega, by omega, by omega, by omega, ?_, hh⟩
        rw [show 2 * E - 1 - 1 = 2 * (E - 1) by omega, gr_2]
        exact c5
    have s2E : szb 284 (2 * E) := by
      have := szb_mul (a := 1) (x := 2) (by unfold szb; decide) szE
      exact szb_mono this (by omega)
    have smid : szb 283 (2 * E - 1) := by
      by_cases hh : cn P 0 (((2 * E - 1 : Int) : Rat) / (2 : Rat) ^ (f + 1)) ≤ j
      · exact (cel_sz (C2.1 hh)).2
      · exact (cel_sz (C2.2 (by omega))).1
    rw [X1.1 319 11 (by omega), p11]
    refine wq_bd (wq_mo (bo_add (x := 335) (y := 335) (u := 0) (m1 := 10) (m2 := 10) (v := E) (w := E) (F := 1) hfu X1.2.1 (by decide) (by decide) (fun _ => rfl) hE hE (szb_szl szE (by omega)) (szb_szl szE (by omega)) (by omega) (by omega) (by decide) (by decide) (by decide)) ?_)
    rintro ⟨u2, σ2⟩ ⟨L2, S2⟩
    dsimp only at L2 S2 ⊢
    have e2 : E + (1 : Int64).toInt * (E * 1073741824 ^ 0) = 2 * E := by
      have : (1 : Int64).toInt = 1 := by decide
      rw [this]
      show E + 1 * (E * 1) = 2 * E
      omega
    rw [e2] at L2
    have X2 : pcx B σ2 (zup Z 335 (2 * E)) P := pcx_sbf hP hd X1 S2 L2 (fun t ht => zup_n (by omega))
    rw [X2.1 319 12 (by omega), p12, X2.1 319 11 (by omega), p11]
    refine md_ok hfu hP hd X2 (zup_s _ _ _) s2E (fun σ3 Z3 X3 E3 M3 O3 S3 => ?_)
    have f3 : mg_i σ3 (B + 319) 14 = nI (f + 1) := by rw [S3.2.1 319 (by decide), S2.2.1 319 (by decide)]; exact f1
    rw [X3.1 319 2 (by omega), p2, X3.1 319 12 (by omega), p12, f3]
    refine wq_bd (wq_mo (mvt (e := 283) (o := 337) (F := f + 1) hfu hP hd X3 (by decide) M3 (by omega) (by omega) smid (by omega)) ?_)
    rintro ⟨u4, σ4⟩ ⟨F4, Z4, X4, O4, A4⟩
    dsimp only at F4 X4 A4 ⊢
    refine wq_bd (wq_mo (rupc hfu hP hd X4 A4 (by omega)) ?_)
    rintro ⟨r, σ5⟩ ⟨e5, F5, Z5, X5, O5, A5⟩
    dsimp only at e5 F5 X5 A5 ⊢
    have G5 : pfx B (fun o => o = 280 ∨ o = 319) (fun _ => False) σ0 σ5 := pfx_tr F (pfx_tr F1 (pfx_tr (sbf_pfx S2) (pfx_tr (sbf_pfx S3) (pfx_tr (pfx_mo F4 (fun o h => Or.inl h) (fun o h => h)) (pfx_mo F5 (fun o h => h.elim) (fun o h => h))))))
    have f5 : mg_i σ5 (B + 319) 14 = nI (f + 1) := by rw [F5.2.1 319 (by decide) (fun h => h), F4.2.1 319 (by decide) (by omega)]; exact f3
    have E5 : Z5 335 = some (2 * E) := by rw [O5 335 (by omega) (by omega), O4 335 (by omega)]; exact E3
    have M5 : Z5 337 = some (2 * E - 1) := by rw [O5 337 (by omega) (by omega), O4 337 (by omega)]; exact M3
    have rg3 := cn_rg hP hd (dep_pos hP hd) (((2 * E - 1 : Int) : Rat) / (2 : Rat) ^ (f + 1))
    rw [e5]
    refine wq_j3 (fun v2 v3 σ' => ∃ E' Z', pcx B σ' Z' P ∧ Z' 335 = some E' ∧ mg_i σ' (B + 319) 14 = nI (f + 1) ∧ pfx B (fun o => o = 280 ∨ o = 319) (fun _ => False) σ0 σ' ∧ cel j (f + 1) E' P ∧ v2 = nI (cn P 0 (((E' - 1 : Int) : Rat) / (2 : Rat) ^ (f + 1))).toNat ∧ v3 = nI (cn P 0 ((E' : Rat) / (2 : Rat) ^ (f + 1))).toNat) ?_ ?_
    · intro k' hk'
      by_cases hu : cn P 0 (((2 * E - 1 : Int) : Rat) / (2 : Rat) ^ (f + 1)) ≤ j
      · refine wq_ip (nI_le (by omega) (by omega)) (hk' _ _ _ ⟨2 * E, Z5, X5, E5, f5, G5, C2.1 hu, rfl, ?_⟩)
        rw [gr_2]
      · refine wq_in (nI_ge (by omega) (by omega)) ?_
        rw [X5.1 319 11 (by omega), p11, X5.1 319 12 (by omega), p12]
        refine wq_bd (wq_mo (bo_copy (x := 335) (y := 337) X5.2.1 (by decide) (by decide) M5 (szl_mono (szb_szl (m := 10) smid (by omega)) (by decide))) ?_)
        rintro ⟨u6, σ6⟩ ⟨L6, S6⟩
        dsimp only at L6 S6 ⊢
        refine hk' _ _ _ ⟨2 * E - 1, _, pcx_sbf hP hd X5 S6 L6 (fun t ht => zup_n (by omega)), zup_s _ _ _, by rw [S6.2.1 319 (by decide)]; exact f5, pfx_tr G5 (sbf_pfx S6), C2.2 (by omega), ?_, rfl⟩
        rw [show 2 * E - 1 - 1 = 2 * (E - 1) by omega, gr_2]
    · rintro v2 v3 σ' ⟨E', Z', q1, q2, q3, q4, q5, q6, q7⟩
      rw [q6, q7]
      exact rfn_l hfu hP hd hj h7 hk fl (f + 1) E' σ' Z' (by omega) q1 q2 q3 q4 q5
theorem rfn_ok {fu B j : Nat} {σ : rr_M} {P : Pl} (hfu : 400 < fu) (hP : pok P) (hd : 0 < dgg P) (hj : j < rn P 0) (h7 : dgg (HL P 0) ≤ 7) (h : plc B σ σ P) (hw : (mg_l σ (B + 332) j).toInt = (mg_l σ (B + 331) j).toInt + 1) :
    wq (f_Pla_refine fu (nx B) (B + 319) (nI j) σ) (fun r => ∃ Z E f, pcx B r.2 Z P ∧ Z 335 = some E ∧ mg_i r.2 (B + 319) 14 = nI f ∧ pfx B (fun o => o = 280 ∨ o = 319) (fun _ => False) σ r.2 ∧ cel j f E P ∧ cn P 0 (((E - 1 : Int) : Rat) / (2 : Rat) ^ f) = j ∧ cn P 0 ((E : Rat) / (2 : Rat) ^ f) = (j : Int) + 1) := by
  obtain ⟨F, ⟨Z, X⟩, hB⟩ := h
  obtain ⟨d1, d2, d3⟩ := rl_0 hP hd
  obtain ⟨p0, p1, p2, p3, p4, p7, p8, p9, p10, p11, p12, p13⟩ := rx_pla
  obtain ⟨s1, s2, s3, s4, s5, s6, s7, s8⟩ := rx_sim
  obtain ⟨a1, a2, a3, a4, a5, a6, a7⟩ := hB j hj
  have ml : rr_n (nI j) = j := n_nI (by omega)
  have ix : ∀ o, NX o = 8 → rr_ix (nI j) (nx B (B + o)) = true := fun o h => by rw [nx_at, h]; exact ix_nI (by omega) (by omega)
  unfold f_Pla_refine
  dsimp only [rr_lt]
  rw [ml, X.1 319 11 (by omega), p11, X.1 319 8 (by omega), p8]
  refine wq_ip (ix 332 s6) (wq_bd (wq_mo (bo_set (x := 335) hfu X.2.1 (by decide) (mg_l σ (B + 332) j)) ?_))
  rintro ⟨u1, σ1⟩ ⟨L1, S1⟩
  dsimp only at L1 S1 ⊢
  have X1 := pcx_sbf hP hd X S1 L1 (fun t ht => zup_n (by omega))
  obtain ⟨σ2, e2⟩ : ∃ σ2, σ2 = ms_i σ1 (B + 319) 14 12 := ⟨_, rfl⟩
  rw [← e2]
  have F2 : pfx B (fun o => o = 280 ∨ o = 319) (fun _ => False) σ1 σ2 := by rw [e2]; exact fra_pfx (fra_mi (by omega))
  have X2 : pcx B σ2 (zup Z 335 (mg_l σ (B + 332) j).toInt) P := by
    obtain ⟨a, b, hp⟩ := X1.2.2.1
    refine pcx_mv hP hd X1 F2 (by rw [e2]; exact bgs_ms X1.2.1 (by decide)) ⟨a, b, ?_⟩ (fun _ _ => rfl) rfl (by omega) (fun _ _ h => h) (by rw [e2, si_n (by omega)]) (by rw [e2, si_n (by omega)])
    rw [e2]; exact hp
  have i3 : mg_i σ2 (B + 333) j = nI (cX P (mg_l σ (B + 331) j).toInt).toNat := by rw [F2.2.1 333 (by decide) (by omega), S1.2.1 333 (by decide)]; exact a4
  have i4 : mg_i σ2 (B + 334) j = nI (cX P (mg_l σ (B + 332) j).toInt).toNat := by rw [F2.2.1 334 (by decide) (by omega), S1.2.1 334 (by decide)]; exact a5
  rw [X2.1 319 9 (by omega), p9, X2.1 319 10 (by omega), p10, i3, i4]
  refine wq_ip (ix 333 s7) (wq_ip (ix 334 s8) ?_)
  have eL : (mg_l σ (B + 331) j).toInt = (mg_l σ (B + 332) j).toInt - 1 := by omega
  rw [eL] at a2 a6 ⊢
  refine rfn_l (σ0 := σ) hfu hP hd hj h7 (fun σ' Z' E f q1 q2 q3 q4 q5 q6 q7 => ⟨Z', E, f, q1, q2, q3, q4, q5, q6, q7⟩) fu 12 (mg_l σ (B + 332) j).toInt σ2 _ (by omega) X2 (zup_s _ _ _) (by rw [e2, si_s]; rfl) (pfx_tr (sbf_pfx S1) F2) ⟨by omega, by omega, ?_, ?_, a6, a7⟩
  · have : (2 : Int) ^ (27 + 12) = 549755813888 := by decide
    omega
  · have : (2 : Int) ^ (27 + 12) = 549755813888 := by decide
    omega
