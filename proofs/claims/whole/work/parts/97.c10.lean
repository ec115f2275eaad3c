/-! ===== the placer's standing ===== -/
def pfx (B : Nat) (I L : Nat → Prop) (σ σ' : rr_M) : Prop := (∀ o k, o ≠ 280 → mg_r σ' (B + o) k = mg_r σ (B + o) k) ∧ (∀ o, isB o = false → ¬ I o → mg_i σ' (B + o) = mg_i σ (B + o)) ∧ (∀ o, isB (o - 1) = false → ¬ L o → mg_l σ' (B + o) = mg_l σ (B + o))
theorem pfx_rf {B : Nat} {I L : Nat → Prop} {σ : rr_M} : pfx B I L σ σ := ⟨fun _ _ _ => rfl, fun _ _ _ => rfl, fun _ _ _ => rfl⟩
theorem pfx_tr {B : Nat} {I L : Nat → Prop} {σ σ' σ'' : rr_M} (h1 : pfx B I L σ σ') (h2 : pfx B I L σ' σ'') : pfx B I L σ σ'' := ⟨fun o k a => (h2.1 o k a).trans (h1.1 o k a), fun o a b => (h2.2.1 o a b).trans (h1.2.1 o a b), fun o a b => (h2.2.2 o a b).trans (h1.2.2 o a b)⟩
theorem pfx_mo {B : Nat} {I L I' L' : Nat → Prop} {σ σ' : rr_M} (h : pfx B I L σ σ') (hI : ∀ o, I o → I' o) (hL : ∀ o, L o → L' o) : pfx B I' L' σ σ' := ⟨h.1, fun o a b => h.2.1 o a (fun c => b (hI o c)), fun o a b => h.2.2 o a (fun c => b (hL o c))⟩
theorem fr2_pfx {B : Nat} {I L : Nat → Prop} {σ σ' : rr_M} (h : fr2 B σ σ') (h1 : I 280) : pfx B I L σ σ' := ⟨h.1, fun o a b => h.2.1 o a (fun c => b (c ▸ h1)), fun o a _ => h.2.2 o a⟩
theorem frp_pfx {B : Nat} {I L : Nat → Prop} {σ σ' : rr_M} (h : frp B σ σ') : pfx B I L σ σ' := ⟨h.1, fun o a _ => h.2.1 o a, fun o a _ => h.2.2 o a⟩
theorem fra_pfx {B : Nat} {I L : Nat → Prop} {σ σ' : rr_M} (h : fra B I L σ σ') : pfx B I L σ σ' := ⟨fun o k _ => by rw [h.1], h.2.1, h.2.2⟩
theorem sbf_pfx {B : Nat} {I L : Nat → Prop} {σ σ' : rr_M} (h : sbf B σ σ') : pfx B I L σ σ' := frp_pfx (sbf_frp h)
theorem crf_pfx {B : Nat} {I L : Nat → Prop} {σ σ' : rr_M} (h : crf B σ) (hf : pfx B I L σ σ') : crf B σ' := fun o k ho => by rw [hf.1 o k ho]; exact h o k ho
def pcx (B : Nat) (σ : rr_M) (Z : Nat → Option Int) (P : Pl) : Prop :=
  crf B σ ∧ bgs B σ Z ∧ (∃ a b, prf B σ a b) ∧ Z 339 = some 1 ∧ mg_i σ (B + 63) 3 = nI (MH P 0) ∧ crs B (MH P 0 - 1) σ Z (SM P 0) (der (SM P 0)) ∧ mg_i σ (B + 319) 6 = nI (hL P 0) ∧ mg_i σ (B + 319) 5 = nI (rn P 0) ∧ mg_i σ (B + 306) 2 = nI (dep P) ∧ (∀ i, i < dep P → mg_i σ (B + 317) i = nI (rn P i)) ∧ (∀ i, i < dep P → ∀ j, j < 9 → (mg_l σ (B + (321 + i)) j).toInt = SM P i j)
theorem nb_lt {i j : Nat} (hi : i < 10) (hj : j < 9) : nb i j < 280 := by unfold nb; omega
theorem pcx_mv {B : Nat} {I L : Nat → Prop} {σ σ' : rr_M} {Z Z' : Nat → Option Int} {P : Pl} (hP : pok P) (hd : 0 < dgg P) (h : pcx B σ Z P) (F : pfx B I L σ σ') (hZ' : bgs B σ' Z') (hp : ∃ a b, prf B σ' a b) (hz : ∀ t, t < 280 → Z' t = Z t) (h9 : Z' 339 = Z 339) (hI : ¬ I 63 ∧ ¬ I 65 ∧ ¬ I 66 ∧ ¬ I 306 ∧ ¬ I 317) (hL : ∀ i, i < 9 → ¬ L (321 + i)) (h5 : mg_i σ' (B + 319) 5 = mg_i σ (B + 319) 5) (h6 : mg_i σ' (B + 319) 6 = mg_i σ (B + 319) 6) : pcx B σ' Z' P := by
  obtain ⟨a1, a2, a3, a4, a5, a6, a7, a8, a9, a10, a11⟩ := h
  obtain ⟨i1, i2, i3, i4, i5⟩ := hI
  have h8 := (dep_ok hP (dg_dln hd)).2.2.1
  have h88 := dgg_lt P
  have hM := (SM_seq hP hd).2.2.2.2.1
  refine ⟨crf_pfx a1 F, hZ', hp, by rw [h9]; exact a4, by rw [F.2.1 63 (by decide) i1]; exact a5, fun i hi => ?_, by rw [h6]; exact a7, by rw [h5]; exact a8, by rw [F.2.1 306 (by decide) i4]; exact a9, fun i hi => by rw [F.2.1 317 (by decide) i5]; exact a10 i hi, fun i hi j hj => by rw [F.2.2 (321 + i) (isB_hi (by omega) (by omega) (by omega) (by omega)) (hL i (by omega))]; exact a11 i hi j hj⟩
  obtain ⟨x1, x2, x3⟩ := a6 i hi
  exact ⟨fun j hj => by rw [hz _ (nb_lt (by omega) hj)]; exact x1 j hj, by rw [F.2.1 65 (by decide) i2]; exact x2, by rw [F.2.1 66 (by decide) i3]; exact x3⟩
theorem mks_ok {fu B : Nat} {σ : rr_M} {Z : Nat → Option Int} {P : Pl} (hfu : 400 < fu) (hP : pok P) (hd : 0 < dgg P) (hc : crf B σ) (hZ : bgs B σ Z) (hp : ∃ a b, prf B σ a b) (h339 : Z 339 = some 1) (hL0 : lvh B σ P) (h5 : mg_i σ (B + 319) 5 = nI (rn P 0)) :
    wq (f_Pla_makeSimple fu (nx B) (B + 319) σ) (fun r => ∃ Z', pcx B r.2 Z' P ∧ fra B (fun o => o = 63 ∨ o = 65 ∨ o = 66 ∨ o = 319) LSm σ r.2) := by
  have h8 := (dep_ok hP (dg_dln hd)).2.2.1
  have h88 := dgg_lt P
  have hdp := dep_pos hP hd
  obtain ⟨r0, r1, r3, r4, r7, n8, n7, n17, n18⟩ := rx_lvl
  obtain ⟨p0, p1, p2, p3, p4, p7, p8, p9, p10, p11, p12, p13⟩ := rx_pla
  obtain ⟨s1, s2, s3, s4, s5, s6, s7, s8⟩ := rx_sim
  obtain ⟨⟨sg, q1⟩, q2, q3, q4, q5, q6, q7⟩ := SM_seq hP hd
  obtain ⟨t1, t2, t3, t4, t5, t6, t7⟩ := SM_ok hP hd hdp
  unfold f_Pla_makeSimple
  refine mks_l (σ0 := σ) (Z := Z) hfu hP hd hc hL0 (fun σ18 F L hS => ?_) fu 0 σ (Nat.zero_le _) (by omega) fra_rf hZ (fun i hi => absurd hi (by omega))
  have hc18 := crf_fra hc F
  dsimp only [rr_lt]
  have z0 : rr_n 0 = 0 := rfl
  rw [hc18 319 4 (by omega), p4, hc18 319 3 (by omega), p3, z0, hc18 320 0 (by omega), s1 0 (by omega)]
  refine wq_ip (by rw [nx_at, s3]; decide) (wq_bd (wq_mo (sso_ok (o := 330) (o' := 321) hfu (by rw [nx_at]; exact s4) (by rw [nx_at]; exact s2 0 (by omega)) (by omega) t7 (hS 0 hdp) t6) ?_))
  rintro ⟨w1, σ22⟩ ⟨u, e22, hu⟩
  dsimp only at e22 ⊢
  have F22 : fra B (fun _ => False) LSm σ18 σ22 := by rw [e22]; exact fra_mw (by unfold LSm; omega)
  have hc22 := crf_fra hc18 F22
  have L22 : bgs B σ22 Z := by rw [e22]; exact bgs_mw L (by decide)
  have w22 : ∀ j, j < 9 → (mg_l σ22 (B + 330) j).toInt = der (SM P 0) j := fun j hj => by rw [e22, mw_gsk]; exact hu j hj
  have v22 : ∀ i, i < dep P → ∀ j, j < 9 → (mg_l σ22 (B + (321 + i)) j).toInt = SM P i j := fun i hi j hj => by rw [e22, mw_gn _ (by omega)]; exact hS i hi j hj
  rw [hc22 319 1 (by omega), p1, hc22 319 3 (by omega), p3, hc22 320 0 (by omega), s1 0 (by omega), hc22 319 4 (by omega), p4]
  refine wq_ip (by rw [nx_at, s3]; decide) (wq_bd (wq_mo (run_ok (op := 321) (oq := 330) hfu q1 hc22 L22 (by rw [nx_at]; exact s2 0 (by omega)) (by rw [nx_at]; exact s4) (by decide) (by decide) (v22 0 hdp) w22) ?_))
  rintro ⟨w3, σ28⟩ ⟨F3, Z3, M, L3, O3, E3, M3, N3, R3⟩
  dsimp only at F3 L3 N3 R3 ⊢
  have eM := ends_uniq E3 q2
  subst eM
  have hc28 := crf_frs hc22 F3
  rw [hc28 319 1 (by omega), p1]
  refine wq_ob (wq_mo (cbl_ok hfu q1 E3 M3 hc28 N3 R3) ?_)
  intro v hv
  rw [hv, q3]
  have FF1 : fra B (fun o => o = 63 ∨ o = 65 ∨ o = 66 ∨ o = 319) LSm σ σ28 := fra_tr (fra_mo F (fun o h => h.elim) (fun o h => h)) (fra_tr (fra_mo F22 (fun o h => h.elim) (fun o h => h)) (frs_fra F3 (by omega) (by omega) (by omega)))
  have i319 : mg_i σ28 (B + 319) 5 = nI (rn P 0) := by
    rw [F3.2.1 319 (by decide) (by omega) (by omega) (by omega), F22.2.1 319 (by decide) (fun h => h), F.2.1 319 (by decide) (fun h => h)]; exact h5
  have FX := fra_tr FF1 (fra_mi (B := B) (o := 319) (k := 6) (σ := σ28) (v := nI (hL P 0)) (I := fun o => o = 63 ∨ o = 65 ∨ o = 66 ∨ o = 319) (L := LSm) (by omega))
  refine wq_some ⟨Z3, ⟨crf_fra hc FX, bgs_ms L3 (by decide), ?_, ?_, ?_, ?_, ?_, ?_, ?_, ?_, ?_⟩, FX⟩
  · obtain ⟨a, b, hh⟩ := hp
    refine ⟨a, b, ?_⟩
    unfold prf at hh ⊢
    dsimp only
    rw [FX.1]; exact hh
  · rw [O3 339 (by omega)]; exact h339
  · dsimp only
    rw [si_row (by omega)]; exact N3
  · intro i hi
    obtain ⟨x1, x2, x3⟩ := R3 i hi
    exact ⟨x1, by dsimp only; rw [si_row (by omega)]; exact x2, by dsimp only; rw [si_row (by omega)]; exact x3⟩
  · dsimp only
    rw [si_s]
  · dsimp only
    rw [si_n (by omega)]; exact i319
  · dsimp only
    rw [FX.2.1 306 (by decide) (by omega)]; exact hL0.1
  · intro i hi
    dsimp only
    rw [FX.2.1 317 (by decide) (by omega)]; exact hL0.2.2 i hi
  · intro i hi j hj
    dsimp only
    rw [si_l, F3.2.2 _ (isB_hi (by omega) (by omega) (by omega) (by omega))]
    exact v22 i hi j hj
theorem mvc {fu B e : Nat} {σ : rr_M} {Z : Nat → Option Int} {P : Pl} {v : Int64} (hfu : 400 < fu) (hP : pok P) (hd : 0 < dgg P) (h : pcx B σ Z P) (hFe : 12 ≤ e) (sX : szb e v.toInt) :
    wq (f_Poi_move fu (nx B) (B + 280) v 12 σ) (fun r => pfx B (fun o => o = 280) (fun _ => False) σ r.2 ∧ ∃ Z', pcx B r.2 Z' P ∧ (∀ t, t ≠ 281 → Z' t = Z t) ∧ ptA B r.2 Z' ((v.toInt : Rat) / (2 : Rat) ^ 12) e) := by
  obtain ⟨a, b, hp⟩ := h.2.2.1
  refine wq_mo (ptm_ok (F := 12) hfu h.2.1 hp (by omega) hFe sX) ?_
  rintro r ⟨F, hp', Z', hZ', hz, hA⟩
  exact ⟨fr2_pfx F rfl, Z', pcx_mv hP hd h (fr2_pfx (I := fun o => o = 280) (L := fun _ => False) F rfl) hZ' ⟨a, b, hp'⟩ (fun t ht => hz t (by omega)) (hz 339 (by omega)) (by omega) (fun _ _ h => h) (by rw [F.2.1 319 (by decide) (by omega)]) (by rw [F.2.1 319 (by decide) (by omega)]), hz, hA⟩
theorem rupc {fu B e : Nat} {σ : rr_M} {Z : Nat → Option Int} {P : Pl} {y : Rat} (hfu : 400 < fu) (hP : pok P) (hd : 0 < dgg P) (h : pcx B σ Z P) (hA : ptA B σ Z y e) (hee : 600 + dgg (HL P 0) * (e + 1) ≤ 2700) :
    wq (f_Pla_rootsUpToPoint fu (nx B) (B + 319) σ) (fun r => r.1 = nI (cn P 0 y).toNat ∧ pfx B (fun _ => False) (fun _ => False) σ r.2 ∧ ∃ Z', pcx B r.2 Z' P ∧ (∀ t, t ≠ 284 → t ≠ 286 → Z' t = Z t) ∧ ptA B r.2 Z' y e) := by
  obtain ⟨a, b, hp⟩ := h.2.2.1
  obtain ⟨⟨sg, q1⟩, q2, q3, q4, q5, q6, q7⟩ := SM_seq hP hd
  refine wq_mo (rup_ok (M := MH P 0) hfu h.1 h.2.1 hp q1 q2 q5 h.2.2.2.2.1 h.2.2.2.2.2.1 hA (by rw [q6]; exact hee)) ?_
  rintro r ⟨e1, F, Z', a', b', hZ', hp', hz⟩
  have hcn := cn_rg hP hd (dep_pos hP hd) y
  refine ⟨?_, frp_pfx F, Z', pcx_mv hP hd h (frp_pfx (I := fun _ => False) (L := fun _ => False) F) hZ' ⟨a', b', hp'⟩ (fun t ht => hz t (by omega) (by omega)) (hz 339 (by omega) (by omega)) (by simp) (fun _ _ h => h) (by rw [F.2.1 319 (by decide)]) (by rw [F.2.1 319 (by decide)]), hz, ptA_frp hA F hz⟩
  rw [e1, h.2.2.2.2.2.2.1, q4]
  unfold cn at hcn ⊢
  rw [nI_sub (by omega)]
  congr 1
  omega
theorem soac {fu B e : Nat} {σ : rr_M} {Z : Nat → Option Int} {P : Pl} {y : Rat} (hfu : 400 < fu) (hP : pok P) (hd : 0 < dgg P) (h : pcx B σ Z P) (hA : ptA B σ Z y e) (hee : 600 + dgg (HL P 0) * (e + 1) ≤ 2700) :
    wq (f_Pla_signOfAll fu (nx B) (B + 319) σ) (fun r => r.1.toInt = es P 0 * sgq (vl (HL P 0) y) ∧ pfx B (fun _ => False) (fun _ => False) σ r.2 ∧ ∃ Z', pcx B r.2 Z' P ∧ (∀ t, t ≠ 284 → t ≠ 286 → Z' t = Z t) ∧ ptA B r.2 Z' y e) := by
  obtain ⟨a, b, hp⟩ := h.2.2.1
  obtain ⟨⟨sg, q1⟩, q2, q3, q4, q5, q6, q7⟩ := SM_seq hP hd
  refine wq_mo (soa_ok (M := MH P 0) hfu h.1 h.2.1 hp q1 q2 q5 h.2.2.2.2.2.1 hA (by rw [q6]; exact hee)) ?_
  rintro r ⟨e1, F, Z', a', b', hZ', hp', hz⟩
  refine ⟨?_, frp_pfx F, Z', pcx_mv hP hd h (frp_pfx (I := fun _ => False) (L := fun _ => False) F) hZ' ⟨a', b', hp'⟩ (fun t ht => hz t (by omega) (by omega)) (hz 339 (by omega) (by omega)) (by simp) (fun _ _ h => h) (by rw [F.2.1 319 (by decide)]) (by rw [F.2.1 319 (by decide)]), hz, ptA_frp hA F hz⟩
  rw [e1]
  unfold SM
  rw [vl_psc (HL_fin hP hd (dep_pos hP hd)), sgq_mul, sgq_int]
  rcases es_pm hP hd 0 with q | q <;> rw [q] <;> rfl
