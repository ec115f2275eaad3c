/-! ===== the class builds the levels ===== -/
theorem wq_jj {α β : Type} {k : α → Option β} {b : (α → Option β) → Option β} {Q : β → Prop} (R : α → Prop) (h2 : ∀ k', (∀ x, R x → wq (k' x) Q) → wq (b k') Q) (h1 : ∀ x, R x → wq (k x) Q) : wq (rr_jn k b) Q := h2 k h1
theorem rx_lvl : RX 306 0 = 307 ∧ RX 306 1 = 317 ∧ RX 306 3 = 63 ∧ RX 306 4 = 318 ∧ (∀ j, j < 9 → RX 307 j = 308 + j) ∧ (∀ j, j < 9 → NX (308 + j) = 9) ∧ NX 307 = 9 ∧ NX 317 = 9 ∧ NX 318 = 9 := by decide +kernel
theorem dg_le0 {n : Nat} (h : n ≤ 9) : (nI n - 1 ≤ 0) ↔ n ≤ 1 := by
  have : n = 0 ∨ n = 1 ∨ n = 2 ∨ n = 3 ∨ n = 4 ∨ n = 5 ∨ n = 6 ∨ n = 7 ∨ n = 8 ∨ n = 9 := by omega
  rcases this with q | q | q | q | q | q | q | q | q | q <;> subst q <;> decide
def IB (t o : Nat) : Prop := o = 63 ∨ o = 65 ∨ o = 66 ∨ o = 306 ∨ o = 317 ∨ o = 2 + 7 * t ∨ o = 4 + 7 * t ∨ o = 5 + 7 * t
def LB (o : Nat) : Prop := (308 ≤ o ∧ o ≤ 316) ∨ o = 318
/-- the tray's proof is kept -/
def kept (B t : Nat) (σ0 σ : rr_M) (P : Pl) : Prop := mg_i σ (B + (2 + 7 * t)) 6 = nI (ML P 0) ∧ (∀ j, j < ML P 0 → mg_i σ (B + (4 + 7 * t)) j = nI (dgg (mm P (der P) j)) ∧ mg_i σ (B + (5 + 7 * t)) j = sgI (cc P (der P) j (dgg (mm P (der P) j))))
def lvd (B t l : Nat) (σ0 σ : rr_M) (P : Pl) : Prop := fra B (IB t) LB σ0 σ ∧ mg_i σ (B + 306) 2 = nI l ∧ (∀ i, i ≤ l → ∀ j, j < 9 → (mg_l σ (B + (308 + i)) j).toInt = CM P i j) ∧ (∀ i, i < l → mg_i σ (B + 317) i = nI (rn P i)) ∧ (0 < l → kept B t σ0 σ P) ∧ (∀ k, (l = 0 ∨ k ≠ 6) → mg_i σ (B + (2 + 7 * t)) k = mg_i σ0 (B + (2 + 7 * t)) k)
theorem CM_dg {P : Pl} {l : Nat} (hP : pok P) (hd : 0 < dgg P) (h : l ≤ dep P) : pbd 9 (CM P l) ∧ (dln (CM P l) ≤ 1 ↔ l = dep P) := by
  obtain ⟨i1, i2, i3, i4⟩ := dep_ok hP (dg_dln hd)
  by_cases hl : l = dep P
  · have hp := dep_pos hP hd
    have e : CM P l = pcn 1 := by
      unfold CM
      rw [if_neg (by omega), if_pos (by rw [hl]; exact i2)]
    rw [e]
    refine ⟨fun k hk => by show (if k = 0 then (1 : Int) else 0) = 0; rw [if_neg (by omega)], fun _ => hl, fun _ => ?_⟩
    decide
  · obtain ⟨a, ha, e, e2, e3⟩ := cm_lv hP hd (show l < dep P by omega)
    refine ⟨(cm_sz hP hd (show l < dep P by omega)).1, fun hh => ?_, fun hh => absurd hh hl⟩
    have := i1 l (by omega)
    rw [← e2] at this
    unfold dgg at this
    omega
theorem ML_le {P : Pl} {l : Nat} (hP : pok P) (hd : 0 < dgg P) (h : l < dep P) : ML P l ≤ 10 ∧ 2 ≤ ML P l := by
  obtain ⟨_, ⟨s, h2⟩, h3, h4⟩ := (lvs_P hP hd).1 l h
  have := ends_le h2.1 h2.2.1 h2.2.2.2.2.1 h3
  have := dgg_lt (der (FF P l))
  exact ⟨by omega, h3.1⟩
theorem blo {fu B t : Nat} {σ0 : rr_M} {Z0 : Nat → Option Int} {P : Pl} (hfu : 400 < fu) (ht : t < 8) (hP : pok P) (hd : 0 < dgg P) (hc0 : crf B σ0) {kk : rr_M → Option (Unit × rr_M)} {Q : Unit × rr_M → Prop}
    (hk : ∀ σ Z, bgs B σ Z → (∀ s, 280 ≤ s → Z s = Z0 s) → lvd B t (dep P) σ0 σ P → wq (kk σ) Q) :
    ∀ (fl l : Nat) (σ : rr_M) (Z : Nat → Option Int), l ≤ dep P → 10 - l ≤ fl → bgs B σ Z → (∀ s, 280 ≤ s → Z s = Z0 s) → lvd B t l σ0 σ P → wq (l_Lev_build_19 fu (nx B) (B + 306) (B + (2 + 7 * t)) fl σ kk) Q
  | 0, l, σ, Z, h1, h2, _, _, _ => by
    have := (dep_ok hP (dg_dln hd)).2.2.1
    have := dgg_lt P
    omega
  | fl + 1, l, σ, Z, h1, h2, hZ, hO, hV => by
    obtain ⟨F1, V2, V3, V4, V5, V6⟩ := hV
    have hc := crf_fra hc0 F1
    obtain ⟨r0, r1, r3, r4, r7, n8, n7, n17, n18⟩ := rx_lvl
    have h8 := (dep_ok hP (dg_dln hd)).2.2.1
    have h88 := dgg_lt P
    obtain ⟨c9, cd⟩ := CM_dg hP hd h1
    have mrf : ∀ {σ' : rr_M} (j : Nat), crf B σ' → j < 9 → mg_r σ' (B + 307) j = B + (308 + j) := fun j hh hj => by rw [hh 307 j (by omega), r7 j hj]
    have m306 : ∀ {σ' : rr_M}, crf B σ' → mg_r σ' (B + 306) 0 = B + 307 ∧ mg_r σ' (B + 306) 1 = B + 317 ∧ mg_r σ' (B + 306) 3 = B + 63 ∧ mg_r σ' (B + 306) 4 = B + 318 := fun hh => ⟨by rw [hh 306 0 (by omega), r0], by rw [hh 306 1 (by omega), r1], by rw [hh 306 3 (by omega), r3], by rw [hh 306 4 (by omega), r4]⟩
    obtain ⟨m0, m1, m3, m4⟩ := m306 hc
    have ml : rr_n (nI l) = l := n_nI (by omega)
    have ix9 : rr_ix (nI l) (nx B (B + 307)) = true := by rw [nx_at, n7]; exact ix_nI (by omega) (by omega)
    have dg := num_deg (fu := fu) (o := 308 + l) (B := B) (σ := σ) hfu (by rw [nx_at]; exact n8 l (by omega)) (V3 l (Nat.le_refl _))
    rw [l_Lev_build_19]
    dsimp only [rr_lt]
    rw [V2, m0, ml, mrf l hc (by omega), dg]
    by_cases hl8 : l = 8
    · refine wq_ip (by rw [hl8]; decide) (hk σ Z hZ hO ?_)
      rw [show dep P = l by omega]
      exact ⟨F1, V2, V3, V4, V5, V6⟩
    refine wq_in (show ¬ (8 : Int32) ≤ nI l from nI_ge (a := l) (b := 8) (by omega) (by omega)) (wq_ip ix9 (wq_ob (wq_some ?_)))
    have d9 : dln (CM P l) ≤ 9 := lnn_le 9 _
    by_cases hle : l = dep P
    · refine wq_ip ((dg_le0 d9).mpr (cd.mpr hle)) (hk σ Z hZ hO ?_)
      rw [← hle]
      exact ⟨F1, V2, V3, V4, V5, V6⟩
    have hlt : l < dep P := by omega
    refine wq_in (fun hh => hle (cd.mp ((dg_le0 d9).mp hh))) (wq_ip ix9 ?_)
    obtain ⟨_, csz, s, cg, ce⟩ := cm_sz hP hd hlt
    rw [m4]
    refine wq_bd (wq_mo (sso_ok hfu (by rw [nx_at]; exact n18) (by rw [nx_at]; exact n8 l (by omega)) (by omega) c9 (V3 l (Nat.le_refl _)) csz) ?_)
    rintro w1 ⟨u, w2, hu⟩
    obtain ⟨w1a, σ1⟩ := w1
    subst w2
    dsimp only
    have hc1 : crf B (mw_l σ (B + 318) u) := hc
    obtain ⟨p0, p1, p3, p4⟩ := m306 hc1
    rw [p0, p3, p4, mw_i, V2, ml, mrf l hc1 (by omega)]
    refine wq_ip ix9 (wq_bd (wq_mo (run_ok (op := 308 + l) (oq := 318) hfu cg hc1 (bgs_mw hZ (isB_hi (by omega) (by omega) (by omega) (by omega))) (by rw [nx_at]; exact n8 l (by omega)) (by rw [nx_at]; exact n18) (isB_hi (by omega) (by omega) (by omega) (by omega)) (isB_hi (by omega) (by omega) (by omega) (by omega)) (fun j hj => by rw [mw_gn _ (by omega)]; exact V3 l (Nat.le_refl _) j hj) (fun j hj => by rw [mw_gsk]; exact hu j hj)) ?_))
    rintro w3 ⟨F3, Z3, M, L3, O3, E3, M3, N3, R3⟩
    have eM := ends_uniq E3 ce
    subst eM
    have hc3 := crf_frs hc1 F3
    have F13 : fra B (IB t) LB σ w3.2 := fra_tr (fra_mw (Or.inr rfl)) (frs_fra F3 (Or.inl rfl) (Or.inr (Or.inl rfl)) (Or.inr (Or.inr (Or.inl rfl))))
    have i306 : mg_i w3.2 (B + 306) = mg_i σ (B + 306) := F3.2.1 306 (by decide) (by omega) (by omega) (by omega)
    have iT : ∀ o, o < 62 → mg_i w3.2 (B + o) = mg_i σ (B + o) := fun o ho => F3.2.1 o (isB_lo (by omega)) (by omega) (by omega) (by omega)
    have i317 : mg_i w3.2 (B + 317) = mg_i σ (B + 317) := F3.2.1 317 (by decide) (by omega) (by omega) (by omega)
    have l308 : ∀ i, i ≤ 8 → mg_l w3.2 (B + (308 + i)) = mg_l σ (B + (308 + i)) := fun i hi => by
      rw [F3.2.2 _ (isB_hi (by omega) (by omega) (by omega) (by omega)), mw_gn _ (by omega)]
    refine wq_jj (fun σ22 => fra B (IB t) LB w3.2 σ22 ∧ mg_l σ22 = mg_l w3.2 ∧ mg_i σ22 (B + 63) = mg_i w3.2 (B + 63) ∧ mg_i σ22 (B + 65) = mg_i w3.2 (B + 65) ∧ mg_i σ22 (B + 66) = mg_i w3.2 (B + 66) ∧ mg_i σ22 (B + 306) = mg_i w3.2 (B + 306) ∧ mg_i σ22 (B + 317) = mg_i w3.2 (B + 317) ∧ kept B t σ0 σ22 P ∧ (∀ k, k ≠ 6 → mg_i σ22 (B + (2 + 7 * t)) k = mg_i w3.2 (B + (2 + 7 * t)) k) ∧ bgs B σ22 Z3) ?_ ?_
    · intro k' hk'
      rw [i306, V2]
      by_cases hl0 : l = 0
      · refine wq_ip (by rw [hl0]; rfl) (wq_bd (wq_mo (kpf_ok L3 hfu ht hc3 M3 N3) ?_))
        rintro w4 ⟨G1, GZ, G2, G3, G4, G5⟩
        refine hk' _ ⟨⟨G1.1, fun o a b => G1.2.1 o a (fun c => b (by unfold IB; omega)), fun o a _ => G1.2.2 o a (fun c => c)⟩, G2, G1.2.1 63 (by decide) (by omega), G1.2.1 65 (by decide) (by omega), G1.2.1 66 (by decide) (by omega), G1.2.1 306 (by decide) (by omega), G1.2.1 317 (by decide) (by omega), ⟨by rw [G3, hl0], fun j hj => ?_⟩, G4, ?_⟩
        · obtain ⟨x1, x2⟩ := G5 j (by rw [hl0]; exact hj)
          obtain ⟨y1, y2, y3⟩ := R3 j (by rw [hl0]; omega)
          have eC : CM P l = P := by rw [hl0]; exact if_pos rfl
          rw [eC] at y2 y3
          exact ⟨by rw [x1, y2], by rw [x2, y3]⟩
        · exact GZ
      · have hne : ¬ nI l = 0 := nI_ne0 (by omega) (by omega)
        rw [if_neg hne]
        refine hk' _ ⟨fra_rf, rfl, rfl, rfl, rfl, rfl, rfl, ?_, fun _ _ => rfl, L3⟩
        obtain ⟨x1, x2⟩ := V5 (by omega)
        refine ⟨by rw [iT _ (by omega)]; exact x1, fun j hj => ?_⟩
        rw [iT _ (by omega), iT _ (by omega)]
        exact x2 j hj
    · rintro σ22 ⟨G1, G2, G63, G65, G66, G306, G317, G5, G6, G7⟩
      have hc4 := crf_fra hc3 G1
      obtain ⟨s0, s1, s3, s4⟩ := m306 hc4
      have N4 : mg_i σ22 (B + 63) 3 = nI (ML P l) := by rw [G63]; exact N3
      have R4 : crs B (ML P l - 1) σ22 Z3 (CM P l) (der (CM P l)) := fun i hi => by
        obtain ⟨y1, y2, y3⟩ := R3 i hi
        exact ⟨y1, by rw [G65]; exact y2, by rw [G66]; exact y3⟩
      rw [s1, s3]
      refine wq_ob (wq_mo (cjp_ok hfu cg ce M3 hc4 N4 R4) ?_)
      intro v hv
      rw [cm_jmp hP hd hlt] at hv
      subst hv
      have v306 : mg_i σ22 (B + 306) 2 = nI l := by rw [G306, i306]; exact V2
      have ix17 : rr_ix (nI l) (nx B (B + 317)) = true := by rw [nx_at, n17]; exact ix_nI (by omega) (by omega)
      rw [v306, ml]
      refine wq_ip ix17 ?_
      obtain ⟨σ27, h27⟩ : ∃ σ27, σ27 = ms_i σ22 (B + 317) l (nI (rn P l)) := ⟨_, rfl⟩
      rw [← h27]
      have i27 : mg_i σ27 (B + 306) 2 = nI l := by rw [h27, si_row (by omega)]; exact v306
      rw [i27, nI_1]
      obtain ⟨σ28, h28⟩ : ∃ σ28, σ28 = ms_i σ27 (B + 306) 2 (nI (l + 1)) := ⟨_, rfl⟩
      rw [← h28]
      have F28 : fra B (IB t) LB σ22 σ28 := by
        rw [h28, h27]
        exact fra_tr (fra_mi (by unfold IB; omega)) (fra_mi (by unfold IB; omega))
      have hc5 := crf_fra hc4 F28
      obtain ⟨q0, q1, q3, q4⟩ := m306 hc5
      have i28 : mg_i σ28 (B + 306) 2 = nI (l + 1) := by rw [h28, si_s]
      have ml1 : rr_n (nI (l + 1)) = l + 1 := n_nI (by omega)
      have ix91 : rr_ix (nI (l + 1)) (nx B (B + 307)) = true := by rw [nx_at, n7]; exact ix_nI (by omega) (by omega)
      rw [q3, q0, i28, ml1, mrf (l + 1) hc5 (by omega)]
      have i28n : ∀ o, o ≠ 306 → o ≠ 317 → mg_i σ28 (B + o) = mg_i σ22 (B + o) := fun o a b => by rw [h28, h27, si_row (by omega), si_row (by omega)]
      have l28 : mg_l σ28 = mg_l σ22 := by rw [h28, h27]; rfl
      have Z28 : bgs B σ28 Z3 := by rw [h28, h27]; exact bgs_ms (bgs_ms G7 (by decide)) (by decide)
      refine wq_ip ix91 (wq_bd (wq_mo (cdv_lv (o := 308 + (l + 1)) hfu hP hd hlt hc5 Z28 (isB_hi (by omega) (by omega) (by omega) (by omega)) (by rw [nx_at]; exact n8 (l + 1) (by omega)) M3 (by rw [i28n 63 (by omega) (by omega)]; exact N4) (fun i hi => by
        obtain ⟨y1, y2, y3⟩ := R4 i hi
        exact ⟨y1, by rw [i28n 65 (by omega) (by omega)]; exact y2, by rw [i28n 66 (by omega) (by omega)]; exact y3⟩)) ?_))
      rintro w6 ⟨F6, N6, Z6, L6, O6⟩
      have i6 : ∀ o, isB o = false → mg_i w6.2 (B + o) = mg_i σ28 (B + o) := fun o ho => F6.2.1 o ho
      have i6n : ∀ o, isB o = false → o ≠ 306 → o ≠ 317 → mg_i w6.2 (B + o) = mg_i σ22 (B + o) := fun o ho a b => by rw [i6 o ho, i28n o a b]
      refine blo hfu ht hP hd hc0 hk fl (l + 1) w6.2 Z6 (by omega) (by omega) L6 (fun s hs => by rw [O6 s (by omega) (by omega) (by omega), O3 s hs]; exact hO s hs) ⟨fra_tr F1 (fra_tr F13 (fra_tr G1 (fra_tr F28 (fro_fra F6 (by unfold LB; omega))))), ?_, ?_, ?_, ?_, ?_⟩
      · rw [i6 306 (by decide)]; exact i28
      · intro i hi j hj
        by_cases hil : i = l + 1
        · subst hil; exact N6 j hj
        · rw [F6.2.2 (308 + i) (isB_hi (by omega) (by omega) (by omega) (by omega)) (by omega), l28, G2, l308 i (by omega)]
          exact V3 i (by omega) j hj
      · intro i hi
        rw [i6 317 (by decide), h28, si_row (by omega), h27]
        by_cases hil : i = l
        · subst hil; rw [si_s]
        · rw [si_n (Or.inr hil), G317, i317]; exact V4 i (by omega)
      · intro _
        refine ⟨by rw [i6n _ (isB_lo (by omega)) (by omega) (by omega)]; exact G5.1, fun j hj => ?_⟩
        rw [i6n _ (isB_lo (by omega)) (by omega) (by omega), i6n _ (isB_lo (by omega)) (by omega) (by omega)]
        exact G5.2 j hj
      · intro k hk6
        have hk6 : k ≠ 6 := by omega
        rw [i6n _ (isB_lo (by omega)) (by omega) (by omega), G6 k hk6, iT _ (by omega)]
        exact V6 k (Or.inr hk6)
