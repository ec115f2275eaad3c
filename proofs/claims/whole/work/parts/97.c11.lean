/-! ===== brackets of the roots ===== -/
theorem wq_j2 {α γ β : Type} {k : α → γ → Option β} {b : (α → γ → Option β) → Option β} {Q : β → Prop} (R : α → γ → Prop) (h2 : ∀ k', (∀ x y, R x y → wq (k' x y) Q) → wq (b k') Q) (h1 : ∀ x y, R x y → wq (k x y) Q) : wq (rr_jn k b) Q := h2 k h1
theorem wq_j3 {α γ δ β : Type} {k : α → γ → δ → Option β} {b : (α → γ → δ → Option β) → Option β} {Q : β → Prop} (R : α → γ → δ → Prop) (h2 : ∀ k', (∀ x y z, R x y z → wq (k' x y z) Q) → wq (b k') Q) (h1 : ∀ x y z, R x y z → wq (k x y z) Q) : wq (rr_jn k b) Q := h2 k h1
noncomputable def cX (P : Pl) (X : Int) : Int := cn P 0 ((X : Rat) / (2 : Rat) ^ 12)
theorem gr_le {X Y : Int} (s : Nat) (h : X ≤ Y) : (X : Rat) / (2 : Rat) ^ s ≤ (Y : Rat) / (2 : Rat) ^ s := by
  have hp : (0 : Rat) < (2 : Rat) ^ s := Rat.pow_pos (by decide)
  have hi : (0 : Rat) ≤ ((2 : Rat) ^ s)⁻¹ := by
    have := Rat.inv_pos.mpr hp
    grind
  rw [Rat.div_def, Rat.div_def]
  exact Rat.mul_le_mul_of_nonneg_right (Rat.intCast_le_intCast.mpr h) hi
theorem gr_lt {X Y : Int} (s : Nat) (h : X < Y) : (X : Rat) / (2 : Rat) ^ s < (Y : Rat) / (2 : Rat) ^ s := by
  have hp : (0 : Rat) < (2 : Rat) ^ s := Rat.pow_pos (by decide)
  have hi : (0 : Rat) < ((2 : Rat) ^ s)⁻¹ := Rat.inv_pos.mpr hp
  rw [Rat.div_def, Rat.div_def]
  exact Rat.mul_lt_mul_of_pos_right (Rat.intCast_lt_intCast.mpr h) hi
theorem cX_mono {P : Pl} (hP : pok P) (hd : 0 < dgg P) {X Y : Int} (h : X ≤ Y) : cX P X ≤ cX P Y := cn_mono hP hd (dep_pos hP hd) (gr_le 12 h)
theorem cX_rg {P : Pl} (hP : pok P) (hd : 0 < dgg P) (X : Int) : 0 ≤ cX P X ∧ cX P X ≤ rl P 0 := cn_rg hP hd (dep_pos hP hd) _
theorem rl_0 {P : Pl} (hP : pok P) (hd : 0 < dgg P) : 0 ≤ rl P 0 ∧ rl P 0 ≤ 8 ∧ rl P 0 = (rn P 0 : Int) := by
  have a := cn_rg hP hd (dep_pos hP hd) 0
  have q7 := (SM_seq hP hd).2.2.2.2.2.2
  have b := dgg_lt (HL P 0)
  have c : rl P 0 ≤ 8 := by
    show (hL P 0 : Int) - hR P 0 ≤ 8
    omega
  refine ⟨by omega, c, ?_⟩
  unfold rn
  omega
theorem cX_r {P : Pl} (hP : pok P) (hd : 0 < dgg P) : cX P 549755813888 = rl P 0 := by
  refine cn_r hP hd (dep_pos hP hd) ?_
  have : ((549755813888 : Int) : Rat) / (2 : Rat) ^ 12 = 134217728 := by
    show (549755813888 : Rat) / (2 : Rat) ^ 12 = 134217728
    decide +kernel
  rw [this]
  decide +kernel
theorem cX_l {P : Pl} (hP : pok P) (hd : 0 < dgg P) : cX P (-549755813888) = 0 := by
  refine cn_l hP hd (dep_pos hP hd) ?_
  have : ((-549755813888 : Int) : Rat) / (2 : Rat) ^ 12 = -134217728 := by
    show (-549755813888 : Rat) / (2 : Rat) ^ 12 = -134217728
    decide +kernel
  rw [this]
  decide +kernel
theorem shl_tab : ∀ e, e < 27 → ((1 : Int64) <<< ((nI e + 12).toInt64 &&& 63)).toInt = 2 ^ (e + 12) ∧ (-((1 : Int64) <<< ((nI e + 12).toInt64 &&& 63))).toInt = -(2 ^ (e + 12)) := by decide +kernel
theorem szb_39 {z : Int} (h1 : -549755813888 ≤ z) (h2 : z ≤ 549755813888) : szb 39 z := by
  show z.natAbs ≤ 2 ^ 39
  have : (2 : Nat) ^ 39 = 549755813888 := by decide
  omega
theorem hee39 (P : Pl) : 600 + dgg (HL P 0) * (39 + 1) ≤ 2700 := by
  have := dgg_lt (HL P 0)
  omega
/-- a bound of all roots -/
def bnd (P : Pl) (v : Int64) : Prop := 0 < v.toInt ∧ v.toInt ≤ 549755813888 ∧ cX P v.toInt = rl P 0 ∧ cX P (-v.toInt) = 0
theorem sbr_l {fu B : Nat} {σ0 : rr_M} {P : Pl} (hfu : 400 < fu) (hP : pok P) (hd : 0 < dgg P) {kk : Int64 → rr_M → Option (Unit × rr_M)} {Q : Unit × rr_M → Prop} (hk : ∀ v σ Z, bnd P v → pcx B σ Z P → pfx B (fun o => o = 280) (fun _ => False) σ0 σ → wq (kk v σ) Q) :
    ∀ (fl e : Nat) (v : Int64) (σ : rr_M) (Z : Nat → Option Int), e ≤ 27 → 28 - e ≤ fl → bnd P v → pcx B σ Z P → pfx B (fun o => o = 280) (fun _ => False) σ0 σ → wq (l_Pla_startBrackets_6 fu (nx B) (B + 319) fl v (nI e) σ kk) Q
  | 0, e, v, σ, Z, h1, h2, _, _, _ => by omega
  | fl + 1, e, v, σ, Z, h1, h2, hv, hX, hF => by
    obtain ⟨p0, p1, p2, p3, p4, p7, p8, p9, p10, p11, p12, p13⟩ := rx_pla
    rw [l_Pla_startBrackets_6]
    by_cases he : e = 27
    · subst he
      exact wq_ip (by decide) (hk v σ Z hv hX hF)
    refine wq_in (show ¬ (27 : Int32) ≤ nI e from nI_ge (a := e) (b := 27) (by omega) (by omega)) ?_
    dsimp only [rr_lt]
    obtain ⟨w, hw⟩ : ∃ w, w = (1 : Int64) <<< ((nI e + 12).toInt64 &&& 63) := ⟨_, rfl⟩
    obtain ⟨t1, t2⟩ := shl_tab e (by omega)
    rw [← hw] at t1 t2
    rw [← hw, hX.1 319 2 (by omega), p2]
    have b1 : (2 : Int) ^ (e + 12) ≤ 274877906944 := by
      have := pw_mono (b := 2) (by decide) (show e + 12 ≤ 38 by omega)
      have e38 : (2 : Int) ^ 38 = 274877906944 := by decide
      omega
    have b0 : (0 : Int) < 2 ^ (e + 12) := Int.pow_pos (by decide)
    refine wq_bd (wq_mo (mvc (e := 39) hfu hP hd hX (by omega) (szb_39 (by omega) (by omega))) ?_)
    rintro ⟨u1, σ4⟩ ⟨F4, Z4, X4, O4, A4⟩
    dsimp only at F4 X4 A4 ⊢
    refine wq_j2 (fun v' σ' => bnd P v' ∧ (∃ Z', pcx B σ' Z' P) ∧ pfx B (fun o => o = 280) (fun _ => False) σ0 σ') ?_ ?_
    · intro k' hk'
      have G4 := pfx_tr hF F4
      by_cases hvw : v ≤ w
      · exact wq_ip hvw (hk' v σ4 ⟨hv, ⟨Z4, X4⟩, G4⟩)
      refine wq_in hvw (wq_bd (wq_mo (rupc hfu hP hd X4 A4 (hee39 P)) ?_))
      rintro ⟨r, σ11⟩ ⟨e11, F11, Z11, X11, O11, A11⟩
      dsimp only at e11 F11 X11 A11 ⊢
      have G11 := pfx_tr G4 (pfx_mo F11 (fun o h => h.elim) (fun o h => h))
      rw [X11.2.2.2.2.2.2.2.1]
      by_cases hr : r = nI (rn P 0)
      rotate_left
      · exact wq_in hr (hk' v σ11 ⟨hv, ⟨Z11, X11⟩, G11⟩)
      refine wq_ip hr ?_
      rw [X11.1 319 2 (by omega), p2]
      refine wq_bd (wq_mo (mvc (v := -w) (e := 39) hfu hP hd X11 (by omega) (szb_39 (by omega) (by omega))) ?_)
      rintro ⟨u2, σ15⟩ ⟨F15, Z15, X15, O15, A15⟩
      dsimp only at F15 X15 A15 ⊢
      refine wq_bd (wq_mo (rupc hfu hP hd X15 A15 (hee39 P)) ?_)
      rintro ⟨r2, σ18⟩ ⟨e18, F18, Z18, X18, O18, A18⟩
      dsimp only at e18 F18 X18 A18 ⊢
      have G18 := pfx_tr G11 (pfx_tr F15 (pfx_mo F18 (fun o h => h.elim) (fun o h => h)))
      by_cases hr2 : r2 = 0
      rotate_left
      · exact wq_in hr2 (hk' v σ18 ⟨hv, ⟨Z18, X18⟩, G18⟩)
      refine wq_ip hr2 (hk' w σ18 ⟨⟨by omega, by omega, ?_, ?_⟩, ⟨Z18, X18⟩, G18⟩)
      · have c := cX_rg hP hd w.toInt
        have d := rl_0 hP hd
        rw [e11, nI_eq (by unfold cX at c; omega) (by omega)] at hr
        unfold cX at c ⊢
        omega
      · have c := cX_rg hP hd (-w).toInt
        have d := rl_0 hP hd
        rw [e18, show (0 : Int32) = nI 0 from rfl, nI_eq (by unfold cX at c; omega) (by omega)] at hr2
        rw [show -w.toInt = (-w).toInt by omega]
        unfold cX at c ⊢
        omega
    · rintro v' σ' ⟨hv', ⟨Z', X'⟩, G'⟩
      rw [nI_1]
      exact sbr_l hfu hP hd hk fl (e + 1) v' σ' Z' (by omega) (by omega) hv' X' G'
/-- root i lies above low and not above high -/
def bk1 (B : Nat) (σ : rr_M) (P : Pl) (i : Nat) : Prop := (mg_l σ (B + 331) i).toInt < (mg_l σ (B + 332) i).toInt ∧ -549755813888 ≤ (mg_l σ (B + 331) i).toInt ∧ (mg_l σ (B + 332) i).toInt ≤ 549755813888 ∧ mg_i σ (B + 333) i = nI (cX P (mg_l σ (B + 331) i).toInt).toNat ∧ mg_i σ (B + 334) i = nI (cX P (mg_l σ (B + 332) i).toInt).toNat ∧ cX P (mg_l σ (B + 331) i).toInt ≤ i ∧ (i : Int) < cX P (mg_l σ (B + 332) i).toInt
def IK (o : Nat) : Prop := o = 333 ∨ o = 334
def LK (o : Nat) : Prop := o = 331 ∨ o = 332
theorem bk1_of {B : Nat} {σ σ' : rr_M} {P : Pl} {i : Nat} (h : bk1 B σ P i) (e1 : mg_l σ' (B + 331) i = mg_l σ (B + 331) i) (e2 : mg_l σ' (B + 332) i = mg_l σ (B + 332) i) (e3 : mg_i σ' (B + 333) i = mg_i σ (B + 333) i) (e4 : mg_i σ' (B + 334) i = mg_i σ (B + 334) i) : bk1 B σ' P i := by
  unfold bk1
  rw [e1, e2, e3, e4]
  exact h
theorem sbr_2 {fu B : Nat} {σ0 : rr_M} {Z : Nat → Option Int} {P : Pl} {v : Int64} (hP : pok P) (hd : 0 < dgg P) (hv : bnd P v) (hc0 : crf B σ0) (h5 : mg_i σ0 (B + 319) 5 = nI (rn P 0)) {kk : rr_M → Option (Unit × rr_M)} {Q : Unit × rr_M → Prop} (hk : ∀ σ, fra B IK LK σ0 σ → bgs B σ Z → (∀ i, i < rn P 0 → bk1 B σ P i) → wq (kk σ) Q) :
    ∀ (fl k : Nat) (σ : rr_M), k ≤ rn P 0 → 10 - k ≤ fl → fra B IK LK σ0 σ → bgs B σ Z → (∀ i, i < k → bk1 B σ P i) → wq (l_Pla_startBrackets_79 fu (nx B) (B + 319) v fl (nI k) σ kk) Q
  | 0, k, σ, h1, h2, _, _, _ => by
    have := rl_0 hP hd
    omega
  | fl + 1, k, σ, h1, h2, F, L, hS => by
    obtain ⟨d1, d2, d3⟩ := rl_0 hP hd
    obtain ⟨p0, p1, p2, p3, p4, p7, p8, p9, p10, p11, p12, p13⟩ := rx_pla
    obtain ⟨s1, s2, s3, s4, s5, s6, s7, s8⟩ := rx_sim
    have hc := crf_fra hc0 F
    have i5 : mg_i σ (B + 319) 5 = nI (rn P 0) := by rw [F.2.1 319 (by decide) (by unfold IK; omega)]; exact h5
    rw [l_Pla_startBrackets_79]
    rw [i5]
    by_cases hke : k = rn P 0
    · subst hke
      exact wq_ip (nI_le (Nat.le_refl _) (by omega)) (hk σ F L hS)
    refine wq_in (nI_ge (by omega) (by omega)) ?_
    dsimp only [rr_lt]
    have ml : rr_n (nI k) = k := n_nI (by omega)
    have ix : ∀ o, NX o = 8 → rr_ix (nI k) (nx B (B + o)) = true := fun o h => by rw [nx_at, h]; exact ix_nI (by omega) (by omega)
    rw [ml, hc 319 7 (by omega), p7]
    refine wq_ip (ix 331 s5) ?_
    rw [sl_r, hc 319 8 (by omega), p8]
    refine wq_ip (ix 332 s6) ?_
    rw [sl_r, sl_r, hc 319 9 (by omega), p9]
    refine wq_ip (ix 333 s7) ?_
    rw [si_r, sl_r, sl_r, hc 319 10 (by omega), p10, si_row (show B + 319 ≠ B + 333 by omega), sl_i, sl_i, i5]
    refine wq_ip (ix 334 s8) ?_
    rw [nI_1]
    obtain ⟨v1, v2, v3, v4⟩ := hv
    have hneg : (-v).toInt = -v.toInt := Jvm.Kit.i64_neg (by omega)
    refine sbr_2 hP hd ⟨v1, v2, v3, v4⟩ hc0 h5 hk fl (k + 1) _ (by omega) (by omega) ?_ ?_ ?_
    · exact fra_tr F (fra_tr (fra_ml (by unfold LK; omega)) (fra_tr (fra_ml (by unfold LK; omega)) (fra_tr (fra_mi (by unfold IK; omega)) (fra_mi (by unfold IK; omega)))))
    · exact bgs_ms (bgs_ms (bgs_msl (bgs_msl L (by decide)) (by decide)) (by decide)) (by decide)
    · intro i hi
      by_cases hik : i = k
      · subst hik
        unfold bk1
        rw [si_l, si_l, sl_n (by omega), sl_s, sl_s, si_n (by omega), si_s, si_s, hneg, v3, v4, d3]
        exact ⟨by omega, by omega, by omega, rfl, rfl, by omega, by omega⟩
      · refine bk1_of (hS i (by omega)) ?_ ?_ ?_ ?_
        · rw [si_l, si_l, sl_n (by omega), sl_n (by omega)]
        · rw [si_l, si_l, sl_n (by omega), sl_n (by omega)]
        · rw [si_n (by omega), si_n (by omega), sl_i, sl_i]
        · rw [si_n (by omega), si_n (by omega), sl_i, sl_i]
theorem sbr_ok {fu B : Nat} {σ : rr_M} {Z : Nat → Option Int} {P : Pl} (hfu : 400 < fu) (hP : pok P) (hd : 0 < dgg P) (h : pcx B σ Z P) :
    wq (f_Pla_startBrackets fu (nx B) (B + 319) σ) (fun r => pfx B (fun o => o = 280 ∨ IK o) LK σ r.2 ∧ (∃ Z', pcx B r.2 Z' P) ∧ ∀ i, i < rn P 0 → bk1 B r.2 P i) := by
  unfold f_Pla_startBrackets
  refine sbr_l (σ0 := σ) hfu hP hd (fun v σ1 Z1 hv X1 F1 => ?_) fu 0 549755813888 σ Z (by omega) (by omega) ⟨by decide, by decide, cX_r hP hd, cX_l hP hd⟩ h pfx_rf
  refine sbr_2 (σ0 := σ1) (Z := Z1) hP hd hv X1.1 X1.2.2.2.2.2.2.2.1 (fun σ2 F2 L2 hB => ?_) fu 0 σ1 (Nat.zero_le _) (by omega) fra_rf X1.2.1 (fun i hi => absurd hi (by omega))
  refine wq_some ⟨pfx_tr (pfx_mo F1 (fun o h => Or.inl h) (fun o h => h.elim)) (pfx_mo (fra_pfx F2) (fun o h => Or.inr h) (fun o h => h)), ⟨Z1, ?_⟩, hB⟩
  obtain ⟨a, b, hp⟩ := X1.2.2.1
  refine pcx_mv hP hd X1 (fra_pfx F2) L2 ⟨a, b, ?_⟩ (fun _ _ => rfl) rfl (by unfold IK; omega) (fun i hi => by unfold LK; omega) (by rw [F2.2.1 319 (by decide) (by unfold IK; omega)]) (by rw [F2.2.1 319 (by decide) (by unfold IK; omega)])
  unfold prf at hp ⊢
  rw [F2.1]
  exact hp
