/-! ===== the model counts by layers ===== -/
theorem lyd_frm {C l : Nat} {σ σ' : rr_M} {Y Y' : Nat → Int} {P : Pl} (hP : pok P) (h : lyd C l σ Y P) (hl : l ≤ DP P) (F : frm C σ σ') (L : LM C σ' Y') (hY : ∀ s, 20 ≤ s → s < 452 → Y' s = Y s) : lyd C l σ' Y' P := by
  refine ⟨L, by rw [F.2.2 C (by omega) (by omega) (by omega)]; exact h.2.1, fun i hi => ?_⟩
  obtain ⟨a1, a2, a3⟩ := h.2.2 i hi
  obtain ⟨hd, hdp⟩ := DP_d (show i < DP P by omega)
  have u := us_22 hP hd hdp
  have m := MH_le hP hd hdp
  exact ⟨by rw [F.2.2 _ (by omega) (by omega) (by omega)]; exact a1, by rw [F.2.2 _ (by omega) (by omega) (by omega)]; exact a2, mrs_eq a3 (F.2.2 _ (by omega) (by omega) (by omega)) (F.2.2 _ (by omega) (by omega) (by omega)) hY (by omega)⟩
theorem rrt_ok {fu C l : Nat} {σ : rr_M} {Y : Nat → Int} {P : Pl} (hfu : 70000 < fu) (hP : pok P) (h : lyd C (DP P) σ Y P) (hl : l < DP P) : f_Mod_realRoots fu (nm C) C (nI l) σ = some (nI (rn P l)) := by
  obtain ⟨hd, hdp⟩ := DP_d hl
  have u := us_22 hP hd hdp
  have m := MH_le hP hd hdp
  have h8 := DP_8 hP
  obtain ⟨L, V1, V2⟩ := h
  obtain ⟨a1, a2, a3⟩ := V2 l hl
  obtain ⟨v1, v2, ⟨s, v3⟩, v4, v5, v6, v7⟩ := HL_ok hP hd hdp
  have ml : rr_n (nI l) = l := n_nI (by omega)
  have ix9 : rr_ix (nI l) (nm C (C + 9)) = true := by rw [nm_9]; exact ix_nI (by omega) (by omega)
  have ix10 : rr_ix (nI l) (nm C (C + 10)) = true := by rw [nm_10]; exact ix_nI (by omega) (by omega)
  have c1 := chL_le (HL P l) (der (HL P l)) (MH P l - 1)
  have rg := cn_rg hP hd hdp 0
  suffices hh : wq (f_Mod_realRoots fu (nm C) C (nI l) σ) (fun v => v = nI (rn P l)) by
    obtain ⟨y, e1, e2⟩ := hh
    rw [e1, e2]
  unfold f_Mod_realRoots
  dsimp only [rr_lt]
  rw [mrf_9 L.1, mrf_10 L.1, ml, a1, a2]
  refine wq_ip ix9 (wq_ip ix10 (wq_ob (wq_mo (cho_ok (left := 1) (by omega) (Or.inr rfl) L v3 v4 (by omega) a3 (by omega)) ?_)))
  intro v hv
  refine wq_ip ix9 (wq_ip ix10 (wq_ob (wq_mo (cho_ok (left := 0) (by omega) (Or.inl rfl) L v3 v4 (by omega) a3 (by omega)) ?_)))
  intro w hw
  rw [hv, hw, if_pos rfl, if_neg (by decide)]
  have e : rl P l = (chL (HL P l) (der (HL P l)) (MH P l - 1) : Int) - chR (HL P l) (der (HL P l)) (MH P l - 1) := rfl
  rw [nI_sub (by omega)]
  refine wq_some ?_
  unfold rn
  congr 1
  omega
theorem smn_mono {f : Nat → Nat} (n : Nat) : ∀ m, n ≤ m → smn n f ≤ smn m f
  | 0, h => by rw [show n = 0 by omega]; exact Nat.le_refl _
  | m + 1, h => by
    by_cases hn : n = m + 1
    · rw [hn]; exact Nat.le_refl _
    · have := smn_mono (f := f) n m (by omega)
      show smn n f ≤ smn m f + f m
      omega
theorem rts_ok {fu C : Nat} {σ : rr_M} {Y : Nat → Int} {P : Pl} (hfu : 70000 < fu) (hP : pok P) (h : lyd C (DP P) σ Y P) : f_Mod_roots fu (nm C) C σ = some (nI (NR P)) := by
  have h8 := DP_8 hP
  have key : ∀ (fl k : Nat), k ≤ DP P → 10 - k ≤ fl → l_Mod_roots_4 fu (nm C) C σ fl (nI (smn k (rn P))) (nI k) (fun v => some v) = some (nI (NR P)) := by
    intro fl
    induction fl with
    | zero => intro k h1 h2; omega
    | succ fl ih =>
      intro k h1 h2
      rw [l_Mod_roots_4, h.2.1]
      by_cases hk : k = DP P
      · subst hk
        rw [if_pos (nI_le (Nat.le_refl _) (by omega))]
        rfl
      · rw [if_neg (nI_ge (by omega) (by omega)), rrt_ok hfu hP h (by omega)]
        dsimp only [Option.bind, rr_lt]
        rw [nI_add, nI_1]
        exact ih (k + 1) (by omega) (by omega)
  exact key fu 0 (by omega) (by omega)
theorem zz_cn {P : Pl} {l : Nat} (hP : pok P) (hd : 0 < dgg P) (h : l < dep P) (x : Rat) : 0 ≤ zz P l x ∧ zz P l x ≤ 1 ∧ zz P l x ≤ cn P l x := by
  have a := cn_lt hP hd h (show x - 1 < x by grind)
  have b := cn_rg hP hd h (x - 1)
  have c : zz P l x = 0 ∨ zz P l x = 1 := by
    unfold zz
    by_cases hz : sgq (vl (HL P l) x) = 0
    · rw [if_pos hz]; exact Or.inr rfl
    · rw [if_neg hz]; exact Or.inl rfl
  omega
theorem cnt_ok {fu C l s : Nat} {σ : rr_M} {Y : Nat → Int} {P : Pl} {x : Int} (hfu : 70000 < fu) (hP : pok P) (h : lyd C (DP P) σ Y P) (hl : l < DP P) (h15 : Y 15 = x) (sx : szb 320 x) (hs : s ≤ 320) :
    wq (f_Mod_countOf fu (nm C) C (nI l) (nI s) σ) (fun r => r.1 = nI (cn P l ((x : Rat) / (2 : Rat) ^ s)).toNat ∧ frm C σ r.2 ∧ ∃ Y', lyd C (DP P) r.2 Y' P ∧ (∀ t, t ≠ 16 → t ≠ 17 → t ≠ 18 → t ≠ 19 → Y' t = Y t)) := by
  obtain ⟨hd, hdp⟩ := DP_d hl
  have u := us_22 hP hd hdp
  have m := MH_le hP hd hdp
  have h8 := DP_8 hP
  have h' := h
  obtain ⟨L, V1, V2⟩ := h
  obtain ⟨a1, a2, a3⟩ := V2 l hl
  obtain ⟨v1, v2, ⟨sg, v3⟩, v4, v5, v6, v7⟩ := HL_ok hP hd hdp
  have dd := (dgg_der v1.1 v2).2.1
  have d8 := dgg_lt (HL P l)
  have ml : rr_n (nI l) = l := n_nI (by omega)
  have ix9 : rr_ix (nI l) (nm C (C + 9)) = true := by rw [nm_9]; exact ix_nI (by omega) (by omega)
  have ix10 : rr_ix (nI l) (nm C (C + 10)) = true := by rw [nm_10]; exact ix_nI (by omega) (by omega)
  have c1 := chL_le (HL P l) (der (HL P l)) (MH P l - 1)
  have rg := cn_rg hP hd hdp ((x : Rat) / (2 : Rat) ^ s)
  unfold f_Mod_countOf
  dsimp only [rr_lt]
  rw [mrf_9 L.1, mrf_10 L.1, ml, a1, a2]
  refine wq_ip ix9 (wq_ip ix10 (wq_ob (wq_mo (cho_ok (left := 1) (by omega) (Or.inr rfl) L v3 v4 (by omega) a3 (by omega)) ?_)))
  intro v hv
  refine wq_ip ix9 (wq_ip ix10 (wq_bd (wq_mo (chh_ok (e := 320) (x := x) hfu L v3 v4 (by omega) (by omega) h15 sx hs ⟨by omega, by omega⟩ (by omega) (by omega) a3) ?_)))
  rintro ⟨r, σ1⟩ ⟨e1, F1, Y1, L1, O1⟩
  dsimp only at e1 F1 L1 ⊢
  refine wq_some ⟨?_, F1, Y1, lyd_frm hP h' (Nat.le_refl _) F1 L1 (fun s a b => O1 s (by omega) (by omega) (by omega) (by omega)), O1⟩
  dsimp only
  have e : cn P l ((x : Rat) / (2 : Rat) ^ s) = (chL (HL P l) (der (HL P l)) (MH P l - 1) : Int) - vcs (cc (HL P l) (der (HL P l))) (MH P l - 1) ((x : Rat) / (2 : Rat) ^ s) := rfl
  rw [hv, if_neg (by decide), e1, nI_sub (by omega)]
  congr 1
  omega
noncomputable def TN (P : Pl) (x : Rat) : Nat := smn (DP P) (fun l => (cn P l x).toNat)
noncomputable def ZN (P : Pl) (x : Rat) : Nat := smn (DP P) (fun l => (zz P l x).toNat)
theorem cn_9 {P : Pl} {l : Nat} (hP : pok P) (h : l < DP P) (x : Rat) : (cn P l x).toNat ≤ 9 := by
  obtain ⟨hd, hdp⟩ := DP_d h
  have a := cn_rg hP hd hdp x
  have b := rn_le hP h
  unfold rn at b
  omega
theorem TN_le {P : Pl} (hP : pok P) (x : Rat) (k : Nat) (hk : k ≤ DP P) : smn k (fun l => (cn P l x).toNat) ≤ 72 := by
  have a := smn_le (f := fun l => (cn P l x).toNat) (c := 9) k (fun l hl => cn_9 hP (show l < DP P by omega) x)
  have := DP_8 hP
  omega
theorem upt_l {fu C s : Nat} {σ0 : rr_M} {Y0 : Nat → Int} {P : Pl} {x : Int} (hfu : 70000 < fu) (hP : pok P) (h15 : Y0 15 = x) (sx : szb 320 x) (hs : s ≤ 320) {Q : Int32 × rr_M → Prop} (hk : ∀ σ Y, lyd C (DP P) σ Y P → frm C σ0 σ → (∀ t, t ≠ 16 → t ≠ 17 → t ≠ 18 → t ≠ 19 → Y t = Y0 t) → Q (nI (TN P ((x : Rat) / (2 : Rat) ^ s)), σ)) :
    ∀ (fl k : Nat) (σ : rr_M) (Y : Nat → Int), k ≤ DP P → 10 - k ≤ fl → lyd C (DP P) σ Y P → frm C σ0 σ → (∀ t, t ≠ 16 → t ≠ 17 → t ≠ 18 → t ≠ 19 → Y t = Y0 t) → wq (l_Mod_upTo_13 fu (nm C) C (nI s) fl (nI (smn k (fun l => (cn P l ((x : Rat) / (2 : Rat) ^ s)).toNat))) (nI k) σ (fun a b => some (a, b))) Q
  | 0, k, σ, Y, h1, h2, _, _, _ => by
    have := DP_8 hP
    omega
  | fl + 1, k, σ, Y, h1, h2, hV, hF, hO => by
    have h8 := DP_8 hP
    rw [l_Mod_upTo_13, hV.2.1]
    by_cases hke : k = DP P
    · subst hke
      exact wq_ip (nI_le (Nat.le_refl _) (by omega)) (wq_some (hk σ Y hV hF hO))
    refine wq_in (nI_ge (by omega) (by omega)) (wq_bd (wq_mo (cnt_ok hfu hP hV (show k < DP P by omega) (by rw [hO 15 (by omega) (by omega) (by omega) (by omega)]; exact h15) sx hs) ?_))
    rintro ⟨r, σ1⟩ ⟨e1, F1, Y1, V1, O1⟩
    dsimp only [rr_lt] at e1 F1 V1 ⊢
    rw [e1, nI_add, nI_1]
    exact upt_l hfu hP h15 sx hs hk fl (k + 1) σ1 Y1 (by omega) (by omega) V1 (frm_tr hF F1) (fun t t1 t2 t3 t4 => by rw [O1 t t1 t2 t3 t4]; exact hO t t1 t2 t3 t4)
theorem upt_ok {fu C s : Nat} {σ : rr_M} {Y : Nat → Int} {P : Pl} {v : Int64} (hfu : 70000 < fu) (hP : pok P) (h : lyd C (DP P) σ Y P) (hv : -9223372036854775808 < v.toInt) (hs : s ≤ 320) :
    wq (f_Mod_upTo fu (nm C) C v (nI s) σ) (fun r => r.1 = nI (TN P ((v.toInt : Rat) / (2 : Rat) ^ s)) ∧ frm C σ r.2 ∧ ∃ Y', lyd C (DP P) r.2 Y' P ∧ Y' 15 = v.toInt ∧ (∀ t, t ≠ 15 → t ≠ 16 → t ≠ 17 → t ≠ 18 → t ≠ 19 → Y' t = Y t)) := by
  unfold f_Mod_upTo
  refine wq_bd (wq_mo (mo_sets (s := 15) hfu h.1 (by omega) hv) ?_)
  rintro ⟨u1, σ1⟩ ⟨L1, F1⟩
  dsimp only at L1 F1 ⊢
  have sx : szb 320 v.toInt := by
    have a := Int64.toInt_lt v
    have b := Int64.le_toInt v
    have e : (2 : Nat) ^ 63 ≤ 2 ^ 320 := Nat.pow_le_pow_right (by decide) (by decide)
    have e' : (2 : Nat) ^ 63 = 9223372036854775808 := by decide
    unfold szb
    omega
  have V1 := lyd_frm hP h (Nat.le_refl _) F1 L1 (fun s a b => yup_n (by omega))
  refine upt_l (σ0 := σ1) (Y0 := yup Y 15 v.toInt) hfu hP (yup_s _ _ _) sx hs (fun σ2 Y2 V2 F2 O2 => ⟨rfl, frm_tr F1 F2, Y2, V2, ?_, fun t t5 t1 t2 t3 t4 => ?_⟩) fu 0 σ1 _ (by omega) (by omega) V1 (frm_rfl _ _) (fun _ _ _ _ _ => rfl)
  · rw [O2 15 (by omega) (by omega) (by omega) (by omega), yup_s]
  · rw [O2 t t1 t2 t3 t4, yup_n t5]
theorem bel_l {fu C s : Nat} {σ0 : rr_M} {Y0 : Nat → Int} {P : Pl} {x : Int} (hfu : 70000 < fu) (hP : pok P) (h15 : Y0 15 = x) (sx : szb 320 x) (hs : s ≤ 320) {Q : Int32 × rr_M → Prop} (hk : ∀ σ Y, lyd C (DP P) σ Y P → frm C σ0 σ → (∀ t, t ≠ 16 → t ≠ 17 → t ≠ 18 → t ≠ 19 → Y t = Y0 t) → Q (nI (TN P ((x : Rat) / (2 : Rat) ^ s) - ZN P ((x : Rat) / (2 : Rat) ^ s)), σ)) :
    ∀ (fl k : Nat) (σ : rr_M) (Y : Nat → Int), k ≤ DP P → 10 - k ≤ fl → lyd C (DP P) σ Y P → frm C σ0 σ → (∀ t, t ≠ 16 → t ≠ 17 → t ≠ 18 → t ≠ 19 → Y t = Y0 t) → wq (l_Mod_below_11 fu (nm C) C (nI s) fl (nI (TN P ((x : Rat) / (2 : Rat) ^ s) - smn k (fun l => (zz P l ((x : Rat) / (2 : Rat) ^ s)).toNat))) (nI k) σ (fun a b => some (a, b))) Q
  | 0, k, σ, Y, h1, h2, _, _, _ => by
    have := DP_8 hP
    omega
  | fl + 1, k, σ, Y, h1, h2, hV, hF, hO => by
    have h8 := DP_8 hP
    rw [l_Mod_below_11, hV.2.1]
    by_cases hke : k = DP P
    · subst hke
      exact wq_ip (nI_le (Nat.le_refl _) (by omega)) (wq_some (hk σ Y hV hF hO))
    have hkd : k < DP P := by omega
    obtain ⟨hd, hdp⟩ := DP_d hkd
    have u := us_22 hP hd hdp
    have m := MH_le hP hd hdp
    obtain ⟨a1, a2, a3⟩ := hV.2.2 k hkd
    obtain ⟨b1, b2, b3⟩ := a3 0 (by omega)
    obtain ⟨v1, v2, ⟨sg, v3⟩, v4, v5, v6, v7⟩ := HL_ok hP hd hdp
    have d8 := dgg_lt (HL P k)
    have ml : rr_n (nI k) = k := n_nI (by omega)
    have ix9 : rr_ix (nI k) (nm C (C + 9)) = true := by rw [nm_9]; exact ix_nI (by omega) (by omega)
    dsimp only [rr_lt]
    rw [mrf_9 hV.1.1, ml, a1]
    refine wq_in (nI_ge (by omega) (by omega)) (wq_ip ix9 (wq_bd (wq_mo (sgb_ok (eF := 64) (row := us P k) (d := dgg (HL P k)) (f := HL P k) (x := x) (l := 1) (e := 320) hfu hV.1 (by omega) (by omega) b1 b2 b3 (Or.inl rfl) v6.2 (by rw [hO 15 (by omega) (by omega) (by omega) (by omega)]; exact h15) (fun t => szb_mono (gdp_0 v3 t) v3.2.2.2.2.2.2.2.2.2) sx hs (by omega) (by omega)) ?_)))
    rintro ⟨r, σ1⟩ ⟨e1, F1, Y1, L1, O1⟩
    dsimp only at e1 F1 L1 ⊢
    have V1 := lyd_frm hP hV (Nat.le_refl _) F1 L1 (fun s a b => O1 s (by omega) (by omega) (by omega) (by omega))
    have hz : r = 0 ↔ sgq (vl (HL P k) ((x : Rat) / (2 : Rat) ^ s)) = 0 := by
      rw [e1, sgI_0, Int.one_mul, ← hv_sgn (d := dgg (HL P k)) v6.2 x s]
      constructor
      · intro hh; rw [hh]; rfl
      · intro hh; exact Int.sign_eq_zero_iff_zero.mp hh
    have zle : smn (k + 1) (fun l => (zz P l ((x : Rat) / (2 : Rat) ^ s)).toNat) ≤ TN P ((x : Rat) / (2 : Rat) ^ s) := by
      have key : ∀ n, n ≤ DP P → smn n (fun l => (zz P l ((x : Rat) / (2 : Rat) ^ s)).toNat) ≤ smn n (fun l => (cn P l ((x : Rat) / (2 : Rat) ^ s)).toNat) := fun n => by
        induction n with
        | zero => intro _; exact Nat.le_refl _
        | succ n ih =>
          intro hn
          have a := ih (by omega)
          obtain ⟨hd', hdp'⟩ := DP_d (show n < DP P by omega)
          have b := zz_cn hP hd' hdp' ((x : Rat) / (2 : Rat) ^ s)
          show smn n _ + (zz P n _).toNat ≤ smn n _ + (cn P n _).toNat
          omega
      exact Nat.le_trans (key (k + 1) (by omega)) (smn_mono (k + 1) (DP P) (by omega))
    have tl := TN_le hP ((x : Rat) / (2 : Rat) ^ s) (DP P) (Nat.le_refl _)
    have es1 : smn (k + 1) (fun l => (zz P l ((x : Rat) / (2 : Rat) ^ s)).toNat) = smn k (fun l => (zz P l ((x : Rat) / (2 : Rat) ^ s)).toNat) + (zz P k ((x : Rat) / (2 : Rat) ^ s)).toNat := rfl
    refine wq_jj (fun t => t = nI (zz P k ((x : Rat) / (2 : Rat) ^ s)).toNat) ?_ ?_
    · intro k' hk'
      by_cases h0 : r = 0
      · refine wq_ip h0 (hk' _ ?_)
        unfold zz
        rw [if_pos (hz.mp h0)]
        rfl
      · refine wq_in h0 (hk' _ ?_)
        unfold zz
        rw [if_neg (fun hh => h0 (hz.mpr hh))]
        rfl
    · intro t ht
      rw [ht, nI_sub (by omega), nI_1, Nat.sub_sub, ← es1]
      exact bel_l hfu hP h15 sx hs hk fl (k + 1) σ1 Y1 (by omega) (by omega) V1 (frm_tr hF F1) (fun t t1 t2 t3 t4 => by rw [O1 t t1 t2 t3 t4]; exact hO t t1 t2 t3 t4)
theorem bel_ok {fu C s : Nat} {σ : rr_M} {Y : Nat → Int} {P : Pl} {v : Int64} (hfu : 70000 < fu) (hP : pok P) (h : lyd C (DP P) σ Y P) (hv : -9223372036854775808 < v.toInt) (hs : s ≤ 320) :
    wq (f_Mod_below fu (nm C) C v (nI s) σ) (fun r => r.1 = nI (TN P ((v.toInt : Rat) / (2 : Rat) ^ s) - ZN P ((v.toInt : Rat) / (2 : Rat) ^ s)) ∧ frm C σ r.2 ∧ ∃ Y', lyd C (DP P) r.2 Y' P) := by
  unfold f_Mod_below
  refine wq_bd (wq_mo (upt_ok hfu hP h hv hs) ?_)
  rintro ⟨r, σ1⟩ ⟨e1, F1, Y1, V1, O15, O1⟩
  dsimp only at e1 F1 V1 ⊢
  rw [e1]
  have sx : szb 320 v.toInt := by
    have a := Int64.toInt_lt v
    have b := Int64.le_toInt v
    have e : (2 : Nat) ^ 63 ≤ 2 ^ 320 := Nat.pow_le_pow_right (by decide) (by decide)
    have e' : (2 : Nat) ^ 63 = 9223372036854775808 := by decide
    unfold szb
    omega
  exact bel_l (σ0 := σ1) (Y0 := Y1) hfu hP O15 sx hs (fun σ2 Y2 V2 F2 O2 => ⟨rfl, frm_tr F1 F2, Y2, V2⟩) fu 0 σ1 Y1 (by omega) (by omega) V1 (frm_rfl _ _) (fun _ _ _ _ _ => rfl)
