/-! ===== the class: how many roots are not above the point ===== -/
theorem pl_1 {B : Nat} {σ : rr_M} (h : crf B σ) : mg_r σ (B + 319) 1 = B + 63 := h 319 1 (by omega)
theorem pl_2 {B : Nat} {σ : rr_M} (h : crf B σ) : mg_r σ (B + 319) 2 = B + 280 := h 319 2 (by omega)
theorem cc_sz {p q : Pl} {s' M k : Nat} (h : gdp p q s') (he : ends p q M) (hk : k < M) : (∀ t, szb 600 (cc p q k t)) ∧ dgg (mm p q k) ≤ dgg p ∧ pbd (dgg (mm p q k) + 1) (cc p q k) := by
  obtain ⟨l1, l2, l3⟩ := ends_sg h he hk
  refine ⟨fun t => cc_bit l1 ?_, ?_, psc_pbd l2.2⟩
  · have hm1 : mmn p q k := fun i hi => he.2.1 i (by omega)
    by_cases hk0 : k = 0
    · subst hk0; exact szb_mono (gdp_0 h t) (by have := h.2.2.2.2.2.2.2.2.2; omega)
    · exact szb_mono (mm_bit h (fun i hi => hm1 i (by omega)) (fun i hi h3 => he.2.2.1 i (by omega) h3) t) (by have := (bits_ok h (k := k) (by omega) hm1 (fun i hi h3 => he.2.2.1 i (by omega) h3)).2.2.2.1; omega)
  · by_cases hk0 : k = 0
    · subst hk0; exact Nat.le_refl _
    · have := ends_dec h.1 h.2.1 h.2.2.2.2.1 (k - 1) (fun i hi => he.2.1 i (by omega)) (fun i hi h3 => he.2.2.1 i (by omega) h3)
      rw [show k - 1 + 1 = k by omega] at this
      have := h.2.2.2.2.1
      omega
/-- the sign of member k at the point -/
theorem sgk_ok {fu B s' M k a b e : Nat} {σ : rr_M} {Z : Nat → Option Int} {p q : Pl} {y : Rat} (hfu : 400 < fu) (hc : crf B σ) (hZ : bgs B σ Z) (hP : prf B σ a b) (h : gdp p q s') (he : ends p q M) (hM : M ≤ 10) (hR : crs B (M - 1) σ Z p q) (hk : k < M) (hA : ptA B σ Z y e) (hee : 600 + dgg p * (e + 1) ≤ 2700) :
    wq (f_Poi_signAmong fu (nx B) (B + 280) (B + 64) (nI (9 * k)) (nI (dgg (mm p q k))) σ) (fun r => r.1.toInt = sgq (vl (cc p q k) y) ∧ frp B σ r.2 ∧ ∃ Z' a' b', bgs B r.2 Z' ∧ prf B r.2 a' b' ∧ (∀ t, t ≠ 284 → t ≠ 286 → Z' t = Z t)) := by
  obtain ⟨x, s, A1, A2, A3, A4, A5⟩ := hA
  obtain ⟨c1, c2, c3⟩ := cc_sz h he hk
  have h8 := dgg_lt (mm p q k)
  have hdd : dgg (mm p q k) * (e + 1) ≤ dgg p * (e + 1) := Nat.mul_le_mul_right _ c2
  obtain ⟨r1, _, _⟩ := hR k (by omega)
  refine wq_mo (sgm_ok (ar := 64) (frm_ := 9 * k) (d := dgg (mm p q k)) (s := s) (e := e) (f := cc p q k) (x := x) (ofs := nb k) hfu hZ hP (by omega) (by omega) (by omega) (by rw [nx_64]; omega) (by rw [nx_64]; omega) (fun j hj => ⟨sq_nb hc (by omega) (by omega), isB_nb (by omega) (by omega), by unfold nb; omega, by unfold nb; omega, r1 j (by omega)⟩) A2 A1 c1 A4 A3 (by omega)) ?_
  rintro r ⟨q1, q2, q3⟩
  refine ⟨?_, q2, q3⟩
  rw [q1, sgI_t, hv_sgn c3, A5]
theorem crs_frp {B k : Nat} {σ σ' : rr_M} {Z Z' : Nat → Option Int} {p q : Pl} (h : crs B k σ Z p q) (hk : k < 10) (hF : frp B σ σ') (hO : ∀ t, t ≠ 284 → t ≠ 286 → Z' t = Z t) : crs B k σ' Z' p q := fun i hi => by
  obtain ⟨a1, a2, a3⟩ := h i hi
  refine ⟨fun j hj => ?_, by rw [hF.2.1 65 isB_f65]; exact a2, by rw [hF.2.1 66 isB_f66]; exact a3⟩
  rw [hO _ (by unfold nb; omega) (by unfold nb; omega)]
  exact a1 j hj
theorem ptA_frp {B e : Nat} {σ σ' : rr_M} {Z Z' : Nat → Option Int} {y : Rat} (h : ptA B σ Z y e) (hF : frp B σ σ') (hO : ∀ t, t ≠ 284 → t ≠ 286 → Z' t = Z t) : ptA B σ' Z' y e := by
  obtain ⟨x, s, A1, A2, A3, A4, A5⟩ := h
  exact ⟨x, s, by rw [hO 281 (by omega) (by omega)]; exact A1, by rw [hF.2.1 280 (by decide)]; exact A2, A3, A4, A5⟩
theorem rup_l {fu B s' M e : Nat} {σ0 : rr_M} {Z0 : Nat → Option Int} {p q : Pl} {y : Rat} (hfu : 400 < fu) (hc0 : crf B σ0) (h : gdp p q s') (he : ends p q M) (hM : M ≤ 10) (h3 : mg_i σ0 (B + 63) 3 = nI M) (hR : crs B (M - 1) σ0 Z0 p q) (hA : ptA B σ0 Z0 y e) (hee : 600 + dgg p * (e + 1) ≤ 2700) {kk : Int32 → rr_M → Option (Int32 × rr_M)} {Q : Int32 × rr_M → Prop} {V : Nat} (hV : V ≤ 100)
    (hk : ∀ (σ : rr_M) (Z : Nat → Option Int) (a b : Nat), bgs B σ Z → frp B σ0 σ → prf B σ a b → (∀ t, t ≠ 284 → t ≠ 286 → Z t = Z0 t) → wq (kk (nI V) σ) Q) :
    ∀ (m fl k : Nat) (had : Int32) (c : Nat) (σ : rr_M) (Z : Nat → Option Int) (a b : Nat), m + k = M → m < fl → bgs B σ Z → frp B σ0 σ → prf B σ a b → (∀ t, t ≠ 284 → t ≠ 286 → Z t = Z0 t) → (had.toInt = 1 ∨ had.toInt = -1 ∨ had.toInt = 0) → c + scv had.toInt (if m = 0 then [] else srw (fun i => vl (cc p q i)) y k (m - 1)) = V →
      wq (l_Pla_rootsUpToPoint_6 fu (nx B) (B + 319) fl (nI c) had (nI k) σ kk) Q
  | 0, fl + 1, k, had, c, σ, Z, a, b, h1, h2, hZ, hF, hP, hO, hh, hcc => by
    have hc := crf_frp hc0 hF
    rw [l_Pla_rootsUpToPoint_6]
    dsimp only [rr_lt]
    rw [if_pos rfl] at hcc
    have : c = V := hcc
    rw [pl_1 hc, hF.2.1 63 isB_f63, h3, this]
    exact wq_ip (nI_le (by omega) (by omega)) (hk σ Z a b hZ hF hP hO)
  | m + 1, fl + 1, k, had, c, σ, Z, a, b, h1, h2, hZ, hF, hP, hO, hh, hcc => by
    have hc := crf_frp hc0 hF
    have c0 : ¬ nI M ≤ nI k := nI_ge (by omega) (by omega)
    have c1 : ¬ (10 : Int32) ≤ nI k := nI_ge (b := 10) (by omega) (by omega)
    have mk : rr_n (nI k) = k := n_nI (by omega)
    have ix : rr_ix (nI k) (nx B (B + 65)) = true := by rw [nx_65]; exact ix_nI (by omega) (by omega)
    have hR1 := crs_frp hR (show M - 1 < 10 by omega) hF hO
    obtain ⟨_, a2, _⟩ := hR1 k (by omega)
    rw [l_Pla_rootsUpToPoint_6]
    dsimp only [rr_lt, rr_jn]
    rw [pl_1 hc, hF.2.1 63 isB_f63, h3, if_neg c0, if_neg c1, pl_2 hc, sq_0 hc, sq_1 hc, mk, a2, nI_mul9]
    refine wq_ip ix (wq_bd (wq_mo (sgk_ok (k := k) hfu hc hZ hP h he hM hR1 (by omega) (ptA_frp hA hF hO) hee) ?_))
    rintro r ⟨r1, F1, Z1, a', b', L1, P1, O1⟩
    have hO2 : ∀ t, t ≠ 284 → t ≠ 286 → Z1 t = Z0 t := fun t t1 t2 => by rw [O1 t t1 t2]; exact hO t t1 t2
    have hF2 := frp_tr hF F1
    rw [if_neg (by omega), show m + 1 - 1 = m by omega] at hcc
    have hlist : srw (fun i => vl (cc p q i)) y k m = sgq (vl (cc p q k) y) :: (if m = 0 then [] else srw (fun i => vl (cc p q i)) y (k + 1) (m - 1)) := by
      match m with
      | 0 => rfl
      | m + 1 => rfl
    rw [hlist, ← r1] at hcc
    have hsg : r.1.toInt = 1 ∨ r.1.toInt = -1 ∨ r.1.toInt = 0 := by rw [r1]; rcases sgq_t (vl (cc p q k) y) with z | z | z <;> rw [z.1] <;> omega
    simp only [scv] at hcc
    rw [nI_1]
    by_cases hz : r.1.toInt = 0
    · have hz2 : r.1 = 0 := i_inj (by rw [hz]; rfl)
      rw [if_pos hz2]
      rw [if_pos hz] at hcc
      exact rup_l hfu hc0 h he hM h3 hR hA hee hV hk m fl (k + 1) had c r.2 Z1 a' b' (by omega) (by omega) L1 hF2 P1 hO2 hh hcc
    · have hz2 : ¬ r.1 = 0 := fun hx => hz (by rw [hx]; rfl)
      rw [if_neg hz2]
      rw [if_neg hz] at hcc
      have hneg : (-had).toInt = -had.toInt := Jvm.Kit.i32_neg (by omega)
      have hiff : r.1 = -had ↔ r.1.toInt = -had.toInt := ⟨fun hx => by rw [hx, hneg], fun hx => i_inj (by rw [hx, hneg])⟩
      by_cases hch : r.1.toInt = -had.toInt
      · rw [if_pos (hiff.mpr hch), nI_1]
        rw [if_pos hch] at hcc
        exact rup_l hfu hc0 h he hM h3 hR hA hee hV hk m fl (k + 1) r.1 (c + 1) r.2 Z1 a' b' (by omega) (by omega) L1 hF2 P1 hO2 hsg (by omega)
      · rw [if_neg (fun hx => hch (hiff.mp hx))]
        rw [if_neg hch, Nat.zero_add] at hcc
        exact rup_l hfu hc0 h he hM h3 hR hA hee hV hk m fl (k + 1) r.1 c r.2 Z1 a' b' (by omega) (by omega) L1 hF2 P1 hO2 hsg hcc
theorem rup_ok {fu B s' M e a b : Nat} {σ : rr_M} {Z : Nat → Option Int} {p q : Pl} {y : Rat} (hfu : 400 < fu) (hc : crf B σ) (hZ : bgs B σ Z) (hP : prf B σ a b) (h : gdp p q s') (he : ends p q M) (hM : M ≤ 10) (h3 : mg_i σ (B + 63) 3 = nI M) (hR : crs B (M - 1) σ Z p q) (hA : ptA B σ Z y e) (hee : 600 + dgg p * (e + 1) ≤ 2700) :
    wq (f_Pla_rootsUpToPoint fu (nx B) (B + 319) σ) (fun r => r.1 = mg_i σ (B + 319) 6 - nI (vcs (cc p q) (M - 1) y) ∧ frp B σ r.2 ∧ ∃ Z' a' b', bgs B r.2 Z' ∧ prf B r.2 a' b' ∧ (∀ t, t ≠ 284 → t ≠ 286 → Z' t = Z t)) := by
  have h2 := he.1
  have hv := vcs_le (cc p q) (M - 1) y
  unfold f_Pla_rootsUpToPoint
  refine rup_l (V := vcs (cc p q) (M - 1) y) hfu hc h he hM h3 hR hA hee (by omega) ?_ M fu 0 0 0 σ Z a b (by omega) (by omega) hZ (sbf_frp (sbf_rfl _ _)) hP (fun _ _ _ => rfl) (Or.inr (Or.inr rfl)) ?_
  · intro σ1 Z1 a1 b1 L1 F1 P1 O1
    refine wq_some ⟨?_, F1, Z1, a1, b1, L1, P1, O1⟩
    show mg_i σ1 (B + 319) 6 - _ = _
    rw [F1.2.1 319 (by decide)]
  · rw [if_neg (by omega), Nat.zero_add]
    rfl
theorem soa_ok {fu B s' M e a b : Nat} {σ : rr_M} {Z : Nat → Option Int} {p q : Pl} {y : Rat} (hfu : 400 < fu) (hc : crf B σ) (hZ : bgs B σ Z) (hP : prf B σ a b) (h : gdp p q s') (he : ends p q M) (hM : M ≤ 10) (hR : crs B (M - 1) σ Z p q) (hA : ptA B σ Z y e) (hee : 600 + dgg p * (e + 1) ≤ 2700) :
    wq (f_Pla_signOfAll fu (nx B) (B + 319) σ) (fun r => r.1.toInt = sgq (vl p y) ∧ frp B σ r.2 ∧ ∃ Z' a' b', bgs B r.2 Z' ∧ prf B r.2 a' b' ∧ (∀ t, t ≠ 284 → t ≠ 286 → Z' t = Z t)) := by
  have h2 := he.1
  have ix : rr_ix 0 (nx B (B + 65)) = true := by rw [nx_65]; decide
  have m0 : rr_n 0 = 0 := rfl
  obtain ⟨_, a2, _⟩ := hR 0 (by omega)
  unfold f_Pla_signOfAll
  dsimp only [rr_lt]
  rw [pl_2 hc, pl_1 hc, sq_0 hc, sq_1 hc, m0, a2]
  refine wq_ip ix (wq_bd (wq_mo (sgk_ok (k := 0) hfu hc hZ hP h he hM hR (by omega) hA hee) ?_))
  rintro r ⟨r1, r2, r3⟩
  rw [cc_0] at r1
  exact wq_some ⟨r1, r2, r3⟩
