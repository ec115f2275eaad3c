/-! ===== the class: moving the point, signs of rows in longs ===== -/
theorem mn_nI {x y : Nat} (hx : x < 2147483648) (hy : y < 2147483648) : rr_mn (nI x) (nI y) = nI (min x y) := by
  unfold rr_mn
  by_cases h : y < x
  · rw [if_pos (nI_lt h hx), Nat.min_eq_right (by omega)]
  · rw [if_neg (nI_nlt (by omega) hy), Nat.min_eq_left (by omega)]
theorem rpw_add (a : Rat) (m : Nat) : ∀ n, a ^ (m + n) = a ^ m * a ^ n
  | 0 => by rw [Nat.add_zero, Rat.pow_zero, Rat.mul_one]
  | n + 1 => by rw [← Nat.add_assoc, Rat.pow_succ, rpw_add a m n, Rat.pow_succ, Rat.mul_assoc]
theorem rat_sh {X x : Int} {z F : Nat} (hz : z ≤ F) (h : X = 2 ^ z * x) : (x : Rat) / (2 : Rat) ^ (F - z) = (X : Rat) / (2 : Rat) ^ F := by
  have hp : ∀ n : Nat, (2 : Rat) ^ n ≠ 0 := fun n => by have : (0 : Rat) < (2 : Rat) ^ n := Rat.pow_pos (by decide); grind
  have e : (2 : Rat) ^ F = (2 : Rat) ^ z * (2 : Rat) ^ (F - z) := by rw [← rpw_add]; congr 1; omega
  have hX : (X : Rat) = (2 : Rat) ^ z * (x : Rat) := by rw [h, Rat.intCast_mul, Rat.intCast_pow]; rfl
  rw [e, hX]
  have h1 := hp z
  have h2 := hp (F - z)
  rw [Rat.div_def, Rat.div_def, Rat.inv_mul_rev]
  have h3 : (2 : Rat) ^ z * ((2 : Rat) ^ z)⁻¹ = 1 := Rat.mul_inv_cancel _ h1
  generalize ((2 : Rat) ^ (F - z))⁻¹ = u at *
  generalize ((2 : Rat) ^ z)⁻¹ = v at *
  generalize (2 : Rat) ^ z = w at *
  grind
/-- the point is at X / 2^F -/
def ptA (B : Nat) (σ : rr_M) (Z : Nat → Option Int) (y : Rat) (e : Nat) : Prop := ∃ (x : Int) (s : Nat), Z 281 = some x ∧ mg_i σ (B + 280) 1 = nI s ∧ s ≤ e ∧ szb e x ∧ (x : Rat) / (2 : Rat) ^ s = y
/-- as frp, but the point's fineness may have changed -/
def fr2 (B : Nat) (σ σ' : rr_M) : Prop := (∀ o k, o ≠ 280 → mg_r σ' (B + o) k = mg_r σ (B + o) k) ∧ (∀ o, isB o = false → o ≠ 280 → mg_i σ' (B + o) = mg_i σ (B + o)) ∧ (∀ o, isB (o - 1) = false → mg_l σ' (B + o) = mg_l σ (B + o))
theorem frp_fr2 {B : Nat} {σ σ' : rr_M} (h : frp B σ σ') : fr2 B σ σ' := ⟨h.1, fun o h1 _ => h.2.1 o h1, h.2.2⟩
theorem fr2_tr {B : Nat} {σ σ' σ'' : rr_M} (h1 : fr2 B σ σ') (h2 : fr2 B σ' σ'') : fr2 B σ σ'' := ⟨fun o k ho => (h2.1 o k ho).trans (h1.1 o k ho), fun o a b => (h2.2.1 o a b).trans (h1.2.1 o a b), fun o ho => (h2.2.2 o ho).trans (h1.2.2 o ho)⟩
theorem fr2_rfl (B : Nat) (σ : rr_M) : fr2 B σ σ := ⟨fun _ _ _ => rfl, fun _ _ _ => rfl, fun _ _ => rfl⟩
theorem crf_fr2 {B : Nat} {σ σ' : rr_M} (h : crf B σ) (hf : fr2 B σ σ') : crf B σ' := fun o k ho => by rw [hf.1 o k ho]; exact h o k ho
theorem szb_dvp {e z : Nat} {X x : Int} (h : X = 2 ^ z * x) (hX : szb e X) : szb e x := szb_dv (x := 2 ^ z) (by rw [← h]; exact hX) (by have := p2_pos z; omega)
theorem pts_ok {fu B F a b e : Nat} {σ : rr_M} {Z : Nat → Option Int} {X : Int} (hfu : 400 < fu) (hZ : bgs B σ Z) (hP : prf B σ a b) (hX : Z 281 = some X) (hF : F ≤ 1000) (hFe : F ≤ e) (sX : szb e X) :
    wq (f_Poi_shorten fu (nx B) (B + 280) (nI F) σ) (fun r => fr2 B σ r.2 ∧ prf B r.2 a b ∧ ∃ Z', bgs B r.2 Z' ∧ (∀ t, t ≠ 281 → Z' t = Z t) ∧ ptA B r.2 Z' ((X : Rat) / (2 : Rat) ^ F) e) := by
  unfold f_Poi_shorten
  dsimp only [rr_lt, rr_jn]
  rw [hP.1, bo_sgn hZ (by decide) hX]
  refine wq_ob (wq_some ?_)
  -- what follows for so many zeros
  have fin : ∀ (z : Nat) (x : Int), z ≤ F → X = 2 ^ z * x → wq (rr_bd (f_Big_shiftDown fu (nx B) (B + 281) (nI z) σ) fun _ σ_6 => some ((), ms_i σ_6 (B + 280) 1 (nI F - nI z))) (fun r => fr2 B σ r.2 ∧ prf B r.2 a b ∧ ∃ Z', bgs B r.2 Z' ∧ (∀ t, t ≠ 281 → Z' t = Z t) ∧ ptA B r.2 Z' ((X : Rat) / (2 : Rat) ^ F) e) := by
    intro z x hz hx
    refine wq_bd (wq_mo (bo_shd (x := 281) (s := z) (v := x) hfu hZ (by decide) (by rw [hX, hx]) (by omega)) ?_)
    rintro r ⟨L, F1⟩
    rw [nI_sub hz]
    refine wq_some ⟨⟨fun o k _ => ?_, fun o h1 h2 => ?_, fun o h1 => F1.2.2 o h1⟩, ?_, zup Z 281 x, bgs_ms L (by decide), fun t ht => zup_n ht, x, F - z, zup_s _ _ _, si_s _ _ _ _, by omega, szb_dvp hx sX, rat_sh hz hx⟩
    · show mg_r r.2 (B + o) k = _
      rw [F1.1]
    · show mg_i (ms_i r.2 (B + 280) 1 _) (B + o) = _
      rw [si_row (by omega)]; exact F1.2.1 o h1
    · have := prf_sbf hP F1
      exact this
  by_cases h0 : X = 0
  · rw [if_pos (by rw [h0]; rfl)]
    exact fin F 0 (Nat.le_refl _) (by rw [h0, Int.mul_zero])
  · rw [if_neg (fun hh => h0 (sgI_0.mp hh))]
    refine wq_ob (wq_mo (bo_ntz (x := 281) hfu hZ (by decide) hX) ?_)
    rintro y ⟨s, s1, rfl, _, s3⟩
    obtain ⟨w, hw⟩ := s3 h0
    rw [mn_nI (by omega) (by omega)]
    refine fin (min s F) (2 ^ (s - min s F) * (2 * w + 1)) (by omega) ?_
    rw [← Int.mul_assoc, ← Int.pow_add, show min s F + (s - min s F) = s by omega]
    exact hw
theorem ptm_ok {fu B F a b e : Nat} {σ : rr_M} {Z : Nat → Option Int} {v : Int64} (hfu : 400 < fu) (hZ : bgs B σ Z) (hP : prf B σ a b) (hF : F ≤ 1000) (hFe : F ≤ e) (sX : szb e v.toInt) :
    wq (f_Poi_move fu (nx B) (B + 280) v (nI F) σ) (fun r => fr2 B σ r.2 ∧ prf B r.2 a b ∧ ∃ Z', bgs B r.2 Z' ∧ (∀ t, t ≠ 281 → Z' t = Z t) ∧ ptA B r.2 Z' ((v.toInt : Rat) / (2 : Rat) ^ F) e) := by
  unfold f_Poi_move
  dsimp only [rr_lt]
  rw [hP.1]
  refine wq_bd (wq_mo (bo_set (x := 281) hfu hZ (by decide) v) ?_)
  rintro r1 ⟨L1, F1⟩
  refine wq_bd (wq_mo (pts_ok hfu L1 (prf_sbf hP F1) (zup_s _ _ _) hF hFe sX) ?_)
  rintro r2 ⟨F2, P2, Z2, L2, O2, A2⟩
  exact wq_some ⟨fr2_tr (frp_fr2 (sbf_frp F1)) F2, P2, Z2, L2, fun t ht => by rw [O2 t ht, zup_n ht], A2⟩
theorem ptt_ok {fu B F a b e o : Nat} {σ : rr_M} {Z : Nat → Option Int} {X : Int} (hfu : 400 < fu) (hZ : bgs B σ Z) (hP : prf B σ a b) (ho : isB o = true) (hX : Z o = some X) (hF : F ≤ 1000) (hFe : F ≤ e) (sX : szb e X) (he : e < 600) :
    wq (f_Poi_moveTo fu (nx B) (B + 280) (B + o) (nI F) σ) (fun r => fr2 B σ r.2 ∧ prf B r.2 a b ∧ ∃ Z', bgs B r.2 Z' ∧ (∀ t, t ≠ 281 → Z' t = Z t) ∧ ptA B r.2 Z' ((X : Rat) / (2 : Rat) ^ F) e) := by
  unfold f_Poi_moveTo
  dsimp only [rr_lt]
  rw [hP.1]
  refine wq_bd (wq_mo (bo_copyb (x := 281) (e := e) hZ (by decide) ho hX sX (by rw [show roomB 281 = 20 by decide]; omega)) ?_)
  rintro r1 ⟨L1, F1⟩
  refine wq_bd (wq_mo (pts_ok hfu L1 (prf_sbf hP F1) (zup_s _ _ _) hF hFe sX) ?_)
  rintro r2 ⟨F2, P2, Z2, L2, O2, A2⟩
  exact wq_some ⟨fr2_tr (frp_fr2 (sbf_frp F1)) F2, P2, Z2, L2, fun t ht => by rw [O2 t ht, zup_n ht], A2⟩
theorem rx_load : ∀ i, i < 9 → RX 283 i = 288 + 2 * i := by decide +kernel
theorem nx_283 (B : Nat) : nx B (B + 283) = 9 := nx_at B 283
def ld (j : Nat) : Nat := 288 + 2 * j
theorem isB_ld {j : Nat} (hj : j < 9) : isB (ld j) = true := by
  unfold ld
  simp only [isB, Bool.or_eq_true, Bool.and_eq_true, decide_eq_true_eq]
  omega
theorem sof_l {fu B o d a b : Nat} {σ0 : rr_M} {Z0 : Nat → Option Int} {f : Pl} (hfu : 400 < fu) (hc0 : crf B σ0) (hP0 : prf B σ0 a b) (hd : d < 9) (hn : nx B (B + o) = 9) (ho : isB (o - 1) = false) (hf : ∀ j, j < 9 → (mg_l σ0 (B + o) j).toInt = f j) {kk : rr_M → Option (Int32 × rr_M)} {Q : Int32 × rr_M → Prop}
    (hk : ∀ (σ : rr_M) (Z : Nat → Option Int), bgs B σ Z → sbf B σ0 σ → (∀ s, (∀ j, j < 9 → s ≠ ld j) → Z s = Z0 s) → (∀ j, j ≤ d → Z (ld j) = some (f j)) → wq (kk σ) Q) :
    ∀ (fl i : Nat) (σ : rr_M) (Z : Nat → Option Int), i ≤ d + 1 → d + 2 - i ≤ fl → bgs B σ Z → sbf B σ0 σ → (∀ s, (∀ j, j < 9 → s ≠ ld j) → Z s = Z0 s) → (∀ j, j < i → Z (ld j) = some (f j)) →
      wq (l_Poi_signOf_12 fu (nx B) (B + 280) (B + o) (nI d) fl (nI i) σ kk) Q
  | 0, i, σ, Z, h1, h2, _, _, _, _ => by omega
  | fl + 1, i, σ, Z, h1, h2, hZ, hF, hO, hN => by
    have hc := crf_sbf hc0 hF
    have hP := prf_sbf hP0 hF
    rw [l_Poi_signOf_12]
    by_cases hit : i = d + 1
    · subst hit
      exact wq_ip (nI_lt (by omega) (by omega)) (hk σ Z hZ hF hO (fun j hj => hN j (by omega)))
    · have c0 : ¬ nI d < nI i := nI_nlt (by omega) (by omega)
      have mi : rr_n (nI i) = i := n_nI (by omega)
      have ixo : rr_ix (nI i) (nx B (B + o)) = true := by rw [hn]; exact ix_nI (by omega) (by omega)
      have ixl : rr_ix (nI i) (nx B (B + 283)) = true := by rw [nx_283]; exact ix_nI (by omega) (by omega)
      have hld : mg_r σ (B + 283) i = B + ld i := by rw [hc 283 i (by omega), rx_load i (by omega)]; rfl
      dsimp only [rr_lt]
      rw [if_neg c0, hP.2.1, mi, hld, hF.2.2 o ho]
      refine wq_ip ixl (wq_ip ixo (wq_bd (wq_mo (bo_set hfu hZ (isB_ld (show i < 9 by omega)) (mg_l σ0 (B + o) i)) ?_)))
      rintro r1 ⟨L1, F1⟩
      rw [hf i (by omega)] at L1
      rw [nI_1]
      refine sof_l hfu hc0 hP0 hd hn ho hf hk fl (i + 1) r1.2 _ (by omega) (by omega) L1 (sbf_tr hF F1) ?_ ?_
      · intro s hs
        rw [zup_n (hs i (by omega))]
        exact hO s hs
      · intro j hj
        by_cases hji : j = i
        · subst hji; rw [zup_s]
        · rw [zup_n (by unfold ld; omega)]; exact hN j (by omega)
theorem sof_ok {fu B o a b e : Nat} {σ : rr_M} {Z : Nat → Option Int} {f : Pl} {y : Rat} (hfu : 400 < fu) (hc : crf B σ) (hZ : bgs B σ Z) (hP : prf B σ a b) (hn : nx B (B + o) = 9) (ho : isB (o - 1) = false) (hf : ∀ j, j < 9 → (mg_l σ (B + o) j).toInt = f j) (hf9 : pbd 9 f) (hA : ptA B σ Z y e) (sf : ∀ t, szb 600 (f t)) (hee : 600 + dgg f * (e + 1) ≤ 2700) :
    wq (f_Poi_signOf fu (nx B) (B + 280) (B + o) σ) (fun r => r.1.toInt = sgq (vl f y) ∧ frp B σ r.2 ∧ ∃ Z' a' b', bgs B r.2 Z' ∧ prf B r.2 a' b' ∧ (∀ t, t ≠ 284 → t ≠ 286 → (∀ j, j < 9 → t ≠ ld j) → Z' t = Z t)) := by
  obtain ⟨x, s, A1, A2, A3, A4, A5⟩ := hA
  have h9 : dln f ≤ 9 := lnn_le 9 f
  unfold f_Poi_signOf
  rw [num_deg hfu hn hf]
  refine wq_ob (wq_some ?_)
  dsimp only [rr_lt]
  by_cases hz : dln f = 0
  · have e0 : rr_mn (nI (dln f) - 1) 8 = nI 0 - 1 := by rw [hz]; decide
    rw [e0]
    obtain ⟨g, rfl⟩ : ∃ g, fu = g + 1 := ⟨fu - 1, by omega⟩
    rw [l_Poi_signOf_12, if_pos (by decide)]
    unfold f_Poi_signAmong
    rw [if_pos (by decide)]
    refine wq_bd (wq_some (wq_some ⟨?_, sbf_frp (sbf_rfl _ _), Z, a, b, hZ, hP, fun _ _ _ _ => rfl⟩))
    have hpz : f = pz := dln_0 hf9 hz
    have hp1 : pbd 0 f := fun k _ => by rw [hpz]; rfl
    show (0 : Int) = sgq (vl f y)
    rw [vl_eq hp1]
    rfl
  · have ed : nI (dln f) - 1 = nI (dgg f) := by rw [show (1 : Int32) = nI 1 from rfl, nI_sub (by omega)]; rfl
    have h8 := dgg_lt f
    have emn : rr_mn (nI (dgg f)) 8 = nI (dgg f) := by
      rw [show (8 : Int32) = nI 8 from rfl, mn_nI (by omega) (by omega), Nat.min_eq_left h8]
    have hdt := (dln_top hf9 (by omega)).1
    rw [ed, emn]
    refine sof_l (σ0 := σ) (Z0 := Z) (f := f) (d := dgg f) hfu hc hP (by omega) hn ho hf ?_ fu 0 σ Z (by omega) (by omega) hZ (sbf_rfl _ _) (fun _ _ => rfl) (fun j hj => absurd hj (by omega))
    intro σ1 Z1 L1 F1 O1 V1
    have hc1 := crf_sbf hc F1
    have hP1 := prf_sbf hP F1
    rw [hP1.2.1]
    refine wq_bd (wq_mo (sgm_ok (ar := 283) (frm_ := 0) (d := dgg f) (s := s) (e := e) (f := f) (x := x) (ofs := ld) hfu L1 hP1 (by omega) (by omega) (by omega) (by rw [nx_283]; omega) (by rw [nx_283]; omega) (fun k hk => ⟨?_, isB_ld (by omega), by unfold ld; omega, by unfold ld; omega, V1 k hk⟩) (by rw [sbf_i F1 (by decide)]; exact A2) (by rw [O1 281 (fun j hj => by unfold ld; omega)]; exact A1) sf A4 A3 hee) ?_)
    · rw [Nat.zero_add, hc1 283 k (by omega), rx_load k (by omega)]
      rfl
    · rintro r2 ⟨q1, F2, Z2, a', b', L2, P2, O2⟩
      refine wq_some ⟨?_, frp_tr (sbf_frp F1) F2, Z2, a', b', L2, P2, fun t t1 t2 t3 => by rw [O2 t t1 t2, O1 t t3]⟩
      show r2.1.toInt = _
      rw [q1, sgI_t, hv_sgn hdt.2, A5]
