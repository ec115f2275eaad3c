/-! ===== the class's sequence: what is left ===== -/
theorem szb_pm {e : Nat} {s x : Int} (hs : s = 1 ∨ s = -1) (h : szb e x) : szb e (s * x) := by
  rcases hs with h1 | h1
  · rw [h1, Int.one_mul]; exact h
  · rw [h1, show (-1 : Int) * x = -x by omega]; exact szb_neg h
theorem pm_pow {s : Int} (hs : s = 1 ∨ s = -1) : ∀ m : Nat, s ^ m = 1 ∨ s ^ m = -1
  | 0 => Or.inl (Int.pow_zero s)
  | m + 1 => by
    rw [Int.pow_succ]
    rcases pm_pow hs m with h | h <;> rcases hs with h2 | h2 <;> rw [h, h2] <;> decide
theorem cfr_out {fu B k dA dB eA eB : Nat} {σ0 : rr_M} {Z0 : Nat → Option Int} {A C : Pl} {w : Int32} {sg : Int} (hfu : 400 < fu) (hc0 : crf B σ0) (hk10 : k < 10) (hdA : dA < 9) (hdB : dB ≤ dA) (hsg : sg = 1 ∨ sg = -1) (hw : w.toInt = sg) (h76 : Z0 76 = some (sg * C dB)) (hC : ∀ j, j < 9 → Z0 (nb k j) = some (C j)) (sA : ∀ j, szb eA (A j)) (sB : ∀ j, szb eB (C j)) (hee : eA + (dA - dB + 1) * (eB + 1) + eB ≤ 2600) {kk : rr_M → Option (Unit × rr_M)} {Q : Unit × rr_M → Prop}
    (hk : ∀ (σ : rr_M) (Z : Nat → Option Int), bgs B σ Z → sbf B σ0 σ → (∀ s, s ≠ 68 → s ≠ 70 → s ≠ 72 → (∀ j, j < 9 → s ≠ rs j) → Z s = Z0 s) → (∀ j, j < dB → Z (rs j) = some (sg ^ (dA - dB + 1) * prs (C dB) C dB A dA (dA - dB + 1) j)) → wq (kk σ) Q) :
    ∀ (f t : Nat) (σ : rr_M) (Z : Nat → Option Int), dB ≤ t → t ≤ dA + 1 → t + 1 - dB ≤ f → bgs B σ Z → sbf B σ0 σ → (∀ s, s ≠ 68 → s ≠ 70 → s ≠ 72 → (∀ j, j < 9 → s ≠ rs j) → Z s = Z0 s) → (∀ j, j < t → Z (rs j) = some (sg ^ (dA + 1 - t) * prs (C dB) C dB A dA (dA + 1 - t) j)) →
      wq (l_Seq_formRest_111 fu (nx B) (B + 63) (nI (9 * k)) (nI dB) w f (nI t - 1) σ kk) Q
  | 0, t, σ, Z, h1, h1', h2, _, _, _, _ => by omega
  | f + 1, t, σ, Z, h1, h1', h2, hZ, hF, hO, hN => by
    have hc := crf_sbf hc0 hF
    rw [l_Seq_formRest_111]
    by_cases htd : t = dB
    · have c0 : nI t - 1 < nI dB := by
        rw [Int32.lt_iff_toInt_lt, show (1 : Int32) = nI 1 from rfl, nI_subT (by omega) (by omega), nI_t dB (by omega)]
        omega
      rw [if_pos c0]
      refine hk σ Z hZ hF hO (fun j hj => ?_)
      rw [hN j (by omega), htd, show dA + 1 - dB = dA - dB + 1 by omega]
    · obtain ⟨top, rfl⟩ : ∃ top, t = top + 1 := ⟨t - 1, by omega⟩
      have e1 : nI (top + 1) - 1 = nI top := nI_pred top
      have c0 : ¬ nI top < nI dB := nI_nlt (by omega) (by omega)
      obtain ⟨m, hm⟩ : ∃ m, m = dA + 1 - (top + 1) := ⟨_, rfl⟩
      have htop : top = dA - m := by omega
      have mt : rr_n (nI top) = top := n_nI (by omega)
      have ix : rr_ix (nI top) (nx B (B + 67)) = true := by rw [nx_67]; exact ix_nI (by omega) (by omega)
      rw [← hm] at hN
      have hee2 : eA + m * (eB + 1) + eB ≤ 2600 := by
        have : m * (eB + 1) ≤ (dA - dB + 1) * (eB + 1) := Nat.mul_le_mul_right _ (by omega)
        omega
      have sO : ∀ j, szb (eA + m * (eB + 1)) (sg ^ m * prs (C dB) C dB A dA m j) := fun j => szb_pm (pm_pow hsg m) (prs_bit (sB dB) sB sA m j)
      dsimp only [rr_lt]
      rw [e1, if_neg c0, sq_7 hc, sq_4 hc, mt, sq_rs hc (show top < 9 by omega)]
      refine wq_ip ix (wq_bd (wq_mo (bo_copyb (x := 72) (y := rs top) (e := eA + m * (eB + 1)) hZ (by decide) (isB_rs (by omega)) (hN top (by omega)) (sO top) (by rw [show roomB 72 = 96 by decide]; omega)) ?_))
      rintro r1 ⟨L1, F1⟩
      have hc1 := crf_sbf hc F1
      refine cfr_in (σ0 := r1.2) (Z0 := zup Z 72 (sg ^ m * prs (C dB) C dB A dA m top)) (od := fun j => sg ^ m * prs (C dB) C dB A dA m j) (C := C) (top := top) (dB := dB) (eO := eA + m * (eB + 1)) (eB := eB) (ob := sg * C dB) (w := w) hfu hc1 hk10 (by omega) (by omega) (zup_s _ _ _) ?_ ?_ sO sB (szb_pm hsg (sB dB)) (by rw [hw]; exact hsg) hee2 ?_ fu 0 r1.2 _ (by omega) (by omega) L1 (sbf_rfl _ _) (fun _ _ _ _ => rfl) ?_
      · rw [zup_n (by omega), hO 76 (by omega) (by omega) (by omega) (fun j hj => by unfold rs; omega)]; exact h76
      · intro j hj
        rw [zup_n (by unfold nb; omega), hO _ (by unfold nb; omega) (by unfold nb; omega) (by unfold nb; omega) (fun j' hj' => by unfold nb rs; omega)]
        exact hC j hj
      · intro σ2 Z2 L2 F2 O2 V2
        have e2 : nI top + (-1) = nI top - 1 := (Int32.sub_eq_add_neg (nI top) 1).symm
        rw [e2]
        refine cfr_out hfu hc0 hk10 hdA hdB hsg hw h76 hC sA sB hee hk f top σ2 Z2 (by omega) (by omega) (by omega) L2 (sbf_tr hF (sbf_tr F1 F2)) ?_ ?_
        · intro s s1 s2 s3 s4
          rw [O2 s s1 s2 s4, zup_n s3]
          exact hO s s1 s2 s3 s4
        · intro j hj
          rw [V2 j hj, show dA + 1 - top = m + 1 by omega, hw]
          congr 1
          simp only [prs, pad, psc, shf, ← htop, Int.pow_succ]
          by_cases hj3 : top - dB ≤ j
          · rw [if_pos hj3, if_neg (by omega)]
            generalize sg ^ m = S
            grind
          · rw [if_neg hj3, if_pos (by omega)]
            generalize sg ^ m = S
            grind
      · intro j hj
        rw [if_neg (by omega), zup_n (by unfold rs; omega)]
        exact hN j (by omega)
theorem cfr_cp {fu B k dA eA : Nat} {σ0 : rr_M} {Z0 : Nat → Option Int} {A : Pl} (hfu : 400 < fu) (hc0 : crf B σ0) (hk10 : k < 10) (hdA : dA < 9) (hA : ∀ j, j < 9 → Z0 (nb k j) = some (A j)) (sA : ∀ j, szb eA (A j)) (hee : eA ≤ 2600) {kk : rr_M → Option (Unit × rr_M)} {Q : Unit × rr_M → Prop}
    (hk : ∀ (σ : rr_M) (Z : Nat → Option Int), bgs B σ Z → sbf B σ0 σ → (∀ s, (∀ j, j < 9 → s ≠ rs j) → Z s = Z0 s) → (∀ j, j < dA + 1 → Z (rs j) = some (A j)) → wq (kk σ) Q) :
    ∀ (f i : Nat) (σ : rr_M) (Z : Nat → Option Int), i ≤ dA + 1 → dA + 2 - i ≤ f → bgs B σ Z → sbf B σ0 σ → (∀ s, (∀ j, j < 9 → s ≠ rs j) → Z s = Z0 s) → (∀ j, j < i → Z (rs j) = some (A j)) →
      wq (l_Seq_formRest_37 fu (nx B) (B + 63) (nI (9 * k)) (nI dA) f (nI i) σ kk) Q
  | 0, i, σ, Z, h1, h2, _, _, _, _ => by omega
  | f + 1, i, σ, Z, h1, h2, hZ, hF, hO, hN => by
    have hc := crf_sbf hc0 hF
    rw [l_Seq_formRest_37]
    by_cases hit : i = dA + 1
    · subst hit
      exact wq_ip (nI_lt (by omega) (by omega)) (hk σ Z hZ hF hO hN)
    · have c0 : ¬ nI dA < nI i := nI_nlt (by omega) (by omega)
      have mi : rr_n (nI i) = i := n_nI (by omega)
      have ix : rr_ix (nI i) (nx B (B + 67)) = true := by rw [nx_67]; exact ix_nI (by omega) (by omega)
      have mk : rr_n (nI (9 * k + i)) = 9 * k + i := n_nI (by omega)
      have ixk : rr_ix (nI (9 * k + i)) (nx B (B + 64)) = true := by rw [nx_64]; exact ix_nI (by omega) (by omega)
      have Zi : Z (nb k i) = some (A i) := by rw [hO _ (fun j hj => by unfold nb rs; omega)]; exact hA i (by omega)
      dsimp only [rr_lt]
      rw [if_neg c0, sq_4 hc, mi, sq_rs hc (show i < 9 by omega), sq_0 hc, nI_add, mk, sq_nb hc hk10 (show i < 9 by omega)]
      refine wq_ip ix (wq_ip ixk (wq_bd (wq_mo (bo_copyb (e := eA) hZ (isB_rs (by omega)) (isB_nb hk10 (by omega)) Zi (sA i) (by rw [room_rs (by omega)]; omega)) ?_)))
      rintro r1 ⟨L1, F1⟩
      rw [nI_1]
      refine cfr_cp hfu hc0 hk10 hdA hA sA hee hk f (i + 1) r1.2 _ (by omega) (by omega) L1 (sbf_tr hF F1) ?_ ?_
      · intro s hs
        rw [zup_n (hs i (by omega))]
        exact hO s hs
      · intro j hj
        by_cases hji : j = i
        · subst hji; rw [zup_s]
        · rw [zup_n (by unfold rs; omega)]; exact hN j (by omega)
theorem isB_f65 : isB 65 = false := by decide
theorem isB_f66 : isB 66 = false := by decide
theorem isB_f63 : isB 63 = false := by decide
theorem sbf_i {B o : Nat} {σ σ' : rr_M} (h : sbf B σ σ') (ho : isB o = false) : mg_i σ' (B + o) = mg_i σ (B + o) := h.2.1 o ho
theorem cfr_ok {fu B k dA dB eA eB : Nat} {σ : rr_M} {Z : Nat → Option Int} {A C : Pl} {w : Int32} {sg : Int} (hfu : 400 < fu) (hc : crf B σ) (hk2 : 2 ≤ k) (hk10 : k ≤ 10) (hdA : dA < 9) (hdB : dB ≤ dA) (hsg : sg = 1 ∨ sg = -1) (hw : w.toInt = sg) (hpos : 0 ≤ sg * C dB) (hZ : bgs B σ Z) (hA : ∀ j, j < 9 → Z (nb (k - 2) j) = some (A j)) (hC : ∀ j, j < 9 → Z (nb (k - 1) j) = some (C j)) (da : mg_i σ (B + 65) (k - 2) = nI dA) (db : mg_i σ (B + 65) (k - 1) = nI dB) (sw : mg_i σ (B + 66) (k - 1) = w) (sA : ∀ j, szb eA (A j)) (sB : ∀ j, szb eB (C j)) (hee : eA + (dA - dB + 1) * (eB + 1) + eB ≤ 2600) (hB5 : eB ≤ 600) :
    wq (f_Seq_formRest fu (nx B) (B + 63) (nI k) σ) (fun r => sbf B σ r.2 ∧ ∃ Z', bgs B r.2 Z' ∧ (∀ s, s ≠ 68 → s ≠ 70 → s ≠ 72 → s ≠ 76 → (∀ j, j < 9 → s ≠ rs j) → Z' s = Z s) ∧ Z' 76 = some (sg * C dB) ∧ (∀ j, j < dB → Z' (rs j) = some (sg ^ (dA - dB + 1) * prs (C dB) C dB A dA (dA - dB + 1) j))) := by
  have e1 : nI k - 2 = nI (k - 2) := nI_sub (b := 2) hk2
  have e2 : nI k - 1 = nI (k - 1) := nI_sub (b := 1) (by omega)
  have m1 : rr_n (nI (k - 2)) = k - 2 := n_nI (by omega)
  have m2 : rr_n (nI (k - 1)) = k - 1 := n_nI (by omega)
  have i1 : rr_ix (nI (k - 2)) (nx B (B + 65)) = true := by rw [nx_65]; exact ix_nI (by omega) (by omega)
  have i2 : rr_ix (nI (k - 1)) (nx B (B + 65)) = true := by rw [nx_65]; exact ix_nI (by omega) (by omega)
  have i3 : rr_ix (nI (k - 1)) (nx B (B + 66)) = true := by rw [nx_66]; exact ix_nI (by omega) (by omega)
  have i4 : rr_ix (nI (9 * (k - 1) + dB)) (nx B (B + 64)) = true := by rw [nx_64]; exact ix_nI (by omega) (by omega)
  have m4 : rr_n (nI (9 * (k - 1) + dB)) = 9 * (k - 1) + dB := n_nI (by omega)
  unfold f_Seq_formRest
  dsimp only [rr_lt, rr_jn]
  rw [e1, e2, nI_mul9, nI_mul9, sq_1 hc, m1, m2, da, db]
  have hmm : (dA - dB + 1) * (eB + 1) ≥ 0 := Nat.zero_le _
  refine wq_ip i1 (wq_ip i2 ?_)
  refine cfr_cp (σ0 := σ) (Z0 := Z) (A := A) (k := k - 2) (eA := eA) hfu hc (by omega) hdA hA sA (by omega) ?_ fu 0 σ Z (by omega) (by omega) hZ (sbf_rfl _ _) (fun _ _ => rfl) (fun j hj => absurd hj (by omega))
  intro σ1 Z1 L1 F1 O1 V1
  have hc1 := crf_sbf hc F1
  have sw1 : mg_i σ1 (B + 66) (k - 1) = w := by rw [sbf_i F1 isB_f66]; exact sw
  have ZC1 : ∀ j, j < 9 → Z1 (nb (k - 1) j) = some (C j) := fun j hj => by rw [O1 _ (fun j' hj' => by unfold nb rs; omega)]; exact hC j hj
  rw [sq_2 hc1, sw1, sq_9 hc1, sq_0 hc1, nI_add, m4, sq_nb hc1 (by omega) (show dB < 9 by omega)]
  refine wq_ip i3 (wq_ip i4 (wq_bd (wq_mo (bo_copyb (x := 76) (y := nb (k - 1) dB) (e := eB) L1 (by decide) (isB_nb (by omega) (by omega)) (ZC1 dB (by omega)) (sB dB) (by rw [show roomB 76 = 24 by decide]; omega)) ?_)))
  rintro r2 ⟨L2, F2⟩
  have hc2 := crf_sbf hc1 F2
  -- what follows
  have fin : ∀ (σ3 : rr_M) (Z3 : Nat → Option Int), bgs B σ3 Z3 → sbf B σ σ3 → (∀ s, s ≠ 76 → Z3 s = Z1 s) → Z3 76 = some (sg * C dB) →
      wq (l_Seq_formRest_111 fu (nx B) (B + 63) (nI (9 * (k - 1))) (nI dB) w fu (nI dA) σ3 fun σ_57 => some ((), σ_57)) (fun r => sbf B σ r.2 ∧ ∃ Z', bgs B r.2 Z' ∧ (∀ s, s ≠ 68 → s ≠ 70 → s ≠ 72 → s ≠ 76 → (∀ j, j < 9 → s ≠ rs j) → Z' s = Z s) ∧ Z' 76 = some (sg * C dB) ∧ (∀ j, j < dB → Z' (rs j) = some (sg ^ (dA - dB + 1) * prs (C dB) C dB A dA (dA - dB + 1) j))) := by
    intro σ3 Z3 L3 F3 O3 V3
    have et : nI dA = nI (dA + 1) - 1 := (nI_pred _).symm
    rw [et]
    refine cfr_out (σ0 := σ3) (Z0 := Z3) (A := A) (C := C) (k := k - 1) (eA := eA) (eB := eB) (sg := sg) hfu (crf_sbf hc F3) (by omega) hdA hdB hsg hw V3 (fun j hj => by rw [O3 _ (by unfold nb; omega)]; exact ZC1 j hj) sA sB hee ?_ fu (dA + 1) σ3 Z3 (by omega) (by omega) (by omega) L3 (sbf_rfl _ _) (fun _ _ _ _ _ => rfl) (fun j hj => ?_)
    · intro σ4 Z4 L4 F4 O4 V4
      refine wq_some ⟨sbf_tr F3 F4, Z4, L4, ?_, ?_, V4⟩
      · intro s s1 s2 s3 s4 s5
        rw [O4 s s1 s2 s3 s5, O3 s s4, O1 s s5]
      · rw [O4 76 (by omega) (by omega) (by omega) (fun j hj => by unfold rs; omega)]; exact V3
    · rw [Nat.sub_self, Int.pow_zero, Int.one_mul, O3 _ (by unfold rs; omega)]
      exact V1 j hj
  by_cases h0 : (0 : Int32) ≤ w
  · rw [if_pos h0]
    have hs1 : sg = 1 := by
      rw [Int32.le_iff_toInt_le, hw, show (0 : Int32).toInt = 0 from rfl] at h0
      omega
    refine fin r2.2 _ L2 (sbf_tr F1 F2) (fun s hs => zup_n hs) ?_
    rw [zup_s, hs1, Int.one_mul]
  · rw [if_neg h0, sq_9 hc2]
    have hs1 : sg = -1 := by
      rw [Int32.le_iff_toInt_le, hw, show (0 : Int32).toInt = 0 from rfl] at h0
      omega
    refine wq_bd (wq_mo (bo_neg (x := 76) (m1 := eB / 30 + 1) hfu L2 (by decide) (zup_s _ _ _) (szl_of (sB dB) (by omega)) (by omega) (by rw [show roomB 76 = 24 by decide]; omega)) ?_)
    rintro r3 ⟨L3, F3⟩
    refine fin r3.2 _ L3 (sbf_tr F1 (sbf_tr F2 F3)) (fun s hs => by rw [zup_n hs, zup_n hs]) ?_
    rw [zup_s, hs1]
    congr 1
    omega
theorem crd_l {fu B : Nat} {σ : rr_M} {Z : Nat → Option Int} {R : Pl} (hc : crf B σ) (hZ : bgs B σ Z) : ∀ (n fl : Nat), n ≤ 9 → n < fl → (∀ j, j < n → Z (rs j) = some (R j)) → l_Seq_restDegree_11 fu (nx B) (B + 63) σ fl (nI n - 1) (fun v => some v) = some (nI (lnn n R) - 1)
  | 0, fl + 1, _, _, _ => by
    rw [l_Seq_restDegree_11, if_pos (by decide)]
    rfl
  | n + 1, fl + 1, h1, h2, h3 => by
    have e1 : nI (n + 1) - 1 = nI n := nI_pred n
    have c1 : ¬ nI n < 0 := nI_pos (by omega)
    have e2 : nI n + (-1) = nI n - 1 := (Int32.sub_eq_add_neg (nI n) 1).symm
    have mn : rr_n (nI n) = n := n_nI (by omega)
    have ix : rr_ix (nI n) (nx B (B + 67)) = true := by rw [nx_67]; exact ix_nI (by omega) (by omega)
    rw [l_Seq_restDegree_11, e1, if_neg c1]
    simp only [rr_lt, sq_4 hc, ix, if_true, mn, sq_rs hc (show n < 9 by omega), bo_sgn hZ (isB_rs (show n < 9 by omega)) (h3 n (by omega)), Option.bind, e2, lnn, sgI_0]
    by_cases h0 : R n = 0
    · rw [if_pos h0, if_pos h0]
      exact crd_l hc hZ n fl (by omega) (by omega) (fun j hj => h3 j (by omega))
    · rw [if_neg h0, if_neg h0, e1]
