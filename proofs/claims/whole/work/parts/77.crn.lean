/-! ===== the class's sequence, whole ===== -/
/-- the class's member k -/
def cc (p q : Pl) (k : Nat) : Pl := psc (lo p q k) (mm p q k)
theorem prs_sc (l l' b : Int) (B A : Pl) (dB dA : Nat) : ∀ m, prs (l' * b) (psc l' B) dB (psc l A) dA m = psc (l' ^ m * l) (prs b B dB A dA m)
  | 0 => by simp [prs]
  | m + 1 => by
    rw [prs, prs_sc l l' b B A dB dA m, prs]
    refine pl_ext (fun n => ?_)
    simp only [pad, psc, shf, Int.pow_succ]
    by_cases h : n < dA - m - dB
    · rw [if_pos h, if_pos h]
      generalize l' ^ m = S
      grind
    · rw [if_neg h, if_neg h]
      generalize l' ^ m = S
      grind
theorem pm_sq {s : Int} (hs : s = 1 ∨ s = -1) : s * s = 1 := by rcases hs with h | h <;> rw [h] <;> decide
theorem pm_ev {s : Int} (hs : s = 1 ∨ s = -1) : ∀ n : Nat, s ^ (n + 1) = if n % 2 = 0 then s else 1
  | 0 => by rw [Int.pow_succ, Int.pow_zero, Int.one_mul]; rfl
  | 1 => by rw [Int.pow_succ, Int.pow_succ, Int.pow_zero, Int.one_mul, pm_sq hs]; rfl
  | n + 2 => by
    rw [Int.pow_succ, Int.pow_succ, pm_ev hs n, Int.mul_assoc, pm_sq hs, Int.mul_one]
    have : (n + 2) % 2 = n % 2 := by omega
    rw [this]
/-- the class's rest is what its member times the divisor is -/
theorem cc_rest {p q : Pl} {s : Nat} (h : gdp p q s) {k : Nat} (hk : 1 ≤ k) (hm1 : mmn p q k) (hm2 : ∀ i, i < k → 1 ≤ i → 0 < dgg (mm p q i)) (t : Nat) :
    (cc p q k (dgg (mm p q k))).sign ^ (dgg (mm p q (k - 1)) - dgg (mm p q k) + 1) * prs (cc p q k (dgg (mm p q k))) (cc p q k) (dgg (mm p q k)) (cc p q (k - 1)) (dgg (mm p q (k - 1))) (dgg (mm p q (k - 1)) - dgg (mm p q k) + 1) t =
      -(((gm p q k).natAbs : Int) * ((hm p q k).natAbs : Int) ^ (dgg (mm p q (k - 1)) - dgg (mm p q k))) * cc p q (k + 1) t := by
  obtain ⟨g0, h0, hdl, hdg⟩ := gh_nz h hk hm1 hm2
  obtain ⟨s0, hex, hR0, hm0⟩ := mm_dv h hk hm1 hm2
  have l1 := lo_pm h k (fun i hi => hm1 i (by omega)) (fun i hi h3 => hm2 i (by omega) h3)
  have l2 := lo_pm h (k - 1) (fun i hi => hm1 i (by omega)) (fun i hi h3 => hm2 i (by omega) h3)
  have hb0 : mm p q k (dgg (mm p q k)) ≠ 0 := (hdg k (by omega)).1
  have sb := sign_pm hb0
  have hlo : lo p q (k + 1) = -(if (dgg (mm p q (k - 1)) - dgg (mm p q k)) % 2 = 0 then (mm p q k (dgg (mm p q k))).sign else 1) * lo p q (k - 1) * (gm p q k * hm p q k ^ (dgg (mm p q (k - 1)) - dgg (mm p q k))).sign := by
    obtain ⟨j, rfl⟩ : ∃ j, k = j + 1 := ⟨k - 1, by omega⟩
    rfl
  have hG : ((gm p q k).natAbs : Int) * ((hm p q k).natAbs : Int) ^ (dgg (mm p q (k - 1)) - dgg (mm p q k)) * (gm p q k * hm p q k ^ (dgg (mm p q (k - 1)) - dgg (mm p q k))).sign = gm p q k * hm p q k ^ (dgg (mm p q (k - 1)) - dgg (mm p q k)) := by
    have e1 : ((gm p q k).natAbs : Int) * ((hm p q k).natAbs : Int) ^ (dgg (mm p q (k - 1)) - dgg (mm p q k)) = ((gm p q k * hm p q k ^ (dgg (mm p q (k - 1)) - dgg (mm p q k))).natAbs : Int) := by
      rw [Int.natAbs_mul, Int.natAbs_pow]
      simp
    rw [e1, Int.mul_comm, Int.sign_mul_natAbs]
  have hcs : (cc p q k (dgg (mm p q k))).sign = lo p q k * (mm p q k (dgg (mm p q k))).sign := by
    show (lo p q k * mm p q k (dgg (mm p q k))).sign = _
    rw [Int.sign_mul]
    rcases l1 with e | e <;> rw [e] <;> rfl
  have hpr : prs (cc p q k (dgg (mm p q k))) (cc p q k) (dgg (mm p q k)) (cc p q (k - 1)) (dgg (mm p q (k - 1))) (dgg (mm p q (k - 1)) - dgg (mm p q k) + 1) t = lo p q k ^ (dgg (mm p q (k - 1)) - dgg (mm p q k) + 1) * lo p q (k - 1) * rem2 (mm p q (k - 1)) (mm p q k) t := congrFun (prs_sc (lo p q (k - 1)) (lo p q k) (mm p q k (dgg (mm p q k))) (mm p q k) (mm p q (k - 1)) (dgg (mm p q k)) (dgg (mm p q (k - 1))) (dgg (mm p q (k - 1)) - dgg (mm p q k) + 1)) t
  rw [hpr, ← hex t, hcs]
  show _ = _ * (lo p q (k + 1) * mm p q (k + 1) t)
  rw [hlo, ← pm_ev sb, Int.mul_pow]
  have hsq := pm_sq (pm_pow l1 (dgg (mm p q (k - 1)) - dgg (mm p q k) + 1))
  generalize lo p q k ^ (dgg (mm p q (k - 1)) - dgg (mm p q k) + 1) = a at *
  generalize (mm p q k (dgg (mm p q k))).sign ^ (dgg (mm p q (k - 1)) - dgg (mm p q k) + 1) = b at *
  generalize (gm p q k * hm p q k ^ (dgg (mm p q (k - 1)) - dgg (mm p q k))).sign = S at *
  generalize ((gm p q k).natAbs : Int) * ((hm p q k).natAbs : Int) ^ (dgg (mm p q (k - 1)) - dgg (mm p q k)) = D at *
  generalize gm p q k * hm p q k ^ (dgg (mm p q (k - 1)) - dgg (mm p q k)) = G at *
  generalize lo p q (k - 1) = l at *
  generalize mm p q (k + 1) t = m at *
  calc a * b * (a * l * (G * m)) = (a * a) * (b * l * G * m) := by grind
    _ = b * l * (D * S) * m := by rw [hsq, Int.one_mul, hG]
    _ = _ := by grind
theorem num_dg {fu o : Nat} {B : Nat} {σ : rr_M} {f : Pl} : ∀ (n fl : Nat), n ≤ nx B (B + o) → n < 1000 → n < fl → (∀ j, j < n → (mg_l σ (B + o) j).toInt = f j) → l_Num_degreeOf_5 fu (nx B) (B + o) σ fl (nI n - 1) (fun v => some v) = some (nI (lnn n f) - 1)
  | 0, fl + 1, _, _, _, _ => by
    rw [l_Num_degreeOf_5, if_pos (by decide)]
    rfl
  | n + 1, fl + 1, h1, h1', h2, h3 => by
    have e1 : nI (n + 1) - 1 = nI n := nI_pred n
    have c1 : ¬ nI n < 0 := nI_pos (by omega)
    have e2 : nI n + (-1) = nI n - 1 := (Int32.sub_eq_add_neg (nI n) 1).symm
    have mn : rr_n (nI n) = n := n_nI (by omega)
    have ix : rr_ix (nI n) (nx B (B + o)) = true := ix_nI (by omega) (by omega)
    rw [l_Num_degreeOf_5, e1, if_neg c1]
    simp only [rr_lt, ix, if_true, mn, e2, lnn]
    have h0 : mg_l σ (B + o) n = 0 ↔ f n = 0 := by rw [j_eq0, h3 n (by omega)]
    by_cases h : f n = 0
    · rw [if_pos (h0.mpr h), if_pos h]
      exact num_dg n fl (by omega) (by omega) (by omega) (fun j hj => h3 j (by omega))
    · rw [if_neg (fun hh => h (h0.mp hh)), if_neg h, e1]
theorem num_deg {fu o B : Nat} {σ : rr_M} {f : Pl} (hfu : 400 < fu) (hn : nx B (B + o) = 9) (hf : ∀ j, j < 9 → (mg_l σ (B + o) j).toInt = f j) : f_Num_degreeOf fu (nx B) (B + o) σ = some (nI (dln f) - 1) := by
  unfold f_Num_degreeOf
  simp only [rr_lt, hn]
  exact num_dg 9 fu (by omega) (by omega) (by omega) hf
theorem cld_l {fu B row o : Nat} {σ0 : rr_M} {Z0 : Nat → Option Int} {f : Pl} (hfu : 400 < fu) (hc0 : crf B σ0) (hrow : row < 10) (hn : nx B (B + o) = 9) (ho : isB (o - 1) = false) (hf : ∀ j, j < 9 → (mg_l σ0 (B + o) j).toInt = f j) {kk : rr_M → Option (Unit × rr_M)} {Q : Unit × rr_M → Prop}
    (hk : ∀ (σ : rr_M) (Z : Nat → Option Int), bgs B σ Z → sbf B σ0 σ → (∀ s, (∀ j, j < 9 → s ≠ nb row j) → Z s = Z0 s) → (∀ j, j < 9 → Z (nb row j) = some (f j)) → wq (kk σ) Q) :
    ∀ (fl i : Nat) (σ : rr_M) (Z : Nat → Option Int), i ≤ 9 → 10 - i ≤ fl → bgs B σ Z → sbf B σ0 σ → (∀ s, (∀ j, j < 9 → s ≠ nb row j) → Z s = Z0 s) → (∀ j, j < i → Z (nb row j) = some (f j)) →
      wq (l_Seq_load_35 fu (nx B) (B + 63) (nI row) (B + o) fl (nI i) σ kk) Q
  | 0, i, σ, Z, h1, h2, _, _, _, _ => by omega
  | fl + 1, i, σ, Z, h1, h2, hZ, hF, hO, hN => by
    have hc := crf_sbf hc0 hF
    rw [l_Seq_load_35]
    by_cases hit : i = 9
    · subst hit
      exact wq_ip (by decide) (hk σ Z hZ hF hO hN)
    · have c0 : ¬ (9 : Int32) ≤ nI i := nI_ge (b := 9) (by omega) (by omega)
      have c1 : ¬ nI (nx B (B + o)) ≤ nI i := by rw [hn]; exact c0
      have mi : rr_n (nI i) = i := n_nI (by omega)
      have ixo : rr_ix (nI i) (nx B (B + o)) = true := by rw [hn]; exact ix_nI (by omega) (by omega)
      have mk : rr_n (nI (9 * row + i)) = 9 * row + i := n_nI (by omega)
      have ixk : rr_ix (nI (9 * row + i)) (nx B (B + 64)) = true := by rw [nx_64]; exact ix_nI (by omega) (by omega)
      dsimp only [rr_lt]
      rw [if_neg c0, if_neg c1, sq_0 hc, nI_mul9, nI_add, mk, sq_nb hc hrow (show i < 9 by omega), mi, hF.2.2 o ho]
      refine wq_ip ixk (wq_ip ixo (wq_bd (wq_mo (bo_set hfu hZ (isB_nb hrow (by omega)) (mg_l σ0 (B + o) i)) ?_)))
      rintro r1 ⟨L1, F1⟩
      rw [hf i (by omega)] at L1
      rw [nI_1]
      refine cld_l hfu hc0 hrow hn ho hf hk fl (i + 1) r1.2 _ (by omega) (by omega) L1 (sbf_tr hF F1) ?_ ?_
      · intro s hs
        rw [zup_n (hs i (by omega))]
        exact hO s hs
      · intro j hj
        by_cases hji : j = i
        · subst hji; rw [zup_s]
        · rw [zup_n (by unfold nb; omega)]; exact hN j (by omega)
theorem cld_ok {fu B row o : Nat} {σ : rr_M} {Z : Nat → Option Int} {f : Pl} (hfu : 400 < fu) (hc : crf B σ) (hZ : bgs B σ Z) (hrow : row < 10) (hn : nx B (B + o) = 9) (ho : isB (o - 1) = false) (hf : ∀ j, j < 9 → (mg_l σ (B + o) j).toInt = f j) (hf0 : 0 < dln f) :
    wq (f_Seq_load fu (nx B) (B + 63) (nI row) (B + o) σ) (fun r => frs B σ r.2 ∧ (∀ j, j ≠ row → mg_i r.2 (B + 65) j = mg_i σ (B + 65) j ∧ mg_i r.2 (B + 66) j = mg_i σ (B + 66) j) ∧ mg_i r.2 (B + 65) row = nI (dgg f) ∧ mg_i r.2 (B + 66) row = sgI (f (dgg f)) ∧ ∃ Z', bgs B r.2 Z' ∧ (∀ s, (∀ j, j < 9 → s ≠ nb row j) → Z' s = Z s) ∧ (∀ j, j < 9 → Z' (nb row j) = some (f j))) := by
  have h9 : dln f ≤ 9 := lnn_le 9 f
  have ed : nI (dln f) - 1 = nI (dgg f) := by rw [show (1 : Int32) = nI 1 from rfl, nI_sub (by omega)]; rfl
  have hg8 := dgg_lt f
  have mr : rr_n (nI row) = row := n_nI (by omega)
  have md : rr_n (nI (dgg f)) = dgg f := n_nI (by omega)
  have i1 : rr_ix (nI row) (nx B (B + 65)) = true := by rw [nx_65]; exact ix_nI hrow (by omega)
  have i2 : rr_ix (nI row) (nx B (B + 66)) = true := by rw [nx_66]; exact ix_nI hrow (by omega)
  have i3 : rr_ix (nI (dgg f)) (nx B (B + o)) = true := by rw [hn]; exact ix_nI (by omega) (by omega)
  have hc1 : crf B (ms_i σ (B + 65) row (nI (dgg f))) := hc
  unfold f_Seq_load
  rw [num_deg hfu hn hf]
  refine wq_ob (wq_some ?_)
  dsimp only [rr_lt, rr_jn]
  rw [ed, sq_1 hc, mr, if_pos (nI_pos' (by omega)), md, jsg, sq_2 hc1]
  refine wq_ip i1 (wq_ip i3 (wq_ob (wq_some ?_)))
  have hsg : (if 0 < (mg_l (ms_i σ (B + 65) row (nI (dgg f))) (B + o) (dgg f)).toInt then (1 : Int32) else if (mg_l (ms_i σ (B + 65) row (nI (dgg f))) (B + o) (dgg f)).toInt < 0 then -1 else 0) = sgI (f (dgg f)) := by
    rw [si_l, hf _ (by omega)]
    rfl
  rw [hsg]
  refine wq_ip i2 ?_
  have L2 : bgs B (ms_i (ms_i σ (B + 65) row (nI (dgg f))) (B + 66) row (sgI (f (dgg f)))) Z := bgs_ms (bgs_ms hZ isB_f65) isB_f66
  refine cld_l (σ0 := ms_i (ms_i σ (B + 65) row (nI (dgg f))) (B + 66) row (sgI (f (dgg f)))) (Z0 := Z) (f := f) hfu hc hrow hn ho hf ?_ fu 0 _ Z (by omega) (by omega) L2 (sbf_rfl _ _) (fun _ _ => rfl) (fun j hj => absurd hj (by omega))
  intro σ3 Z3 L3 F3 O3 V3
  refine wq_some ⟨?_, ?_, ?_, ?_, Z3, L3, O3, V3⟩
  · exact frs_tr (frs_ms (Or.inr (Or.inl rfl))) (frs_tr (frs_ms (Or.inr (Or.inr rfl))) (sbf_frs F3))
  · intro j hj
    refine ⟨?_, ?_⟩
    · show mg_i σ3 (B + 65) j = _
      rw [sbf_i F3 isB_f65, si_row (by omega), si_n (Or.inr hj)]
    · show mg_i σ3 (B + 66) j = _
      rw [sbf_i F3 isB_f66, si_n (Or.inr hj), si_row (by omega)]
  · show mg_i σ3 (B + 65) row = _
    rw [sbf_i F3 isB_f65, si_row (by omega), si_s]
  · show mg_i σ3 (B + 66) row = _
    rw [sbf_i F3 isB_f66, si_s]
