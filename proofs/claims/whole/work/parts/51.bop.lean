/-! ===== set, copy, signum, negate ===== -/
theorem js60 (x : Int64) : (x >>> ((60 : Int32).toInt64 &&& 63)).toInt = x.toInt / 1152921504606846976 := Jvm.Kit.i64_shr x _ (k := 60) (by decide)
theorem j_lo (x : Int64) : -9223372036854775808 ≤ x.toInt ∧ x.toInt < 9223372036854775808 := ⟨Int64.le_toInt x, Int64.toInt_lt x⟩
theorem mw_of_ms2 (σ : rr_M) (d k : Nat) (v : Int64) : ms_l σ d k v = mw_l σ d (vp_updL (mg_l σ d) k v) := mw_of_ms σ d k v
theorem big_set {fu : Nat} {N : Nat → Nat} {a : Nat} {σ : rr_M} {v : Int64} (hr : mg_r σ a 0 = a + 1) (hN : N (a + 1) < 2147483648) (h4 : 4 ≤ N (a + 1)) (hf : 4 ≤ fu) :
    wq (f_Big_set fu N a v σ) (fun y => ∃ (g' : Nat → Int64) (m : Nat), y.2 = bpt σ a g' m ∧ bd g' m ∧ m < N (a + 1) ∧ dv g' (m + 1) = v.toInt) := by
  have i0 : rr_ix 0 (N (a + 1)) = true := ix_nI (k := 0) (by omega) (by omega)
  have i1 : rr_ix 1 (N (a + 1)) = true := ix_nI (k := 1) (by omega) (by omega)
  have i2 : rr_ix 2 (N (a + 1)) = true := ix_nI (k := 2) (by omega) (by omega)
  have m0 : rr_n 0 = 0 := rfl
  have m1 : rr_n 1 = 1 := rfl
  have m2 : rr_n 2 = 2 := rfl
  unfold f_Big_set
  simp only [rr_lt, hr, i0, if_true, m0, mw_of_ms2 σ (a + 1) 0, mw_r, i1, m1, mw_ms, i2, m2]
  have h3 : (3 : Int32) = nI (2 + 1) := rfl
  rw [h3]
  obtain ⟨hv1, hv2⟩ := j_lo v
  have d0 := jm30 v
  have d1 := jm30 (v >>> ((30 : Int32).toInt64 &&& 63))
  rw [js30] at d1
  have d2 := js60 v
  have hd : dv (vp_updL (vp_updL (vp_updL (mg_l σ (a + 1)) 0 (v &&& 1073741823)) 1 ((v >>> ((30 : Int32).toInt64 &&& 63)) &&& 1073741823)) 2 (v >>> ((60 : Int32).toInt64 &&& 63))) (2 + 1) = v.toInt := by
    simp only [dv]
    rw [upL_n (by omega), upL_n (by omega), upL_s, upL_n (by omega), upL_s, upL_s, d0, d1, d2]
    simp only [Int.pow_succ, Int.pow_zero]
    omega
  refine wq_bd (wq_mo (big_trim (n := 2) hr hN (by omega) (by omega) ⟨?_, ?_, ?_⟩) ?_)
  · intro k hk
    rcases (by omega : k = 0 ∨ k = 1) with h | h
    · subst h
      rw [upL_n (by omega), upL_n (by omega), upL_s, d0]
      omega
    · subst h
      rw [upL_n (by omega), upL_s, d1]
      omega
  · rw [hd]
    simp only [Int.pow_succ, Int.pow_zero]
    omega
  · rw [hd]
    simp only [Int.pow_succ, Int.pow_zero]
    omega
  · rintro y ⟨g', m, e1, e2, e3, e4⟩
    exact wq_some ⟨g', m, e1, e2, by omega, by rw [e4, hd]⟩
theorem mc_mw (σ : rr_M) (a b sp dp n : Nat) : mc_l σ a b sp dp n = mw_l σ b (va_cpy (mg_l σ a) (mg_l σ b) sp dp n) := by
  unfold mc_l mw_l
  congr 2
  funext q
  by_cases h : q = b
  · subst h
    simp only [if_true]
    rfl
  · simp only [if_neg h]
theorem dl_congr {g g' : Nat → Int64} {n : Nat} (h : ∀ k, k < n → g k = g' k) (hd : dl g n) : dl g' n := fun k hk => by
  rw [← h k hk]; exact hd k hk
theorem bd_congr {g g' : Nat → Int64} {n : Nat} (h : ∀ k, k < n + 1 → g k = g' k) (hd : bd g n) : bd g' n := by
  have e := dv_congr (n := n + 1) h
  refine ⟨⟨dl_congr (fun k hk => h k (by omega)) hd.1.1, by rw [← e]; exact hd.1.2.1, by rw [← e]; exact hd.1.2.2⟩, fun h0 => ?_⟩
  rw [← h n (by omega)]
  exact hd.2 h0
theorem big_copy {N : Nat → Nat} {a b : Nat} {σ : rr_M} {z : Int} {n : Nat} (hr : mg_r σ a 0 = a + 1) (hN : N (a + 1) < 2147483648) (hrb : mg_r σ b 0 = b + 1) (hNb : N (b + 1) < 2147483648) (hn : n < N (b + 1)) (hna : n < N (a + 1)) (hi : mg_i σ b 1 = nI (n + 1)) (hb : bd (mg_l σ (b + 1)) n) (hz : dv (mg_l σ (b + 1)) (n + 1) = z) :
    wq (f_Big_copy N a b σ) (fun y => ∃ (g' : Nat → Int64) (m : Nat), y.2 = bpt σ a g' m ∧ bd g' m ∧ m < N (a + 1) ∧ dv g' (m + 1) = z) := by
  have c1 : nI (n + 1) ≤ nI (N (a + 1)) := nI_le (by omega) (by omega)
  have c2 : rr_cp 0 0 (nI (n + 1)) (N (b + 1)) (N (a + 1)) = true := by
    have e0 : (0 : Int32).toInt = 0 := rfl
    have e1 : rr_n 0 = 0 := rfl
    have e2 : rr_n (nI (n + 1)) = n + 1 := n_nI (by omega)
    simp only [rr_cp, e0, e1, e2, nI_t (n + 1) (by omega), Bool.and_eq_true, decide_eq_true_eq]
    omega
  have e2 : rr_n (nI (n + 1)) = n + 1 := n_nI (by omega)
  have e1 : rr_n 0 = 0 := rfl
  unfold f_Big_copy
  simp only [rr_lt, hr, hrb, hi, c1, c2, if_true, e1, e2, mc_mw, mw_i]
  have hg : ∀ k, k < n + 1 → mg_l σ (b + 1) k = va_cpy (mg_l σ (b + 1)) (mg_l σ (a + 1)) 0 0 (n + 1) k := by
    intro k hk
    simp [va_cpy, hk]
  refine wq_some ⟨_, n, rfl, bd_congr hg hb, hna, ?_⟩
  rw [← hz]
  exact (dv_congr hg).symm
theorem ush63 (y : Int64) : ((y.toUInt64 >>> ((63 : Int32).toInt64.toUInt64 &&& Int64.toUInt64 63)).toInt64).toBitVec.toNat = y.toBitVec.toNat / 9223372036854775808 := by
  have hb : ((63 : Int32).toInt64.toUInt64 &&& Int64.toUInt64 63) = 63 := by decide
  rw [hb]
  have h1 : ((y.toUInt64 >>> (63 : UInt64)).toInt64).toBitVec = y.toBitVec >>> (63 : Nat) := by
    show (y.toUInt64 >>> (63 : UInt64)).toBitVec = _
    rw [UInt64.toBitVec_shiftRight]
    rfl
  rw [h1, BitVec.toNat_ushiftRight, Nat.shiftRight_eq_div_pow]
theorem js63 (x : Int64) : (x >>> ((63 : Int32).toInt64 &&& 63)).toInt = x.toInt / 9223372036854775808 := Jvm.Kit.i64_shr x _ (k := 63) (by decide)
theorem jsg (x : Int64) : (f_Jlo_signum_l x) = some (if 0 < x.toInt then 1 else if x.toInt < 0 then -1 else 0) := by
  unfold f_Jlo_signum_l
  have hx := BitVec.toInt_eq_toNat_cond x.toBitVec
  have e0 : x.toBitVec.toInt = x.toInt := rfl
  have hl := x.toBitVec.isLt
  obtain ⟨l1, l2⟩ := j_lo x
  have hu := ush63 (-x)
  rw [Int64.toBitVec_neg, BitVec.toNat_neg] at hu
  rcases Int.lt_trichotomy x.toInt 0 with h | h | h
  · have h1 : (x >>> ((63 : Int32).toInt64 &&& 63)) = -1 := by
      apply j_inj
      rw [js63, show (-1 : Int64).toInt = -1 from rfl]
      omega
    rw [h1, if_neg (by omega), if_pos h]
    have h2 : ∀ y : Int64, (-1 : Int64) ||| y = -1 := by
      intro y
      apply Int64.toBitVec_inj.mp
      rw [Int64.toBitVec_or, show (-1 : Int64).toBitVec = BitVec.allOnes 64 by decide, BitVec.allOnes_or]
    rw [h2]
    rfl
  · have : x = 0 := j_eq0.mpr h
    subst this
    decide
  · have h1 : (x >>> ((63 : Int32).toInt64 &&& 63)) = 0 := by
      apply j_inj
      rw [js63, show (0 : Int64).toInt = 0 from rfl]
      omega
    have h3 : x.toBitVec.toNat < 9223372036854775808 ∧ 0 < x.toBitVec.toNat := by
      rw [e0] at hx
      split at hx <;> omega
    have h2 : ((-x).toUInt64 >>> ((63 : Int32).toInt64.toUInt64 &&& Int64.toUInt64 63)).toInt64 = 1 := by
      apply Int64.toBitVec_inj.mp
      apply BitVec.eq_of_toNat_eq
      rw [hu, show (1 : Int64).toBitVec.toNat = 1 by decide]
      omega
    rw [h1, h2, if_pos h]
    decide
theorem big_signum {N : Nat → Nat} {b : Nat} {σ : rr_M} {z : Int} (h : bg N σ b z) (hNb : N (b + 1) < 2147483648) : f_Big_signum N b σ = some (if 0 < z then 1 else if z < 0 then -1 else 0) := by
  obtain ⟨hr, n, hn, hi, hb, hz⟩ := h
  have e1 : nI (n + 1) - 1 = nI n := nI_pred n
  have i1 : rr_ix (nI n) (N (b + 1)) = true := ix_nI (by omega) (by omega)
  have m1 : rr_n (nI n) = n := n_nI (by omega)
  unfold f_Big_signum
  simp only [rr_lt, hr, hi, e1, i1, if_true, m1, jsg, Option.bind]
  obtain ⟨s1, s2⟩ := bd_sg hb
  rw [hz] at s1 s2
  simp only [s1, s2]
theorem big_neg_l {fu : Nat} {N : Nat → Nat} {a : Nat} {σ : rr_M} {Q : Unit × rr_M → Prop} {kk : Int64 → rr_M → Option (Unit × rr_M)} {n : Nat} {g0 : Nat → Int64} (hr : mg_r σ a 0 = a + 1) (hN : N (a + 1) < 2147483648) (hn : n < N (a + 1)) (hi : mg_i σ a 1 = nI (n + 1)) (hb : bt g0 n)
    (hk : ∀ (g' : Nat → Int64) (c : Int64), dl g' (n + 1) → -2 ≤ c.toInt → c.toInt ≤ 2 → dv g' (n + 1) + c.toInt * 1073741824 ^ (n + 1) = -dv g0 (n + 1) → wq (kk c (mw_l σ (a + 1) g')) Q) :
    ∀ (f k : Nat) (g : Nat → Int64) (c : Int64), k ≤ n + 1 → n + 2 - k ≤ f → dl g k → (∀ j, k ≤ j → g j = g0 j) → -2 ≤ c.toInt → c.toInt ≤ 2 → dv g k + c.toInt * 1073741824 ^ k = -dv g0 k →
      wq (l_Big_negate_26 fu N a f c (nI k) (mw_l σ (a + 1) g) kk) Q
  | 0, k, g, c, h1, h2, _, _, _, _, _ => by omega
  | f + 1, k, g, c, h1, h2, hd, hg, hc1, hc2, hv => by
    rw [l_Big_negate_26]
    by_cases hkn : k = n + 1
    · subst hkn
      have c1 : mg_i (mw_l σ (a + 1) g) a 1 ≤ nI (n + 1) := by rw [mw_i, hi]; exact nI_le (by omega) (by omega)
      exact wq_ip c1 (hk g c hd hc1 hc2 hv)
    · have c1 : ¬ nI (n + 1) ≤ nI k := nI_ge (by omega) (by omega)
      have i1 : rr_ix (nI k) (N (a + 1)) = true := ix_nI (by omega) (by omega)
      have m1 : rr_n (nI k) = k := n_nI (by omega)
      simp only [rr_lt, mw_i, mw_r, hr, hi, i1, m1, mw_gsk, if_true, if_neg c1, mw_ms, nI_1]
      have hgk : g k = g0 k := hg k (Nat.le_refl _)
      have hb1 : -1073741824 ≤ (g0 k).toInt ∧ (g0 k).toInt ≤ 1073741824 := by
        rcases Nat.lt_or_ge k n with h | h
        · have := hb.1 k h; omega
        · have : k = n := by omega
          subst this
          exact bt_top hb
      have e1 : (c - g k).toInt = c.toInt - (g0 k).toInt := by rw [← hgk]; exact j_sub (by rw [hgk]; omega) (by rw [hgk]; omega)
      refine big_neg_l hr hN hn hi hb hk f (k + 1) _ _ (by omega) (by omega) ?_ ?_ ?_ ?_ ?_
      · intro j hj
        by_cases hjk : j = k
        · subst hjk; rw [upL_s, jm30]; omega
        · rw [upL_n hjk]; exact hd j (by omega)
      · intro j hj
        rw [upL_n (by omega)]
        exact hg j (by omega)
      · rw [js30, e1]; omega
      · rw [js30, e1]; omega
      · rw [js30, e1]
        simp only [dv]
        rw [upL_s, jm30, e1, dv_up_hi (Nat.le_refl _), pB_s]
        have := Int.emod_add_mul_ediv (c.toInt - (g0 k).toInt) 1073741824
        generalize (c.toInt - (g0 k).toInt) % 1073741824 = r at *
        generalize (c.toInt - (g0 k).toInt) / 1073741824 = q at *
        generalize (1073741824 : Int) ^ k = P at *
        grind
theorem big_negate {fu : Nat} {N : Nat → Nat} {a : Nat} {σ : rr_M} {z : Int} {n : Nat} (hr : mg_r σ a 0 = a + 1) (hN : N (a + 1) < 2147483648) (hf : N (a + 1) + 2 < fu) (hn : n + 1 < N (a + 1)) (hi : mg_i σ a 1 = nI (n + 1)) (hb : bd (mg_l σ (a + 1)) n) (hz : dv (mg_l σ (a + 1)) (n + 1) = z) :
    wq (f_Big_negate fu N a σ) (fun y => ∃ (g' : Nat → Int64) (m : Nat), y.2 = bpt σ a g' m ∧ bd g' m ∧ m < N (a + 1) ∧ dv g' (m + 1) = -z) := by
  unfold f_Big_negate
  have e1 : nI (n + 1) + 1 = nI (n + 1 + 1) := nI_1 _
  have e2 : nI (n + 1 + 1) - 1 = nI (n + 1) := nI_pred _
  have c1 : nI (n + 1 + 1) ≤ nI (N (a + 1)) := nI_le (by omega) (by omega)
  have i1 : rr_ix (nI (n + 1)) (N (a + 1)) = true := ix_nI (by omega) (by omega)
  have m1 : rr_n (nI (n + 1)) = n + 1 := n_nI (by omega)
  simp only [rr_lt, hr, hi, e1, c1, if_true]
  have h0 : σ = mw_l σ (a + 1) (mg_l σ (a + 1)) := (mw_id σ (a + 1)).symm
  have key : wq (l_Big_negate_26 fu N a fu 0 (nI 0) (mw_l σ (a + 1) (mg_l σ (a + 1))) (fun v2_11 σ_12 =>
      if rr_ix (nI (n + 1 + 1) - 1) (N (mg_r σ_12 a 0)) = true then
        rr_bd (f_Big_trim fu N a (nI (n + 1 + 1)) (ms_l σ_12 (mg_r σ_12 a 0) (rr_n (nI (n + 1 + 1) - 1)) v2_11)) fun _ σ_15 => some ((), σ_15)
      else none)) (fun y => ∃ (g' : Nat → Int64) (m : Nat), y.2 = bpt σ a g' m ∧ bd g' m ∧ m < N (a + 1) ∧ dv g' (m + 1) = -z) := by
    refine big_neg_l (n := n) (g0 := mg_l σ (a + 1)) hr hN (by omega) hi hb.1 ?_ fu 0 _ 0 (by omega) (by omega) (fun j hj => absurd hj (by omega)) (fun _ _ => rfl) (by decide) (by decide) (by simp [dv])
    intro g' c hd hc1 hc2 hv
    simp only [mw_r, hr, e2, i1, if_true, m1, mw_ms]
    have hv2 : dv (vp_updL g' (n + 1) c) (n + 1 + 1) = -z := by
      rw [dv, upL_s, dv_up_hi (Nat.le_refl _), hv, hz]
    have hp := pB_pos (n + 1)
    have hb1 := hb.1.2
    rw [hz] at hb1
    refine wq_bd (wq_mo (big_trim (n := n + 1) hr hN (by omega) (by omega) ⟨?_, ?_, ?_⟩) ?_)
    · intro j hj
      rw [upL_n (by omega)]
      exact hd j hj
    · rw [hv2, pB_s]; omega
    · rw [hv2, pB_s]; omega
    · rintro y ⟨g2, m, e3, e4, e5, e6⟩
      exact wq_some ⟨g2, m, e3, e4, by omega, by rw [e6, hv2]⟩
  rw [mw_id] at key
  exact key
