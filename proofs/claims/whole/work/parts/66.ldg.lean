/-! ===== a digit of a quotient ===== -/
def dgT (fu : Nat) (N : Nat → Nat) (v0 : Nat) (v1 v2 : Int32) (v5_10 : Int64) (σ : rr_M) : Option (Int32 × rr_M) :=
    l_Mod_digit_131 fu N v0 v1 v2 v5_10 fu 0 0 σ (fun v9_20 σ_21 =>
    rr_lt (mg_r σ_21 v0 4) fun p_22 =>
    (if rr_ix (v1 + v2) (N p_22) then
    rr_lt ((mg_l σ_21 p_22 (rr_n (v1 + v2))) - v9_20) fun v11_23 =>
    rr_lt (mg_r σ_21 v0 4) fun p_24 =>
    (if rr_ix (v1 + v2) (N p_24) then rr_lt (ms_l σ_21 p_24 (rr_n (v1 + v2)) v11_23) fun σ_25 =>
    if v11_23 < 0 then (l_Mod_digit_246 fu N v0 v1 v2 fu 0 0 σ_25 (fun v13_35 σ_36 =>
    rr_lt (mg_r σ_36 v0 4) fun p_37 =>
    (if rr_ix (v1 + v2) (N p_37) then rr_lt (ms_l σ_36 p_37 (rr_n (v1 + v2)) (v11_23 + v13_35)) fun σ_38 =>
    some ((v5_10 - 1).toInt32, σ_38) else none))) else
    some (v5_10.toInt32, σ_25) else none) else none))
/-- what a digit's call leaves -/
def dgP (σ : rr_M) (C j n : Nat) (d g : Nat → Int64) (y : Int32 × rr_M) : Prop := ∃ g' : Nat → Int64, y.2 = mw_l σ (C + 4) g' ∧ (∀ i, (i < j ∨ j + n < i) → g' i = g i) ∧ qok g' j n ∧ (g' (j + n)).toInt = 0 ∧ 0 ≤ y.1.toInt ∧ y.1.toInt < 65536 ∧ qv g j (n + 1) = y.1.toInt * qv d 0 n + qv g' j n ∧ qv g' j n < qv d 0 n
theorem dgT_ok {fu C j n : Nat} {σ : rr_M} {q : Int64} {d g : Nat → Int64} (hfu : 400 < fu) (hm : mrf C σ) (hjn : j + n < 401) (hn : n < 201) (hd : mg_l σ (C + 5) = d) (hdk : qok d 0 n) (hg : qok g j (n + 1)) (hq1 : 0 ≤ q.toInt) (hq2 : q.toInt < 65536) (hU1 : (q.toInt - 1) * qv d 0 n ≤ qv g j (n + 1)) (hU2 : qv g j (n + 1) < (q.toInt + 1) * qv d 0 n) :
    wq (dgT fu (nm C) C (nI j) (nI n) q (mw_l σ (C + 4) g)) (dgP σ C j n d g) := by
  unfold dgT
  have hg0 : qok g j n := fun k hk => hg k (by omega)
  refine dig_sub (g0 := g) hm hjn hn hd hdk hq1 hq2 hg0 ?_ fu 0 0 g (by omega) (by omega) (fun _ _ => rfl) (fun k hk => absurd hk (by omega)) (by decide) (by decide) (by simp [qv])
  intro g1 l k1 k2 l1 l2 kv
  have m1 : rr_n (nI (j + n)) = j + n := n_nI (by omega)
  have xg : g1 (j + n) = g (j + n) := k1 _ (Or.inr (Nat.le_refl _))
  simp only [rr_lt, mw_r, mrf_4 hm, nI_add, ix4 (C := C) (show j + n < 401 by omega), m1, if_true, mw_gsk, mw_ms, xg]
  have hV := qok_lt hdk
  have hR := qok_lt k2
  have hP := pL_pos n
  have xgb := hg n (by omega)
  have hU : qv g j (n + 1) = qv g j n + (g (j + n)).toInt * 65536 ^ n := rfl
  have e1 : (g (j + n) - l).toInt = (g (j + n)).toInt - l.toInt := j_sub (by omega) (by omega)
  generalize hL : g (j + n) - l = L at *
  have htot : qv g1 j n + L.toInt * 65536 ^ n = qv g j (n + 1) - q.toInt * qv d 0 n := by
    rw [hU, e1, Int.sub_mul]
    omega
  rw [Int.sub_mul, Int.one_mul] at hU1
  rw [Int.add_mul, Int.one_mul] at hU2
  generalize hVV : qv d 0 n = V at *
  generalize hUU : qv g j (n + 1) = U at *
  have z0 : (0 : Int64).toInt = 0 := rfl
  by_cases hs : L < 0
  · rw [if_pos hs]
    rw [Int64.lt_iff_toInt_lt, z0] at hs
    have hL1 : L.toInt = -1 := by
      apply Int.le_antisymm
      · omega
      · apply Int.not_lt.mp
        intro h
        have := Int.mul_le_mul_of_nonneg_right (show L.toInt ≤ -2 by omega) (Int.le_of_lt hP)
        omega
    rw [← hVV] at *
    refine dig_add (g0 := vp_updL g1 (j + n) L) hm hjn hn hd hdk (fun k hk => by rw [upL_n (by omega)]; exact k2 k hk) ?_ fu 0 0 _ (by omega) (by omega) (fun _ _ => rfl) (fun k hk => absurd hk (by omega)) (by decide) (by decide) (by simp [qv])
    intro g2 l' a1 a2 b1 b2 av
    rw [qv_congr (g := vp_updL g1 (j + n) L) (g' := g1) (o' := j) (fun i hi => upL_n (by omega))] at av
    have hl' : l'.toInt = 1 := by
      have := qok_lt a2
      have h0 : l'.toInt = 0 ∨ l'.toInt = 1 := by omega
      rcases h0 with h0 | h0
      · exfalso
        rw [h0] at av
        rw [hL1] at htot
        omega
      · exact h0
    have e3 : (L + l').toInt = 0 := by rw [j_add (by omega) (by omega)]; omega
    have e4 : ((q - 1).toInt32).toInt = q.toInt - 1 := by
      have e5 : (q - 1).toInt = q.toInt - 1 := j_sub (x := q) (y := 1) (by rw [show (1 : Int64).toInt = 1 from rfl]; omega) (by rw [show (1 : Int64).toInt = 1 from rfl]; omega)
      rw [Jvm.Kit.i32_of_i64 (by rw [e5]; omega) (by rw [e5]; omega), e5]
    have hq0 : 1 ≤ q.toInt := by
      apply Int.not_lt.mp
      intro h
      have : q.toInt = 0 := by omega
      rw [this] at htot
      rw [hL1] at htot
      have hUn := qok_lt hg
      omega
    simp only [mw_r, mrf_4 hm, ix4 (C := C) (show j + n < 401 by omega), m1, if_true, mw_ms]
    rw [hl'] at av
    rw [hL1] at htot
    refine wq_some ⟨vp_updL g2 (j + n) (L + l'), rfl, ?_, ?_, ?_, ?_, ?_, ?_, ?_⟩
    · intro i hi
      rw [upL_n (by omega), a1 i (by omega), upL_n (by omega), k1 i (by omega)]
    · intro k hk
      rw [upL_n (by omega)]
      exact a2 k hk
    · rw [upL_s]; exact e3
    · show 0 ≤ ((q - 1).toInt32).toInt
      omega
    · show ((q - 1).toInt32).toInt < 65536
      omega
    · show _ = ((q - 1).toInt32).toInt * _ + _
      rw [e4, qv_congr (g := vp_updL g2 (j + n) (L + l')) (g' := g2) (o' := j) (fun i hi => upL_n (by omega)), Int.sub_mul, hUU]
      omega
    · rw [qv_congr (g := vp_updL g2 (j + n) (L + l')) (g' := g2) (o' := j) (fun i hi => upL_n (by omega))]
      omega
  · rw [if_neg hs]
    rw [Int64.lt_iff_toInt_lt, z0] at hs
    have hL0 : L.toInt = 0 := by
      apply Int.le_antisymm
      · apply Int.not_lt.mp
        intro h
        have := Int.mul_le_mul_of_nonneg_right (show 1 ≤ L.toInt by omega) (Int.le_of_lt hP)
        omega
      · omega
    have e4 : (q.toInt32).toInt = q.toInt := Jvm.Kit.i32_of_i64 (by omega) (by omega)
    rw [hL0] at htot
    refine wq_some ⟨vp_updL g1 (j + n) L, rfl, ?_, ?_, ?_, ?_, ?_, ?_, ?_⟩
    · intro i hi
      rw [upL_n (by omega), k1 i (by omega)]
    · intro k hk
      rw [upL_n (by omega)]
      exact k2 k hk
    · rw [upL_s]; exact hL0
    · show 0 ≤ (q.toInt32).toInt
      omega
    · show (q.toInt32).toInt < 65536
      omega
    · show _ = (q.toInt32).toInt * _ + _
      rw [e4, qv_congr (g := vp_updL g1 (j + n) L) (g' := g1) (o' := j) (fun i hi => upL_n (by omega)), hUU, hVV]
      omega
    · rw [qv_congr (g := vp_updL g1 (j + n) L) (g' := g1) (o' := j) (fun i hi => upL_n (by omega))]
      omega
-- the guess
theorem gs_lo {U V L L' P T q v1 v2 u0 : Int} (hP : 0 < P) (hU : U = L + (T * 65536 + u0) * P) (hV : V = L' + (v1 * 65536 + v2) * P) (hL1 : 0 ≤ L) (hL2 : L < P) (hL3 : 0 ≤ L') (hL4 : L' < P) (hq : 0 ≤ q) (h : T * 65536 + u0 + 1 ≤ q * (v1 * 65536 + v2)) : U < q * V := by
  have h1 := Int.mul_le_mul_of_nonneg_right h (Int.le_of_lt hP)
  have h2 := Int.mul_nonneg hq hL3
  have h3 : q * V = q * L' + q * (v1 * 65536 + v2) * P := by rw [hV]; grind
  rw [h3, hU]
  generalize q * (v1 * 65536 + v2) = X at *
  generalize T * 65536 + u0 = Y at *
  rw [Int.add_mul, Int.one_mul] at h1
  omega
theorem gs_hi {U V L L' P T q v1 v2 u0 : Int} (hP : 0 < P) (hU : U = L + (T * 65536 + u0) * P) (hV : V = L' + (v1 * 65536 + v2) * P) (hL1 : 0 ≤ L) (hL4 : L' < P) (hL3 : 0 ≤ L') (hq : 0 ≤ q) (hq2 : q < 65536) (hv : 1 ≤ v1) (hv2 : 0 ≤ v2) (hT : 0 ≤ T * 65536 + u0) (h : q * (v1 * 65536 + v2) ≤ T * 65536 + u0) : (q - 1) * V ≤ U := by
  rcases Int.lt_or_eq_of_le hq with h0 | h0
  · have h1 : (q - 1) * V ≤ (q - 1) * ((v1 * 65536 + v2 + 1) * P) := by
      apply Int.mul_le_mul_of_nonneg_left _ (by omega)
      rw [hV, Int.add_mul (v1 * 65536 + v2) 1 P, Int.one_mul]
      omega
    have h2 : (q - 1) * (v1 * 65536 + v2 + 1) ≤ T * 65536 + u0 := by
      have : (q - 1) * (v1 * 65536 + v2 + 1) = q * (v1 * 65536 + v2) + q - (v1 * 65536 + v2) - 1 := by grind
      omega
    have h3 := Int.mul_le_mul_of_nonneg_right h2 (Int.le_of_lt hP)
    rw [Int.mul_assoc] at h3
    omega
  · subst h0
    have h1 : 0 ≤ V := by
      rw [hV]
      have := Int.mul_nonneg (show 0 ≤ v1 * 65536 + v2 by omega) (Int.le_of_lt hP)
      omega
    have h2 : 0 ≤ U := by
      rw [hU]
      have := Int.mul_nonneg hT (Int.le_of_lt hP)
      omega
    omega
theorem dig_loop {fu C j n : Nat} {σ : rr_M} {d g : Nat → Int64} (hfu : 400 < fu) (hm : mrf C σ) (hjn : j + n < 401) (hn : n < 201) (hn1 : 1 ≤ n) (hd : mg_l σ (C + 5) = d) (hdk : qok d 0 n) (hg : qok g j (n + 1)) (hv1 : 1 ≤ (d (n - 1)).toInt) (hUV : qv g j (n + 1) < 65536 * qv d 0 n) :
    ∀ (f : Nat) (q r : Int64), 65537 ≤ f + r.toInt → 0 ≤ q.toInt → q.toInt ≤ 200000 → 0 ≤ r.toInt → r.toInt < 65536 → q.toInt * (d (n - 1)).toInt + r.toInt = (g (j + n)).toInt * 65536 + (g (j + (n - 1))).toInt → qv g j (n + 1) < (q.toInt + 1) * qv d 0 n →
      wq (l_Mod_digit_48 fu (nm C) C (nI j) (nI n) f q r (mw_l σ (C + 4) g) (fun v5_48 σ_49 => dgT fu (nm C) C (nI j) (nI n) v5_48 σ_49)) (dgP σ C j n d g)
  | 0, q, r, h1, _, _, _, h2, _, _ => by omega
  | f + 1, q, r, h1, hq1, hq2, hr1, hr2, heq, hUq => by
    have e65 : (65536 : Int64).toInt = 65536 := rfl
    have hV := qok_lt hdk
    have hUn := qok_lt hg
    have hi5 : n - 1 < 201 := by omega
    have em1 : nI n - 1 = nI (n - 1) := nI_sub (b := 1) hn1
    have m1 : rr_n (nI (n - 1)) = n - 1 := n_nI (by omega)
    have r5 : mg_l (mw_l σ (C + 4) g) (C + 5) = d := by rw [mw_gn _ (by omega), hd]
    have hv := hdk (n - 1) (by omega)
    rw [Nat.zero_add] at hv
    have hgn := hg n (by omega)
    have hgn1 := hg (n - 1) (by omega)
    -- the numbers cut at their third digit
    have hcut : 2 ≤ n → ∃ L L' P : Int, 0 < P ∧ qv g j (n + 1) = L + (((g (j + n)).toInt * 65536 + (g (j + (n - 1))).toInt) * 65536 + (g (j + (n - 2))).toInt) * P ∧ qv d 0 n = L' + ((d (n - 1)).toInt * 65536 + (d (n - 2)).toInt) * P ∧ 0 ≤ L ∧ L < P ∧ 0 ≤ L' ∧ L' < P := by
      intro h2
      obtain ⟨k, rfl⟩ : ∃ k, n = k + 2 := ⟨n - 2, by omega⟩
      have a1 := qok_lt (g := g) (o := j) (n := k) (fun i hi => hg i (by omega))
      have a2 := qok_lt (g := d) (o := 0) (n := k) (fun i hi => hdk i (by omega))
      refine ⟨qv g j k, qv d 0 k, 65536 ^ k, pL_pos k, ?_, ?_, a1.1, a1.2, a2.1, a2.2⟩
      · simp only [qv, show k + 2 - 1 = k + 1 by omega, show k + 2 - 2 = k by omega, pL_s]
        generalize (65536 : Int) ^ k = P
        rw [show j + (k + 2) = j + (k + 1 + 1) by omega]
        grind
      · simp only [qv, show k + 2 - 1 = k + 1 by omega, show k + 2 - 2 = k by omega, pL_s, Nat.zero_add]
        generalize (65536 : Int) ^ k = P
        grind
    have hone : n = 1 → qv g j (n + 1) = (g (j + n)).toInt * 65536 + (g (j + (n - 1))).toInt ∧ qv d 0 n = (d (n - 1)).toInt := by
      intro h
      subst h
      simp [qv]
      omega
    generalize hTT : (g (j + n)).toInt * 65536 + (g (j + (n - 1))).toInt = T at *
    have hT : T < 65536 * ((d (n - 1)).toInt + 1) := by
      rcases Nat.lt_or_ge n 2 with h | h
      · obtain ⟨a1, a2⟩ := hone (by omega)
        rw [a1, a2] at hUV
        omega
      · obtain ⟨L, L', P, hP, a1, a2, b1, b2, b3, b4⟩ := hcut h
        have hv2 := hdk (n - 2) (by omega)
        rw [Nat.zero_add] at hv2
        have hu0 := hg (n - 2) (by omega)
        apply Int.not_le.mp
        intro h5
        have h6 : 65536 * (((d (n - 1)).toInt * 65536 + (d (n - 2)).toInt + 1) * P) ≤ (T * 65536 + (g (j + (n - 2))).toInt) * P := by
          rw [← Int.mul_assoc]
          apply Int.mul_le_mul_of_nonneg_right _ (Int.le_of_lt hP)
          omega
        rw [Int.add_mul _ 1 P, Int.one_mul] at h6
        omega
    -- a guess that is good enough
    have good : ∀ (q' : Int64), 0 ≤ q'.toInt → q'.toInt < 65536 → qv g j (n + 1) < (q'.toInt + 1) * qv d 0 n → (n = 1 → q'.toInt * (d (n - 1)).toInt ≤ T) → (2 ≤ n → q'.toInt * ((d (n - 1)).toInt * 65536 + (d (n - 2)).toInt) ≤ T * 65536 + (g (j + (n - 2))).toInt) → wq (dgT fu (nm C) C (nI j) (nI n) q' (mw_l σ (C + 4) g)) (dgP σ C j n d g) := by
      intro q' a1 a2 a3 a4 a5
      refine dgT_ok hfu hm hjn hn hd hdk hg a1 a2 ?_ a3
      rcases Nat.lt_or_ge n 2 with h | h
      · obtain ⟨b1, b2⟩ := hone (by omega)
        have := a4 (by omega)
        rw [Int.sub_mul, Int.one_mul, b1, b2]
        omega
      · obtain ⟨L, L', P, hP, b1, b2, b3, b4, b5, b6⟩ := hcut h
        have hv2 := hdk (n - 2) (by omega)
        rw [Nat.zero_add] at hv2
        have hu0 := hg (n - 2) (by omega)
        exact gs_hi hP b1 b2 b3 b6 b5 a1 a2 hv1 hv2.1 (by omega) (a5 h)
    -- one less
    have less : qv g j (n + 1) < q.toInt * qv d 0 n → 1 ≤ q.toInt → (q.toInt ≤ 65536 ∨ r.toInt + (d (n - 1)).toInt < 65536) →
        wq (if rr_ix (nI (n - 1)) (nm C (C + 5)) = true then if r + d (n - 1) < 65536 then l_Mod_digit_48 fu (nm C) C (nI j) (nI n) f (q - 1) (r + d (n - 1)) (mw_l σ (C + 4) g) (fun v5_48 σ_49 => dgT fu (nm C) C (nI j) (nI n) v5_48 σ_49) else dgT fu (nm C) C (nI j) (nI n) (q - 1) (mw_l σ (C + 4) g) else none) (dgP σ C j n d g) := by
      intro a1 a2 a3
      have e5 : (q - 1).toInt = q.toInt - 1 := j_sub (x := q) (y := 1) (by rw [show (1 : Int64).toInt = 1 from rfl]; omega) (by rw [show (1 : Int64).toInt = 1 from rfl]; omega)
      have e6 : (r + d (n - 1)).toInt = r.toInt + (d (n - 1)).toInt := j_add (by omega) (by omega)
      have heq2 : (q - 1).toInt * (d (n - 1)).toInt + (r + d (n - 1)).toInt = T := by
        rw [e5, e6, Int.sub_mul]
        omega
      refine wq_ip (ix5 hi5) ?_
      by_cases hlt : r + d (n - 1) < 65536
      · rw [if_pos hlt]
        rw [Int64.lt_iff_toInt_lt, e65, e6] at hlt
        refine dig_loop hfu hm hjn hn hn1 hd hdk hg hv1 hUV f _ _ (by omega) (by omega) (by omega) (by omega) (by omega) ?_ ?_
        · rw [hTT]; exact heq2
        · rw [e5, Int.sub_add_cancel]; exact a1
      · rw [if_neg hlt]
        rw [Int64.lt_iff_toInt_lt, e65, e6] at hlt
        have hq9 : q.toInt ≤ 65536 := by omega
        refine good _ (by omega) (by omega) (by rw [e5, Int.sub_add_cancel]; exact a1) ?_ ?_
        · intro _
          omega
        · intro h
          have hv2 := hdk (n - 2) (by omega)
          rw [Nat.zero_add] at hv2
          have hu0 := hg (n - 2) (by omega)
          have h7 : (q - 1).toInt * (d (n - 2)).toInt ≤ 65535 * 65535 := Int.mul_le_mul (by omega) (by omega) hv2.1 (by omega)
          have h8 : (q - 1).toInt * ((d (n - 1)).toInt * 65536 + (d (n - 2)).toInt) = (q - 1).toInt * (d (n - 1)).toInt * 65536 + (q - 1).toInt * (d (n - 2)).toInt := by grind
          rw [h8]
          omega
    rw [l_Mod_digit_48]
    dsimp only [rr_lt, rr_jn]
    simp only [mw_r, mrf_5 hm, mrf_4 hm, em1, m1, r5, mw_gsk]
    by_cases hq : (65536 : Int64) ≤ q
    · rw [if_pos hq]
      rw [Int64.le_iff_toInt_le, e65] at hq
      refine less ?_ (by omega) ?_
      · have := Int.mul_le_mul_of_nonneg_right hq hV.1
        omega
      · rcases Int.lt_or_le 65536 q.toInt with h | h
        · right
          have := Int.mul_le_mul_of_nonneg_right (show 65537 ≤ q.toInt by omega) hv.1
          omega
        · left; exact h
    · rw [if_neg hq]
      rw [Int64.le_iff_toInt_le, e65] at hq
      by_cases hn2 : n = 1
      · have c1 : nI n ≤ 1 := by rw [hn2]; decide
        rw [if_pos c1]
        exact good q hq1 (by omega) hUq (fun _ => by omega) (fun h => by omega)
      · have c1 : ¬ nI n ≤ 1 := nI_ge (a := 1) (by omega) (by omega)
        have em2 : nI n - 2 = nI (n - 2) := nI_sub (b := 2) (by omega)
        have em3 : nI j + nI n - 2 = nI (j + (n - 2)) := by rw [nI_add, show (2 : Int32) = nI 2 from rfl, nI_sub (by omega)]; congr 1; omega
        have m2 : rr_n (nI (n - 2)) = n - 2 := n_nI (by omega)
        have m3 : rr_n (nI (j + (n - 2))) = j + (n - 2) := n_nI (by omega)
        rw [if_neg c1, em2, em3, m2, m3]
        refine wq_ip (ix5 (by omega)) (wq_ip (ix4 (by omega)) ?_)
        have hv2 := hdk (n - 2) (by omega)
        rw [Nat.zero_add] at hv2
        have hu0 := hg (n - 2) (by omega)
        have h7 : 0 ≤ q.toInt * (d (n - 2)).toInt ∧ q.toInt * (d (n - 2)).toInt ≤ 65535 * 65535 := ⟨Int.mul_nonneg hq1 hv2.1, Int.mul_le_mul (by omega) (by omega) hv2.1 (by omega)⟩
        have s1 : (q * d (n - 2)).toInt = q.toInt * (d (n - 2)).toInt := j_mul (by omega) (by omega)
        have s2 : (r * 65536).toInt = r.toInt * 65536 := j_mul (x := r) (y := 65536) (by rw [e65]; omega) (by rw [e65]; omega)
        have s3 : (r * 65536 + g (j + (n - 2))).toInt = r.toInt * 65536 + (g (j + (n - 2))).toInt := by rw [j_add (by rw [s2]; omega) (by rw [s2]; omega), s2]
        have h8 : q.toInt * ((d (n - 1)).toInt * 65536 + (d (n - 2)).toInt) = q.toInt * (d (n - 1)).toInt * 65536 + q.toInt * (d (n - 2)).toInt := by grind
        by_cases ht : q * d (n - 2) ≤ r * 65536 + g (j + (n - 2))
        · rw [if_pos ht]
          rw [Int64.le_iff_toInt_le, s1, s3] at ht
          exact good q hq1 (by omega) hUq (fun h => absurd h hn2) (fun _ => by rw [h8]; omega)
        · rw [if_neg ht]
          rw [Int64.le_iff_toInt_le, s1, s3] at ht
          obtain ⟨L, L', P, hP, b1, b2, b3, b4, b5, b6⟩ := hcut (by omega)
          refine less (gs_lo hP b1 b2 b3 b4 b5 b6 hq1 (by rw [h8]; omega)) ?_ (Or.inl (by omega))
          apply Int.not_lt.mp
          intro h
          have : q.toInt = 0 := by omega
          rw [this] at ht
          omega
theorem f_dig_eq (fu : Nat) (N : Nat → Nat) (v0 : Nat) (v1 v2 : Int32) (σ : rr_M) : f_Mod_digit fu N v0 v1 v2 σ =
    (if rr_ix (v1 + v2) (N (mg_r σ v0 4)) then
    (if rr_ix ((v1 + v2) - 1) (N (mg_r σ v0 4)) then
    (if rr_ix (v2 - 1) (N (mg_r σ v0 5)) then
    if (mg_l σ (mg_r σ v0 5) (rr_n (v2 - 1))) = 0 then none else
    (if rr_ix (v2 - 1) (N (mg_r σ v0 5)) then
    if (mg_l σ (mg_r σ v0 5) (rr_n (v2 - 1))) = 0 then none else
    l_Mod_digit_48 fu N v0 v1 v2 fu ((((mg_l σ (mg_r σ v0 4) (rr_n (v1 + v2))) * 65536) + (mg_l σ (mg_r σ v0 4) (rr_n ((v1 + v2) - 1)))) / (mg_l σ (mg_r σ v0 5) (rr_n (v2 - 1))))
      ((((mg_l σ (mg_r σ v0 4) (rr_n (v1 + v2))) * 65536) + (mg_l σ (mg_r σ v0 4) (rr_n ((v1 + v2) - 1)))) - (((mg_l σ (mg_r σ v0 4) (rr_n (v1 + v2))) * 65536) + (mg_l σ (mg_r σ v0 4) (rr_n ((v1 + v2) - 1)))) / (mg_l σ (mg_r σ v0 5) (rr_n (v2 - 1))) * (mg_l σ (mg_r σ v0 5) (rr_n (v2 - 1)))) σ (fun a b => dgT fu N v0 v1 v2 a b) else none) else none) else none) else none) := rfl
theorem lo_digit {fu C j n : Nat} {σ : rr_M} {d g : Nat → Int64} (hfu : 70000 < fu) (hm : mrf C σ) (hjn : j + n < 401) (hn : n < 201) (hn1 : 1 ≤ n) (hd : mg_l σ (C + 5) = d) (hdk : qok d 0 n) (hg : qok g j (n + 1)) (hv1 : 1 ≤ (d (n - 1)).toInt) (hUV : qv g j (n + 1) < 65536 * qv d 0 n) :
    wq (f_Mod_digit fu (nm C) C (nI j) (nI n) (mw_l σ (C + 4) g)) (dgP σ C j n d g) := by
  have e65 : (65536 : Int64).toInt = 65536 := rfl
  have em1 : nI n - 1 = nI (n - 1) := nI_sub (b := 1) hn1
  have em3 : nI j + nI n - 1 = nI (j + (n - 1)) := by rw [nI_add, show (1 : Int32) = nI 1 from rfl, nI_sub (by omega)]; congr 1; omega
  have m0 : rr_n (nI (j + n)) = j + n := n_nI (by omega)
  have m1 : rr_n (nI (n - 1)) = n - 1 := n_nI (by omega)
  have m3 : rr_n (nI (j + (n - 1))) = j + (n - 1) := n_nI (by omega)
  have r5 : mg_l (mw_l σ (C + 4) g) (C + 5) = d := by rw [mw_gn _ (by omega), hd]
  have hv := hdk (n - 1) (by omega)
  rw [Nat.zero_add] at hv
  have hgn := hg n (by omega)
  have hgn1 := hg (n - 1) (by omega)
  have hV := qok_lt hdk
  have hdn : ¬ d (n - 1) = 0 := fun h => by rw [h] at hv1; exact absurd hv1 (by decide)
  have s1 : (g (j + n) * 65536).toInt = (g (j + n)).toInt * 65536 := j_mul (x := g (j + n)) (y := 65536) (by rw [e65]; omega) (by rw [e65]; omega)
  have s2 : (g (j + n) * 65536 + g (j + (n - 1))).toInt = (g (j + n)).toInt * 65536 + (g (j + (n - 1))).toInt := by rw [j_add (by rw [s1]; omega) (by rw [s1]; omega), s1]
  rw [nI_add] at em3
  rw [f_dig_eq, nI_add]
  simp only [mw_r, mrf_4 hm, mrf_5 hm, em1, em3, m0, m1, m3, ix4 (C := C) (show j + n < 401 by omega), ix4 (C := C) (show j + (n - 1) < 401 by omega), ix5 (C := C) (show n - 1 < 201 by omega), if_true, mw_gsk, r5, if_neg hdn]
  generalize hTT : g (j + n) * 65536 + g (j + (n - 1)) = T at *
  have hT0 : 0 ≤ T.toInt := by omega
  have q1 : (T / d (n - 1)).toInt = T.toInt / (d (n - 1)).toInt := by
    rw [Jvm.Kit.i64_div (by omega), Int.tdiv_eq_ediv_of_nonneg hT0]
  have q2 : (T - T / d (n - 1) * d (n - 1)).toInt = T.toInt % (d (n - 1)).toInt := Jvm.Kit.i64_rem_nonneg hT0
  have h3 := Int.emod_add_mul_ediv T.toInt (d (n - 1)).toInt
  have h4 := Int.emod_nonneg T.toInt (show (d (n - 1)).toInt ≠ 0 by omega)
  have h5 := Int.emod_lt_of_pos T.toInt (show 0 < (d (n - 1)).toInt by omega)
  have h6 : 0 ≤ T.toInt / (d (n - 1)).toInt := Int.ediv_nonneg hT0 hv.1
  -- the numbers cut behind their highest digit
  have hUn : ∃ L L' P : Int, 0 < P ∧ qv g j (n + 1) = L + T.toInt * P ∧ qv d 0 n = L' + (d (n - 1)).toInt * P ∧ 0 ≤ L ∧ L < P ∧ 0 ≤ L' ∧ L' < P := by
    obtain ⟨k, rfl⟩ : ∃ k, n = k + 1 := ⟨n - 1, by omega⟩
    have a1 := qok_lt (g := g) (o := j) (n := k) (fun i hi => hg i (by omega))
    have a2 := qok_lt (g := d) (o := 0) (n := k) (fun i hi => hdk i (by omega))
    refine ⟨qv g j k, qv d 0 k, 65536 ^ k, pL_pos k, ?_, ?_, a1.1, a1.2, a2.1, a2.2⟩
    · rw [s2]
      simp only [qv, Nat.add_sub_cancel, pL_s]
      generalize (65536 : Int) ^ k = P
      grind
    · simp only [qv, Nat.add_sub_cancel, Nat.zero_add]
  obtain ⟨L, L', P, hP, b1, b2, b3, b4, b5, b6⟩ := hUn
  generalize T / d (n - 1) = q at *
  generalize T - q * d (n - 1) = r at *
  generalize hv1' : (d (n - 1)).toInt = v at *
  rw [← q1] at h3 h6
  rw [← q2] at h3 h4 h5
  have h7 : T.toInt < 65536 * (v + 1) := by
    apply Int.not_le.mp
    intro h
    have := Int.mul_le_mul_of_nonneg_right h (Int.le_of_lt hP)
    have e9 : 65536 * (v + 1) * P = 65536 * (v * P) + 65536 * P := by grind
    omega
  have h8 : q.toInt ≤ 200000 := by
    apply Int.not_lt.mp
    intro h
    have h9 := Int.mul_le_mul_of_nonneg_left (show 200000 ≤ q.toInt by omega) (show 0 ≤ v by omega)
    omega
  refine dig_loop (show 400 < fu by omega) hm hjn hn hn1 hd hdk hg (by omega) hUV fu q r (by omega) h6 h8 (by omega) (by omega) ?_ ?_
  · rw [hv1', ← s2, ← h3, Int.mul_comm q.toInt v]
    omega
  · have h9 : T.toInt + 1 ≤ (q.toInt + 1) * v := by rw [Int.add_mul, Int.one_mul, Int.mul_comm q.toInt v]; omega
    have h10 := Int.mul_le_mul_of_nonneg_right h9 (Int.le_of_lt hP)
    have h11 : (q.toInt + 1) * qv d 0 n = (q.toInt + 1) * L' + (q.toInt + 1) * v * P := by rw [b2]; grind
    have h12 := Int.mul_nonneg (show 0 ≤ q.toInt + 1 by omega) b5
    rw [h11, b1]
    rw [Int.add_mul, Int.one_mul] at h10
    omega
