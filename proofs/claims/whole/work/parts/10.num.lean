def l_Num_degreeOf_5 (fu : Nat) (N : Nat → Nat) (v0 : Nat) (σ : rr_M) : Nat → Int32 → (Int32 → Option (Int32)) → Option (Int32)
  | 0, _, _ => none
  | n + 1, v1, kk =>
    if v1 < 0 then (kk v1) else
    (if rr_ix v1 (N v0) then
    if (mg_l σ v0 (rr_n v1)) = 0 then (rr_lt (v1 + (-1)) fun v1_4 =>
    l_Num_degreeOf_5 fu N v0 σ n v1_4 kk) else
    kk v1 else none)
theorem lw_Num_degreeOf_5 {X : rr_X} {G : rr_G} {l : Launch} {fu : Nat} (hG : G.2.2.1.Nodup) (hll : X.2.1 = l) (C : rr_C X G cX3_degreeOf 2 "RootRows$Numbers" (some .int) 0 0) {r : Int32}  (σ : rr_M) (v0 : Nat) (m_v0 : v0 ∈ G.2.2.1) (k_v0 : G.2.2.2.1 v0 = 12) : ∀ (n : Nat) (v1 : Int32) (K : Int32 → Option (Int32)), l_Num_degreeOf_5 fu G.2.2.2.2 v0 σ n v1 K = some r → (∀ (w1 : Int32), K w1 = some r → rr_J X G 2 (rr_E X G σ (some (.int r))) σ 23 [(1, .int w1)] []) → rr_J X G 2 (rr_E X G σ (some (.int r))) σ 5 [(0, .ref v0), (1, .int v1)] [] := by
  intro n
  induction n with
  | zero =>
    intro v1 K hm
    cases hm
  | succ n ih =>
    intro v1 K hm hk
    unfold l_Num_degreeOf_5 at hm
    refine rx_iload_n C 1 dX3_degreeOf_5 rfl ?_
    refine rx_if_lt (tgt := 23) C dX3_degreeOf_6 (by decide) hm (fun h_2 hm => ?_) (fun h_2 hm => ?_)
    · refine rx_lv [1] rfl ?_
      exact hk _ hm
    refine rx_aload_n C 0 dX3_degreeOf_9 rfl ?_
    refine rx_iload_n C 1 dX3_degreeOf_10 rfl ?_
    refine rx_lald C m_v0 k_v0 dX3_degreeOf_11 hm (fun hm => ?_)
    refine rx_lconst (v := 0) C dX3_degreeOf_12 rfl ?_
    refine rx_lcmp_ne (tgt := 23) C dX3_degreeOf_13 dX3_degreeOf_14 (by decide) hm (fun h_3 hm => ?_) (fun h_3 hm => ?_)
    · refine rx_lv [1] rfl ?_
      exact hk _ hm
    refine rx_iinc (d := (-1)) (lv1 := fun v => [(1, .int v), (0, .ref v0)]) C 1 dX3_degreeOf_17 hm rfl rfl (by decide) (fun _ => rfl) (fun v1_4 hm => ?_)
    refine rx_goto (tgt := 5) C dX3_degreeOf_20 (by decide) ?_
    refine rx_lv [1, 0] rfl ?_
    exact ih _ _ hm hk
def f_Num_degreeOf (fu : Nat) (N : Nat → Nat) (v0 : Nat) (σ : rr_M) : Option (Int32) :=
    rr_lt ((nI (N v0)) - 1) fun v1_1 =>
    l_Num_degreeOf_5 fu N v0 σ fu v1_1 (fun v1_5 =>
    some (v1_5))
theorem c_Num_degreeOf (l : Launch) (G : rr_G) (hG : G.2.2.1.Nodup) (fu : Nat) (v0 : Nat) (m_v0 : v0 ∈ G.2.2.1) (k_v0 : G.2.2.2.1 v0 = 12) (σ : rr_M) (r : Int32) (hm : f_Num_degreeOf fu G.2.2.2.2 v0 σ = some r) : rr_Met l G yX3_degreeOf cX3_degreeOf 2 (some .int) 0 0 [.ref v0] σ σ (some (.int r)) := by
  refine rr_enter (lv0 := [(0, .ref v0)]) hp_Num_degreeOf hG (Nat.le_of_ble_eq_true rfl) rfl (fun X hll C => ?_)
  replace C : rr_C X G cX3_degreeOf 2 "RootRows$Numbers" (some .int) 0 0 := C
  unfold f_Num_degreeOf at hm
  refine rx_aload_n C 0 dX3_degreeOf_0 rfl ?_
  refine rx_alen C m_v0 k_v0 (by decide) dX3_degreeOf_1 ?_
  refine rx_iconst (v := 1) C dX3_degreeOf_2 rfl ?_
  refine rx_isub C dX3_degreeOf_3 ?_
  refine rx_nmi hm (fun v1_1 ev1_1 hm => ?_)
  refine rx_istore_n (lv1 := [(1, .int v1_1), (0, .ref v0)]) C dX3_degreeOf_4 (by decide) rfl ?_
  refine rx_lv [1, 0] rfl ?_
  refine lw_Num_degreeOf_5 hG hll C σ v0 m_v0 k_v0 _ _ _ hm (fun v1_5 hm => ?_)
  refine rx_iload_n C 0 dX3_degreeOf_23 rfl ?_
  exact rx_iretR C dX3_degreeOf_24 hm
def l_Num_setSlope_2 (fu : Nat) (N : Nat → Nat) (v0 : Nat) (v1 : Nat) : Nat → Int32 → rr_M → (rr_M → Option (Unit × rr_M)) → Option (Unit × rr_M)
  | 0, _, _, _ => none
  | n + 1, v2, σ, kk =>
    if (nI (N v0)) ≤ v2 then (kk σ) else
    rr_jn (fun (t_2 : Int64) =>
    (if rr_ix v2 (N v0) then rr_lt (ms_l σ v0 (rr_n v2) t_2) fun σ_3 =>
    rr_lt (v2 + 1) fun v2_4 =>
    l_Num_setSlope_2 fu N v0 v1 n v2_4 σ_3 kk else none)) fun j32 =>
    if (nI (N v1)) ≤ (v2 + 1) then (j32 0) else
    (if rr_ix (v2 + 1) (N v1) then
    j32 ((mg_l σ v1 (rr_n (v2 + 1))) * ((v2 + 1).toInt64)) else none)
theorem lw_Num_setSlope_2 {X : rr_X} {G : rr_G} {l : Launch} {fu : Nat} (hG : G.2.2.1.Nodup) (hll : X.2.1 = l) (C : rr_C X G cX3_setSlope 3 "RootRows$Numbers" none 0 0) {σr : rr_M} (v0 : Nat) (m_v0 : v0 ∈ G.2.2.1) (k_v0 : G.2.2.2.1 v0 = 12) (v1 : Nat) (m_v1 : v1 ∈ G.2.2.1) (k_v1 : G.2.2.2.1 v1 = 12) : ∀ (n : Nat) (v2 : Int32) (σ : rr_M) (K : rr_M → Option (Unit × rr_M)), l_Num_setSlope_2 fu G.2.2.2.2 v0 v1 n v2 σ K = some ((), σr) → (∀ (σ1 : rr_M), K σ1 = some ((), σr) → rr_J X G 3 (rr_E X G σr none) σ1 39 [] []) → rr_J X G 3 (rr_E X G σr none) σ 2 [(0, .ref v0), (1, .ref v1), (2, .int v2)] [] := by
  intro n
  induction n with
  | zero =>
    intro v2 σ K hm
    cases hm
  | succ n ih =>
    intro v2 σ K hm hk
    unfold l_Num_setSlope_2 at hm
    refine rx_iload_n C 2 dX3_setSlope_2 rfl ?_
    refine rx_aload_n C 0 dX3_setSlope_3 rfl ?_
    refine rx_alen C m_v0 k_v0 (by decide) dX3_setSlope_4 ?_
    refine rx_icmp_ge (tgt := 39) C dX3_setSlope_5 (by decide) hm (fun h_1 hm => ?_) (fun h_1 hm => ?_)
    · refine rx_lv [] rfl ?_
      exact hk _ hm
    refine rx_aload_n C 0 dX3_setSlope_8 rfl ?_
    refine rx_iload_n C 2 dX3_setSlope_9 rfl ?_
    refine rx_iload_n C 2 dX3_setSlope_10 rfl ?_
    refine rx_iconst (v := 1) C dX3_setSlope_11 rfl ?_
    refine rx_iadd C dX3_setSlope_12 ?_
    refine rx_aload_n C 1 dX3_setSlope_13 rfl ?_
    refine rx_alen C m_v1 k_v1 (by decide) dX3_setSlope_14 ?_
    refine rr_jn1 hm (fun j32 ej32 hm => ?_)
    have hj32 : ∀ (t_2 : Int64), j32 t_2 = some ((), σr) → rr_J X G 3 (rr_E X G σr none) σ 32 [(0, .ref v0), (1, .ref v1), (2, .int v2)] [.long t_2, .int v2, .ref v0] := by
      intro t_2 hm
      replace hm := ej32 _ hm
      refine rx_last C m_v0 k_v0 dX3_setSlope_32 hm (fun σ_3 hm => ?_)
      refine rx_iinc (d := 1) (lv1 := fun v => [(2, .int v), (0, .ref v0), (1, .ref v1)]) C 2 dX3_setSlope_33 hm rfl rfl (by decide) (fun _ => rfl) (fun v2_4 hm => ?_)
      refine rx_goto (tgt := 2) C dX3_setSlope_36 (by decide) ?_
      refine rx_lv [1, 2, 0] rfl ?_
      exact ih _ _ _ hm hk
    refine rx_icmp_ge (tgt := 31) C dX3_setSlope_15 (by decide) hm (fun h_5 hm => ?_) (fun h_5 hm => ?_)
    · refine rx_lconst (v := 0) C dX3_setSlope_31 rfl ?_
      refine rx_lv [0, 1, 2] rfl ?_
      exact hj32 _ hm
    refine rx_aload_n C 1 dX3_setSlope_18 rfl ?_
    refine rx_iload_n C 2 dX3_setSlope_19 rfl ?_
    refine rx_iconst (v := 1) C dX3_setSlope_20 rfl ?_
    refine rx_iadd C dX3_setSlope_21 ?_
    refine rx_lald C m_v1 k_v1 dX3_setSlope_22 hm (fun hm => ?_)
    refine rx_iload_n C 2 dX3_setSlope_23 rfl ?_
    refine rx_iconst (v := 1) C dX3_setSlope_24 rfl ?_
    refine rx_iadd C dX3_setSlope_25 ?_
    refine rx_i2l C dX3_setSlope_26 ?_
    refine rx_lmul C dX3_setSlope_27 ?_
    refine rx_goto (tgt := 32) C dX3_setSlope_28 (by decide) ?_
    refine rx_lv [0, 1, 2] rfl ?_
    exact hj32 _ hm
def f_Num_setSlope (fu : Nat) (N : Nat → Nat) (v0 : Nat) (v1 : Nat) (σ : rr_M) : Option (Unit × rr_M) :=
    l_Num_setSlope_2 fu N v0 v1 fu 0 σ (fun σ_6 =>
    some ((), σ_6))
theorem c_Num_setSlope (l : Launch) (G : rr_G) (hG : G.2.2.1.Nodup) (fu : Nat) (v0 : Nat) (m_v0 : v0 ∈ G.2.2.1) (k_v0 : G.2.2.2.1 v0 = 12) (v1 : Nat) (m_v1 : v1 ∈ G.2.2.1) (k_v1 : G.2.2.2.1 v1 = 12) (σ : rr_M) (σr : rr_M) (hm : f_Num_setSlope fu G.2.2.2.2 v0 v1 σ = some ((), σr)) : rr_Met l G yX3_setSlope cX3_setSlope 3 none 0 0 [.ref v0, .ref v1] σ σr none := by
  refine rr_enter (lv0 := [(0, .ref v0), (1, .ref v1)]) hp_Num_setSlope hG (Nat.le_of_ble_eq_true rfl) rfl (fun X hll C => ?_)
  replace C : rr_C X G cX3_setSlope 3 "RootRows$Numbers" none 0 0 := C
  unfold f_Num_setSlope at hm
  refine rx_iconst (v := 0) C dX3_setSlope_0 rfl ?_
  refine rx_istore_n (lv1 := [(2, .int 0), (0, .ref v0), (1, .ref v1)]) C dX3_setSlope_1 (by decide) rfl ?_
  refine rx_lv [1, 2, 0] rfl ?_
  refine lw_Num_setSlope_2 hG hll C v0 m_v0 k_v0 v1 m_v1 k_v1 _ _ _ _ hm (fun σ_6 hm => ?_)
  exact rx_vret C dX3_setSlope_39 hm
def l_Num_commonDivisor_15 (fu : Nat)  : Nat → Int64 → Int64 → Int32 → (Int64 → Option (Int64)) → Option (Int64)
  | 0, _, _, _, _ => none
  | n + 1, v4, v6, v8, kk =>
    if v6 = 0 then (kk v4) else
    if 100 ≤ v8 then (kk v4) else
    if v6 = 0 then none else
    rr_lt (v4 - v4 / v6 * v6) fun v9_6 =>
    rr_lt (v8 + 1) fun v8_7 =>
    l_Num_commonDivisor_15 fu n v6 v9_6 v8_7 kk
theorem lw_Num_commonDivisor_15 {X : rr_X} {G : rr_G} {l : Launch} {fu : Nat} (hG : G.2.2.1.Nodup) (hll : X.2.1 = l) (C : rr_C X G cX3_commonDivisor 11 "RootRows$Numbers" (some .long) 1 23) {r : Int64}  (σ : rr_M) : ∀ (n : Nat) (v4 : Int64) (v6 : Int64) (v8 : Int32) (K : Int64 → Option (Int64)), l_Num_commonDivisor_15 fu n v4 v6 v8 K = some r → (∀ (w4 : Int64), K w4 = some r → rr_J X G 11 (rr_E X G σ (some (.long r))) σ 50 [(4, .long w4)] []) → rr_J X G 11 (rr_E X G σ (some (.long r))) σ 15 [(4, .long v4), (6, .long v6), (8, .int v8)] [] := by
  intro n
  induction n with
  | zero =>
    intro v4 v6 v8 K hm
    cases hm
  | succ n ih =>
    intro v4 v6 v8 K hm hk
    unfold l_Num_commonDivisor_15 at hm
    refine rx_lload C 1 dX3_commonDivisor_15 rfl ?_
    refine rx_lconst (v := 0) C dX3_commonDivisor_17 rfl ?_
    refine rx_lcmp_eq (tgt := 50) C dX3_commonDivisor_18 dX3_commonDivisor_19 (by decide) hm (fun h_3 hm => ?_) (fun h_3 hm => ?_)
    · refine rx_lv [0] rfl ?_
      exact hk _ hm
    refine rx_iload C 2 dX3_commonDivisor_22 rfl ?_
    refine rx_bipush (v := 100) C dX3_commonDivisor_24 rfl ?_
    refine rx_icmp_ge (tgt := 50) C dX3_commonDivisor_26 (by decide) hm (fun h_4 hm => ?_) (fun h_4 hm => ?_)
    · refine rx_lv [0] rfl ?_
      exact hk _ hm
    refine rx_lload C 0 dX3_commonDivisor_29 rfl ?_
    refine rx_lload C 1 dX3_commonDivisor_31 rfl ?_
    obtain ⟨hz_5, hm⟩ := rr_gzl hm
    refine rx_lrem C dX3_commonDivisor_33 hz_5 ?_
    refine rx_nml hm (fun v9_6 ev9_6 hm => ?_)
    refine rx_lstore (lv1 := [(9, .long v9_6), (4, .long v4), (6, .long v6), (8, .int v8)]) C dX3_commonDivisor_34 (by decide) rfl ?_
    refine rx_lload C 2 dX3_commonDivisor_36 rfl ?_
    refine rx_lstore (lv1 := [(4, .long v6), (9, .long v9_6), (6, .long v6), (8, .int v8)]) C dX3_commonDivisor_38 (by decide) rfl ?_
    refine rx_lload C 1 dX3_commonDivisor_40 rfl ?_
    refine rx_lstore (lv1 := [(6, .long v9_6), (4, .long v6), (9, .long v9_6), (8, .int v8)]) C dX3_commonDivisor_42 (by decide) rfl ?_
    refine rx_iinc (d := 1) (lv1 := fun v => [(8, .int v), (6, .long v9_6), (4, .long v6), (9, .long v9_6)]) C 3 dX3_commonDivisor_44 hm rfl rfl (by decide) (fun _ => rfl) (fun v8_7 hm => ?_)
    refine rx_goto (tgt := 15) C dX3_commonDivisor_47 (by decide) ?_
    refine rx_lv [2, 1, 0] rfl ?_
    exact ih _ _ _ _ hm hk
def f_Num_commonDivisor (fu : Nat) (v0 : Int64) (v2 : Int64) : Option (Int64) :=
    rr_lt (rr_abl v0) fun v4_1 =>
    rr_lt (rr_abl v2) fun v6_2 =>
    l_Num_commonDivisor_15 fu fu v4_1 v6_2 0 (fun v4_8 =>
    some (v4_8))
theorem c_Num_commonDivisor (l : Launch) (G : rr_G) (hG : G.2.2.1.Nodup) (fu : Nat) (v0 : Int64) (v2 : Int64) (σ : rr_M) (r : Int64) (hm : f_Num_commonDivisor fu v0 v2 = some r) : rr_Met l G yX3_commonDivisor cX3_commonDivisor 11 (some .long) 1 23 [.long v0, .long v2] σ σ (some (.long r)) := by
  refine rr_enter (lv0 := [(0, .long v0), (2, .long v2)]) hp_Num_commonDivisor hG (Nat.le_of_ble_eq_true rfl) rfl (fun X hll C => ?_)
  replace C : rr_C X G cX3_commonDivisor 11 "RootRows$Numbers" (some .long) 1 23 := C
  unfold f_Num_commonDivisor at hm
  refine rx_lload_n C 0 dX3_commonDivisor_0 rfl ?_
  refine rx_mabsl (rest := []) C q_658 (by decide) (by decide) (Nat.le_of_ble_eq_true rfl) dX3_commonDivisor_1 ?_
  refine rx_nml hm (fun v4_1 ev4_1 hm => ?_)
  refine rx_lstore (lv1 := [(4, .long v4_1), (0, .long v0), (2, .long v2)]) C dX3_commonDivisor_4 (by decide) rfl ?_
  refine rx_lload_n C 2 dX3_commonDivisor_6 rfl ?_
  refine rx_mabsl (rest := []) C q_658 (by decide) (by decide) (Nat.le_of_ble_eq_true rfl) dX3_commonDivisor_7 ?_
  refine rx_nml hm (fun v6_2 ev6_2 hm => ?_)
  refine rx_lstore (lv1 := [(6, .long v6_2), (4, .long v4_1), (0, .long v0), (2, .long v2)]) C dX3_commonDivisor_10 (by decide) rfl ?_
  refine rx_iconst (v := 0) C dX3_commonDivisor_12 rfl ?_
  refine rx_istore (lv1 := [(8, .int 0), (6, .long v6_2), (4, .long v4_1), (0, .long v0), (2, .long v2)]) C dX3_commonDivisor_13 (by decide) rfl ?_
  refine rx_lv [2, 1, 0] rfl ?_
  refine lw_Num_commonDivisor_15 hG hll C σ _ _ _ _ _ hm (fun v4_8 hm => ?_)
  refine rx_lload C 0 dX3_commonDivisor_50 rfl ?_
  exact rx_lretR C dX3_commonDivisor_52 hm
def l_Num_makePrimitive_4 (fu : Nat) (N : Nat → Nat) (v0 : Nat) (σ : rr_M) : Nat → Int64 → Int32 → (Int64 → Option (Unit × rr_M)) → Option (Unit × rr_M)
  | 0, _, _, _ => none
  | n + 1, v1, v3, kk =>
    if (nI (N v0)) ≤ v3 then (kk v1) else
    (if rr_ix v3 (N v0) then
    Option.bind (f_Num_commonDivisor fu v1 (mg_l σ v0 (rr_n v3))) fun r_2 =>
    rr_lt (v3 + 1) fun v3_4 =>
    l_Num_makePrimitive_4 fu N v0 σ n r_2 v3_4 kk else none)
theorem lw_Num_makePrimitive_4 {X : rr_X} {G : rr_G} {l : Launch} {fu : Nat} (hG : G.2.2.1.Nodup) (hll : X.2.1 = l) (C : rr_C X G cX3_makePrimitive 4 "RootRows$Numbers" none 2 53) {σr : rr_M} (σ : rr_M) (v0 : Nat) (m_v0 : v0 ∈ G.2.2.1) (k_v0 : G.2.2.2.1 v0 = 12) : ∀ (n : Nat) (v1 : Int64) (v3 : Int32) (K : Int64 → Option (Unit × rr_M)), l_Num_makePrimitive_4 fu G.2.2.2.2 v0 σ n v1 v3 K = some ((), σr) → (∀ (w1 : Int64), K w1 = some ((), σr) → rr_J X G 4 (rr_E X G σr none) σ 24 [(0, .ref v0), (1, .long w1)] []) → rr_J X G 4 (rr_E X G σr none) σ 4 [(0, .ref v0), (1, .long v1), (3, .int v3)] [] := by
  intro n
  induction n with
  | zero =>
    intro v1 v3 K hm
    cases hm
  | succ n ih =>
    intro v1 v3 K hm hk
    unfold l_Num_makePrimitive_4 at hm
    refine rx_iload_n C 2 dX3_makePrimitive_4 rfl ?_
    refine rx_aload_n C 0 dX3_makePrimitive_5 rfl ?_
    refine rx_alen C m_v0 k_v0 (by decide) dX3_makePrimitive_6 ?_
    refine rx_icmp_ge (tgt := 24) C dX3_makePrimitive_7 (by decide) hm (fun h_1 hm => ?_) (fun h_1 hm => ?_)
    · refine rx_lv [0, 1] rfl ?_
      exact hk _ hm
    refine rx_lload_n C 1 dX3_makePrimitive_10 rfl ?_
    refine rx_aload_n C 0 dX3_makePrimitive_11 rfl ?_
    refine rx_iload_n C 2 dX3_makePrimitive_12 rfl ?_
    refine rx_lald C m_v0 k_v0 dX3_makePrimitive_13 hm (fun hm => ?_)
    obtain ⟨r_2, hc_3, hm⟩ := rr_b0_some hm
    refine rr_callS (rest := []) (st1 := [.long r_2]) C hll (c_Num_commonDivisor l G hG fu v1 (mg_l σ v0 (rr_n v3)) σ _ hc_3) q_655 q_656 q_12 q_657 hd_Num_commonDivisor ⟨by decide, by decide⟩ rfl rfl (Nat.le_of_ble_eq_true rfl) rfl dX3_makePrimitive_14 ?_
    refine rx_lstore_n (lv1 := [(1, .long r_2), (0, .ref v0), (3, .int v3)]) C dX3_makePrimitive_17 (by decide) rfl ?_
    refine rx_iinc (d := 1) (lv1 := fun v => [(3, .int v), (1, .long r_2), (0, .ref v0)]) C 2 dX3_makePrimitive_18 hm rfl rfl (by decide) (fun _ => rfl) (fun v3_4 hm => ?_)
    refine rx_goto (tgt := 4) C dX3_makePrimitive_21 (by decide) ?_
    refine rx_lv [2, 1, 0] rfl ?_
    exact ih _ _ _ hm hk
def l_Num_makePrimitive_33 (fu : Nat) (N : Nat → Nat) (v0 : Nat) (v1 : Int64) : Nat → Int32 → rr_M → (rr_M → Option (Unit × rr_M)) → Option (Unit × rr_M)
  | 0, _, _, _ => none
  | n + 1, v3, σ, kk =>
    if (nI (N v0)) ≤ v3 then (kk σ) else
    (if rr_ix v3 (N v0) then
    if v1 = 0 then none else
    (if rr_ix v3 (N v0) then rr_lt (ms_l σ v0 (rr_n v3) ((mg_l σ v0 (rr_n v3)) / v1)) fun σ_9 =>
    rr_lt (v3 + 1) fun v3_10 =>
    l_Num_makePrimitive_33 fu N v0 v1 n v3_10 σ_9 kk else none) else none)
theorem lw_Num_makePrimitive_33 {X : rr_X} {G : rr_G} {l : Launch} {fu : Nat} (hG : G.2.2.1.Nodup) (hll : X.2.1 = l) (C : rr_C X G cX3_makePrimitive 4 "RootRows$Numbers" none 2 53) {σr : rr_M} (v0 : Nat) (m_v0 : v0 ∈ G.2.2.1) (k_v0 : G.2.2.2.1 v0 = 12) (v1 : Int64) : ∀ (n : Nat) (v3 : Int32) (σ : rr_M) (K : rr_M → Option (Unit × rr_M)), l_Num_makePrimitive_33 fu G.2.2.2.2 v0 v1 n v3 σ K = some ((), σr) → (∀ (σ1 : rr_M), K σ1 = some ((), σr) → rr_J X G 4 (rr_E X G σr none) σ1 52 [] []) → rr_J X G 4 (rr_E X G σr none) σ 33 [(0, .ref v0), (1, .long v1), (3, .int v3)] [] := by
  intro n
  induction n with
  | zero =>
    intro v3 σ K hm
    cases hm
  | succ n ih =>
    intro v3 σ K hm hk
    unfold l_Num_makePrimitive_33 at hm
    refine rx_iload_n C 2 dX3_makePrimitive_33 rfl ?_
    refine rx_aload_n C 0 dX3_makePrimitive_34 rfl ?_
    refine rx_alen C m_v0 k_v0 (by decide) dX3_makePrimitive_35 ?_
    refine rx_icmp_ge (tgt := 52) C dX3_makePrimitive_36 (by decide) hm (fun h_7 hm => ?_) (fun h_7 hm => ?_)
    · refine rx_lv [] rfl ?_
      exact hk _ hm
    refine rx_aload_n C 0 dX3_makePrimitive_39 rfl ?_
    refine rx_iload_n C 2 dX3_makePrimitive_40 rfl ?_
    refine rx_dup2_11 C dX3_makePrimitive_41 rfl rfl ?_
    refine rx_lald C m_v0 k_v0 dX3_makePrimitive_42 hm (fun hm => ?_)
    refine rx_lload_n C 1 dX3_makePrimitive_43 rfl ?_
    obtain ⟨hz_8, hm⟩ := rr_gzl hm
    refine rx_ldiv C dX3_makePrimitive_44 hz_8 ?_
    refine rx_last C m_v0 k_v0 dX3_makePrimitive_45 hm (fun σ_9 hm => ?_)
    refine rx_iinc (d := 1) (lv1 := fun v => [(3, .int v), (0, .ref v0), (1, .long v1)]) C 2 dX3_makePrimitive_46 hm rfl rfl (by decide) (fun _ => rfl) (fun v3_10 hm => ?_)
    refine rx_goto (tgt := 33) C dX3_makePrimitive_49 (by decide) ?_
    refine rx_lv [1, 2, 0] rfl ?_
    exact ih _ _ _ hm hk
def f_Num_makePrimitive (fu : Nat) (N : Nat → Nat) (v0 : Nat) (σ : rr_M) : Option (Unit × rr_M) :=
    l_Num_makePrimitive_4 fu N v0 σ fu 0 0 (fun v1_5 =>
    if 1 < v1_5 then (l_Num_makePrimitive_33 fu N v0 v1_5 fu 0 σ (fun σ_11 =>
    some ((), σ_11))) else
    some ((), σ))
theorem c_Num_makePrimitive (l : Launch) (G : rr_G) (hG : G.2.2.1.Nodup) (fu : Nat) (v0 : Nat) (m_v0 : v0 ∈ G.2.2.1) (k_v0 : G.2.2.2.1 v0 = 12) (σ : rr_M) (σr : rr_M) (hm : f_Num_makePrimitive fu G.2.2.2.2 v0 σ = some ((), σr)) : rr_Met l G yX3_makePrimitive cX3_makePrimitive 4 none 2 53 [.ref v0] σ σr none := by
  refine rr_enter (lv0 := [(0, .ref v0)]) hp_Num_makePrimitive hG (Nat.le_of_ble_eq_true rfl) rfl (fun X hll C => ?_)
  replace C : rr_C X G cX3_makePrimitive 4 "RootRows$Numbers" none 2 53 := C
  unfold f_Num_makePrimitive at hm
  refine rx_lconst (v := 0) C dX3_makePrimitive_0 rfl ?_
  refine rx_lstore_n (lv1 := [(1, .long 0), (0, .ref v0)]) C dX3_makePrimitive_1 (by decide) rfl ?_
  refine rx_iconst (v := 0) C dX3_makePrimitive_2 rfl ?_
  refine rx_istore_n (lv1 := [(3, .int 0), (1, .long 0), (0, .ref v0)]) C dX3_makePrimitive_3 (by decide) rfl ?_
  refine rx_lv [2, 1, 0] rfl ?_
  refine lw_Num_makePrimitive_4 hG hll C σ v0 m_v0 k_v0 _ _ _ _ hm (fun v1_5 hm => ?_)
  refine rx_lload_n C 1 dX3_makePrimitive_24 rfl ?_
  refine rx_lconst (v := 1) C dX3_makePrimitive_25 rfl ?_
  refine rx_lcmp_gt (tgt := 31) C dX3_makePrimitive_26 dX3_makePrimitive_27 (by decide) hm (fun h_6 hm => ?_) (fun h_6 hm => ?_)
  · refine rx_iconst (v := 0) C dX3_makePrimitive_31 rfl ?_
    refine rx_istore_n (lv1 := [(3, .int 0), (0, .ref v0), (1, .long v1_5)]) C dX3_makePrimitive_32 (by decide) rfl ?_
    refine rx_lv [1, 2, 0] rfl ?_
    refine lw_Num_makePrimitive_33 hG hll C v0 m_v0 k_v0 v1_5 _ _ _ _ hm (fun σ_11 hm => ?_)
    exact rx_vret C dX3_makePrimitive_52 hm
  exact rx_vret C dX3_makePrimitive_30 hm
def l_Num_setQuotient_8 (fu : Nat) (N : Nat → Nat) (v0 : Nat) : Nat → Int32 → rr_M → (rr_M → Option (Unit × rr_M)) → Option (Unit × rr_M)
  | 0, _, _, _ => none
  | n + 1, v4, σ, kk =>
    if (nI (N v0)) ≤ v4 then (kk σ) else
    (if rr_ix v4 (N v0) then rr_lt (ms_l σ v0 (rr_n v4) 0) fun σ_4 =>
    rr_lt (v4 + 1) fun v4_5 =>
    l_Num_setQuotient_8 fu N v0 n v4_5 σ_4 kk else none)
theorem lw_Num_setQuotient_8 {X : rr_X} {G : rr_G} {l : Launch} {fu : Nat} (hG : G.2.2.1.Nodup) (hll : X.2.1 = l) (C : rr_C X G cX3_setQuotient 6 "RootRows$Numbers" none 1 21) {σr : rr_M} (v0 : Nat) (m_v0 : v0 ∈ G.2.2.1) (k_v0 : G.2.2.2.1 v0 = 12) (v1 : Nat) (m_v1 : v1 ∈ G.2.2.1) (k_v1 : G.2.2.2.1 v1 = 12) (v2 : Nat) (m_v2 : v2 ∈ G.2.2.1) (k_v2 : G.2.2.2.1 v2 = 12) (v3 : Int32) : ∀ (n : Nat) (v4 : Int32) (σ : rr_M) (K : rr_M → Option (Unit × rr_M)), l_Num_setQuotient_8 fu G.2.2.2.2 v0 n v4 σ K = some ((), σr) → (∀ (σ1 : rr_M), K σ1 = some ((), σr) → rr_J X G 6 (rr_E X G σr none) σ1 26 [(0, .ref v0), (1, .ref v1), (2, .ref v2), (3, .int v3)] []) → rr_J X G 6 (rr_E X G σr none) σ 8 [(0, .ref v0), (1, .ref v1), (2, .ref v2), (3, .int v3), (4, .int v4)] [] := by
  intro n
  induction n with
  | zero =>
    intro v4 σ K hm
    cases hm
  | succ n ih =>
    intro v4 σ K hm hk
    unfold l_Num_setQuotient_8 at hm
    refine rx_iload C 4 dX3_setQuotient_8 rfl ?_
    refine rx_aload_n C 0 dX3_setQuotient_10 rfl ?_
    refine rx_alen C m_v0 k_v0 (by decide) dX3_setQuotient_11 ?_
    refine rx_icmp_ge (tgt := 26) C dX3_setQuotient_12 (by decide) hm (fun h_3 hm => ?_) (fun h_3 hm => ?_)
    · refine rx_lv [0, 1, 2, 3] rfl ?_
      exact hk _ hm
    refine rx_aload_n C 0 dX3_setQuotient_15 rfl ?_
    refine rx_iload C 4 dX3_setQuotient_16 rfl ?_
    refine rx_lconst (v := 0) C dX3_setQuotient_18 rfl ?_
    refine rx_last C m_v0 k_v0 dX3_setQuotient_19 hm (fun σ_4 hm => ?_)
    refine rx_iinc (d := 1) (lv1 := fun v => [(4, .int v), (0, .ref v0), (1, .ref v1), (2, .ref v2), (3, .int v3)]) C 4 dX3_setQuotient_20 hm rfl rfl (by decide) (fun _ => rfl) (fun v4_5 hm => ?_)
    refine rx_goto (tgt := 8) C dX3_setQuotient_23 (by decide) ?_
    refine rx_lv [1, 2, 3, 4, 0] rfl ?_
    exact ih _ _ _ hm hk
def l_Num_setQuotient_85 (fu : Nat) (N : Nat → Nat) (v0 : Nat) (v1 : Nat) (v2 : Nat) (v3 : Int32) (v4 : Int32) : Nat → Int32 → rr_M → (rr_M → Option (Unit × rr_M)) → Option (Unit × rr_M)
  | 0, _, _, _ => none
  | n + 1, v5, σ, kk =>
    if v3 < v5 then (kk σ) else
    (if rr_ix (v4 + v5) (N v1) then
    (if rr_ix v4 (N v0) then
    (if rr_ix v5 (N v2) then
    (if rr_ix (v4 + v5) (N v1) then rr_lt (ms_l σ v1 (rr_n (v4 + v5)) ((mg_l σ v1 (rr_n (v4 + v5))) - ((mg_l σ v0 (rr_n v4)) * (mg_l σ v2 (rr_n v5))))) fun σ_20 =>
    rr_lt (v5 + 1) fun v5_21 =>
    l_Num_setQuotient_85 fu N v0 v1 v2 v3 v4 n v5_21 σ_20 kk else none) else none) else none) else none)
theorem lw_Num_setQuotient_85 {X : rr_X} {G : rr_G} {l : Launch} {fu : Nat} (hG : G.2.2.1.Nodup) (hll : X.2.1 = l) (C : rr_C X G cX3_setQuotient 6 "RootRows$Numbers" none 1 21) {σr : rr_M} (v0 : Nat) (m_v0 : v0 ∈ G.2.2.1) (k_v0 : G.2.2.2.1 v0 = 12) (v1 : Nat) (m_v1 : v1 ∈ G.2.2.1) (k_v1 : G.2.2.2.1 v1 = 12) (v2 : Nat) (m_v2 : v2 ∈ G.2.2.1) (k_v2 : G.2.2.2.1 v2 = 12) (v3 : Int32) (v4 : Int32) : ∀ (n : Nat) (v5 : Int32) (σ : rr_M) (K : rr_M → Option (Unit × rr_M)), l_Num_setQuotient_85 fu G.2.2.2.2 v0 v1 v2 v3 v4 n v5 σ K = some ((), σr) → (∀ (σ1 : rr_M), K σ1 = some ((), σr) → rr_J X G 6 (rr_E X G σr none) σ1 116 [(0, .ref v0), (1, .ref v1), (2, .ref v2), (3, .int v3), (4, .int v4)] []) → rr_J X G 6 (rr_E X G σr none) σ 85 [(0, .ref v0), (1, .ref v1), (2, .ref v2), (3, .int v3), (4, .int v4), (5, .int v5)] [] := by
  intro n
  induction n with
  | zero =>
    intro v5 σ K hm
    cases hm
  | succ n ih =>
    intro v5 σ K hm hk
    unfold l_Num_setQuotient_85 at hm
    refine rx_iload C 5 dX3_setQuotient_85 rfl ?_
    refine rx_iload_n C 3 dX3_setQuotient_87 rfl ?_
    refine rx_icmp_gt (tgt := 116) C dX3_setQuotient_88 (by decide) hm (fun h_19 hm => ?_) (fun h_19 hm => ?_)
    · refine rx_lv [0, 1, 2, 3, 4] rfl ?_
      exact hk _ hm
    refine rx_aload_n C 1 dX3_setQuotient_91 rfl ?_
    refine rx_iload C 4 dX3_setQuotient_92 rfl ?_
    refine rx_iload C 5 dX3_setQuotient_94 rfl ?_
    refine rx_iadd C dX3_setQuotient_96 ?_
    refine rx_dup2_11 C dX3_setQuotient_97 rfl rfl ?_
    refine rx_lald C m_v1 k_v1 dX3_setQuotient_98 hm (fun hm => ?_)
    refine rx_aload_n C 0 dX3_setQuotient_99 rfl ?_
    refine rx_iload C 4 dX3_setQuotient_100 rfl ?_
    refine rx_lald C m_v0 k_v0 dX3_setQuotient_102 hm (fun hm => ?_)
    refine rx_aload_n C 2 dX3_setQuotient_103 rfl ?_
    refine rx_iload C 5 dX3_setQuotient_104 rfl ?_
    refine rx_lald C m_v2 k_v2 dX3_setQuotient_106 hm (fun hm => ?_)
    refine rx_lmul C dX3_setQuotient_107 ?_
    refine rx_lsub C dX3_setQuotient_108 ?_
    refine rx_last C m_v1 k_v1 dX3_setQuotient_109 hm (fun σ_20 hm => ?_)
    refine rx_iinc (d := 1) (lv1 := fun v => [(5, .int v), (0, .ref v0), (1, .ref v1), (2, .ref v2), (3, .int v3), (4, .int v4)]) C 5 dX3_setQuotient_110 hm rfl rfl (by decide) (fun _ => rfl) (fun v5_21 hm => ?_)
    refine rx_goto (tgt := 85) C dX3_setQuotient_113 (by decide) ?_
    refine rx_lv [1, 2, 3, 4, 5, 0] rfl ?_
    exact ih _ _ _ hm hk
def l_Num_setQuotient_47 (fu : Nat) (N : Nat → Nat) (v0 : Nat) (v1 : Nat) (v2 : Nat) (v3 : Int32) : Nat → Int32 → rr_M → (rr_M → Option (Unit × rr_M)) → Option (Unit × rr_M)
  | 0, _, _, _ => none
  | n + 1, v4, σ, kk =>
    if v4 < 0 then (kk σ) else
    rr_jn (fun (σ_13 : rr_M) =>
    rr_lt (v4 + (-1)) fun v4_14 =>
    l_Num_setQuotient_47 fu N v0 v1 v2 v3 n v4_14 σ_13 kk) fun j116 =>
    if (nI (N v0)) ≤ v4 then (j116 σ) else
    if (nI (N v1)) ≤ (v4 + v3) then (j116 σ) else
    (if rr_ix (v4 + v3) (N v1) then
    (if rr_ix v3 (N v2) then
    if (mg_l σ v2 (rr_n v3)) = 0 then none else
    (if rr_ix v4 (N v0) then rr_lt (ms_l σ v0 (rr_n v4) ((mg_l σ v1 (rr_n (v4 + v3))) / (mg_l σ v2 (rr_n v3)))) fun σ_18 =>
    l_Num_setQuotient_85 fu N v0 v1 v2 v3 v4 fu 0 σ_18 (fun σ_22 =>
    j116 σ_22) else none) else none) else none)
theorem lw_Num_setQuotient_47 {X : rr_X} {G : rr_G} {l : Launch} {fu : Nat} (hG : G.2.2.1.Nodup) (hll : X.2.1 = l) (C : rr_C X G cX3_setQuotient 6 "RootRows$Numbers" none 1 21) {σr : rr_M} (v0 : Nat) (m_v0 : v0 ∈ G.2.2.1) (k_v0 : G.2.2.2.1 v0 = 12) (v1 : Nat) (m_v1 : v1 ∈ G.2.2.1) (k_v1 : G.2.2.2.1 v1 = 12) (v2 : Nat) (m_v2 : v2 ∈ G.2.2.1) (k_v2 : G.2.2.2.1 v2 = 12) (v3 : Int32) : ∀ (n : Nat) (v4 : Int32) (σ : rr_M) (K : rr_M → Option (Unit × rr_M)), l_Num_setQuotient_47 fu G.2.2.2.2 v0 v1 v2 v3 n v4 σ K = some ((), σr) → (∀ (σ1 : rr_M), K σ1 = some ((), σr) → rr_J X G 6 (rr_E X G σr none) σ1 122 [] []) → rr_J X G 6 (rr_E X G σr none) σ 47 [(0, .ref v0), (1, .ref v1), (2, .ref v2), (3, .int v3), (4, .int v4)] [] := by
  intro n
  induction n with
  | zero =>
    intro v4 σ K hm
    cases hm
  | succ n ih =>
    intro v4 σ K hm hk
    unfold l_Num_setQuotient_47 at hm
    refine rx_iload C 4 dX3_setQuotient_47 rfl ?_
    refine rx_if_lt (tgt := 122) C dX3_setQuotient_49 (by decide) hm (fun h_12 hm => ?_) (fun h_12 hm => ?_)
    · refine rx_lv [] rfl ?_
      exact hk _ hm
    refine rx_iload C 4 dX3_setQuotient_52 rfl ?_
    refine rx_aload_n C 0 dX3_setQuotient_54 rfl ?_
    refine rx_alen C m_v0 k_v0 (by decide) dX3_setQuotient_55 ?_
    refine rr_jn1 hm (fun j116 ej116 hm => ?_)
    have hj116 : ∀ (σ_13 : rr_M), j116 σ_13 = some ((), σr) → rr_J X G 6 (rr_E X G σr none) σ_13 116 [(0, .ref v0), (1, .ref v1), (2, .ref v2), (3, .int v3), (4, .int v4)] [] := by
      intro σ_13 hm
      replace hm := ej116 _ hm
      refine rx_iinc (d := (-1)) (lv1 := fun v => [(4, .int v), (0, .ref v0), (1, .ref v1), (2, .ref v2), (3, .int v3)]) C 4 dX3_setQuotient_116 hm rfl rfl (by decide) (fun _ => rfl) (fun v4_14 hm => ?_)
      refine rx_goto (tgt := 47) C dX3_setQuotient_119 (by decide) ?_
      refine rx_lv [1, 2, 3, 4, 0] rfl ?_
      exact ih _ _ _ hm hk
    refine rx_icmp_ge (tgt := 116) C dX3_setQuotient_56 (by decide) hm (fun h_15 hm => ?_) (fun h_15 hm => ?_)
    · refine rx_lv [0, 1, 2, 3, 4] rfl ?_
      exact hj116 _ hm
    refine rx_iload C 4 dX3_setQuotient_59 rfl ?_
    refine rx_iload_n C 3 dX3_setQuotient_61 rfl ?_
    refine rx_iadd C dX3_setQuotient_62 ?_
    refine rx_aload_n C 1 dX3_setQuotient_63 rfl ?_
    refine rx_alen C m_v1 k_v1 (by decide) dX3_setQuotient_64 ?_
    refine rx_icmp_ge (tgt := 116) C dX3_setQuotient_65 (by decide) hm (fun h_16 hm => ?_) (fun h_16 hm => ?_)
    · refine rx_lv [0, 1, 2, 3, 4] rfl ?_
      exact hj116 _ hm
    refine rx_aload_n C 0 dX3_setQuotient_68 rfl ?_
    refine rx_iload C 4 dX3_setQuotient_69 rfl ?_
    refine rx_aload_n C 1 dX3_setQuotient_71 rfl ?_
    refine rx_iload C 4 dX3_setQuotient_72 rfl ?_
    refine rx_iload_n C 3 dX3_setQuotient_74 rfl ?_
    refine rx_iadd C dX3_setQuotient_75 ?_
    refine rx_lald C m_v1 k_v1 dX3_setQuotient_76 hm (fun hm => ?_)
    refine rx_aload_n C 2 dX3_setQuotient_77 rfl ?_
    refine rx_iload_n C 3 dX3_setQuotient_78 rfl ?_
    refine rx_lald C m_v2 k_v2 dX3_setQuotient_79 hm (fun hm => ?_)
    obtain ⟨hz_17, hm⟩ := rr_gzl hm
    refine rx_ldiv C dX3_setQuotient_80 hz_17 ?_
    refine rx_last C m_v0 k_v0 dX3_setQuotient_81 hm (fun σ_18 hm => ?_)
    refine rx_iconst (v := 0) C dX3_setQuotient_82 rfl ?_
    refine rx_istore (lv1 := [(5, .int 0), (0, .ref v0), (1, .ref v1), (2, .ref v2), (3, .int v3), (4, .int v4)]) C dX3_setQuotient_83 (by decide) rfl ?_
    refine rx_lv [1, 2, 3, 4, 5, 0] rfl ?_
    refine lw_Num_setQuotient_85 hG hll C v0 m_v0 k_v0 v1 m_v1 k_v1 v2 m_v2 k_v2 v3 v4 _ _ _ _ hm (fun σ_22 hm => ?_)
    refine rx_lv [0, 1, 2, 3, 4] rfl ?_
    exact hj116 _ hm
def f_Num_setQuotient (fu : Nat) (N : Nat → Nat) (v0 : Nat) (v1 : Nat) (v2 : Nat) (σ : rr_M) : Option (Unit × rr_M) :=
    Option.bind (f_Num_degreeOf fu N v2 σ) fun r_1 =>
    l_Num_setQuotient_8 fu N v0 fu 0 σ (fun σ_6 =>
    if r_1 < 0 then (some ((), σ_6)) else
    (if rr_ix r_1 (N v2) then
    if (mg_l σ_6 v2 (rr_n r_1)) = 0 then (some ((), σ_6)) else
    Option.bind (f_Num_degreeOf fu N v1 σ_6) fun r_9 =>
    rr_lt (r_9 - r_1) fun v4_11 =>
    l_Num_setQuotient_47 fu N v0 v1 v2 r_1 fu v4_11 σ_6 (fun σ_23 =>
    some ((), σ_23)) else none))
theorem c_Num_setQuotient (l : Launch) (G : rr_G) (hG : G.2.2.1.Nodup) (fu : Nat) (v0 : Nat) (m_v0 : v0 ∈ G.2.2.1) (k_v0 : G.2.2.2.1 v0 = 12) (v1 : Nat) (m_v1 : v1 ∈ G.2.2.1) (k_v1 : G.2.2.2.1 v1 = 12) (v2 : Nat) (m_v2 : v2 ∈ G.2.2.1) (k_v2 : G.2.2.2.1 v2 = 12) (σ : rr_M) (σr : rr_M) (hm : f_Num_setQuotient fu G.2.2.2.2 v0 v1 v2 σ = some ((), σr)) : rr_Met l G yX3_setQuotient cX3_setQuotient 6 none 1 21 [.ref v0, .ref v1, .ref v2] σ σr none := by
  refine rr_enter (lv0 := [(0, .ref v0), (1, .ref v1), (2, .ref v2)]) hp_Num_setQuotient hG (Nat.le_of_ble_eq_true rfl) rfl (fun X hll C => ?_)
  replace C : rr_C X G cX3_setQuotient 6 "RootRows$Numbers" none 1 21 := C
  unfold f_Num_setQuotient at hm
  refine rx_aload_n C 2 dX3_setQuotient_0 rfl ?_
  obtain ⟨r_1, hc_2, hm⟩ := rr_b0_some hm
  refine rr_callS (rest := []) (st1 := [.int r_1]) C hll (c_Num_degreeOf l G hG fu v2 m_v2 k_v2 σ _ hc_2) q_684 q_487 q_12 q_488 hd_Num_degreeOf ⟨by decide, by decide⟩ rfl rfl (Nat.le_of_ble_eq_true rfl) rfl dX3_setQuotient_1 ?_
  refine rx_istore_n (lv1 := [(3, .int r_1), (0, .ref v0), (1, .ref v1), (2, .ref v2)]) C dX3_setQuotient_4 (by decide) rfl ?_
  refine rx_iconst (v := 0) C dX3_setQuotient_5 rfl ?_
  refine rx_istore (lv1 := [(4, .int 0), (3, .int r_1), (0, .ref v0), (1, .ref v1), (2, .ref v2)]) C dX3_setQuotient_6 (by decide) rfl ?_
  refine rx_lv [2, 3, 4, 1, 0] rfl ?_
  refine lw_Num_setQuotient_8 hG hll C v0 m_v0 k_v0 v1 m_v1 k_v1 v2 m_v2 k_v2 r_1 _ _ _ _ hm (fun σ_6 hm => ?_)
  refine rx_iload_n C 3 dX3_setQuotient_26 rfl ?_
  refine rx_if_lt (tgt := 38) C dX3_setQuotient_27 (by decide) hm (fun h_7 hm => ?_) (fun h_7 hm => ?_)
  · exact rx_vret C dX3_setQuotient_38 hm
  refine rx_aload_n C 2 dX3_setQuotient_30 rfl ?_
  refine rx_iload_n C 3 dX3_setQuotient_31 rfl ?_
  refine rx_lald C m_v2 k_v2 dX3_setQuotient_32 hm (fun hm => ?_)
  refine rx_lconst (v := 0) C dX3_setQuotient_33 rfl ?_
  refine rx_lcmp_ne (tgt := 39) C dX3_setQuotient_34 dX3_setQuotient_35 (by decide) hm (fun h_8 hm => ?_) (fun h_8 hm => ?_)
  · refine rx_aload_n C 1 dX3_setQuotient_39 rfl ?_
    obtain ⟨r_9, hc_10, hm⟩ := rr_b0_some hm
    refine rr_callS (rest := []) (st1 := [.int r_9]) C hll (c_Num_degreeOf l G hG fu v1 m_v1 k_v1 σ_6 _ hc_10) q_684 q_487 q_12 q_488 hd_Num_degreeOf ⟨by decide, by decide⟩ rfl rfl (Nat.le_of_ble_eq_true rfl) rfl dX3_setQuotient_40 ?_
    refine rx_iload_n C 3 dX3_setQuotient_43 rfl ?_
    refine rx_isub C dX3_setQuotient_44 ?_
    refine rx_nmi hm (fun v4_11 ev4_11 hm => ?_)
    refine rx_istore (lv1 := [(4, .int v4_11), (0, .ref v0), (1, .ref v1), (2, .ref v2), (3, .int r_1)]) C dX3_setQuotient_45 (by decide) rfl ?_
    refine rx_lv [1, 2, 3, 4, 0] rfl ?_
    refine lw_Num_setQuotient_47 hG hll C v0 m_v0 k_v0 v1 m_v1 k_v1 v2 m_v2 k_v2 r_1 _ _ _ _ hm (fun σ_23 hm => ?_)
    exact rx_vret C dX3_setQuotient_122 hm
  exact rx_vret C dX3_setQuotient_38 hm
def l_Tra_rootsUpTo_12 (fu : Nat) (N : Nat → Nat) (v0 : Nat) (v2 : Int64) (σ : rr_M) : Nat → Int32 → Int32 → (Int32 → Option (Int32)) → Option (Int32)
  | 0, _, _, _ => none
  | n + 1, v4, v5, kk =>
    if (mg_i σ v0 4) ≤ v5 then (kk v4) else
    if 8 ≤ v5 then (kk v4) else
    rr_lt (mg_r σ v0 10) fun p_4 =>
    (if rr_ix v5 (N p_4) then
    rr_jn (fun (v4_5 : Int32) =>
    rr_lt (v5 + 1) fun v5_6 =>
    l_Tra_rootsUpTo_12 fu N v0 v2 σ n v4_5 v5_6 kk) fun j52 =>
    if v2 < (mg_l σ p_4 (rr_n v5)) then (j52 v4) else
    rr_lt (mg_r σ v0 12) fun p_8 =>
    (if rr_ix v5 (N p_8) then
    rr_lt (v4 + (mg_i σ p_8 (rr_n v5))) fun v4_9 =>
    j52 v4_9 else none) else none)
theorem lw_Tra_rootsUpTo_12 {X : rr_X} {G : rr_G} {l : Launch} {fu : Nat} (hG : G.2.2.1.Nodup) (hll : X.2.1 = l) (C : rr_C X G cX9_rootsUpTo 6 "RootRows$Tray" (some .int) 0 0) {r : Int32}  (σ : rr_M) (v0 : Nat) (m_v0 : v0 ∈ G.2.2.1) (k_v0 : G.2.2.2.1 v0 = 7) (v2 : Int64) : ∀ (n : Nat) (v4 : Int32) (v5 : Int32) (K : Int32 → Option (Int32)), l_Tra_rootsUpTo_12 fu G.2.2.2.2 v0 v2 σ n v4 v5 K = some r → (∀ (w4 : Int32), K w4 = some r → rr_J X G 6 (rr_E X G σ (some (.int r))) σ 58 [(4, .int w4)] []) → rr_J X G 6 (rr_E X G σ (some (.int r))) σ 12 [(0, .ref v0), (2, .long v2), (4, .int v4), (5, .int v5)] [] := by
  intro n
  induction n with
  | zero =>
    intro v4 v5 K hm
    cases hm
  | succ n ih =>
    intro v4 v5 K hm hk
    unfold l_Tra_rootsUpTo_12 at hm
    refine rx_iload C 3 dX9_rootsUpTo_12 rfl ?_
    refine rx_aload_n C 0 dX9_rootsUpTo_14 rfl ?_
    refine gf_44 C m_v0 k_v0 dX9_rootsUpTo_15 ?_
    refine rx_icmp_ge (tgt := 58) C dX9_rootsUpTo_18 (by decide) hm (fun h_2 hm => ?_) (fun h_2 hm => ?_)
    · refine rx_lv [2] rfl ?_
      exact hk _ hm
    refine rx_iload C 3 dX9_rootsUpTo_21 rfl ?_
    refine rx_bipush (v := 8) C dX9_rootsUpTo_23 rfl ?_
    refine rx_icmp_ge (tgt := 58) C dX9_rootsUpTo_25 (by decide) hm (fun h_3 hm => ?_) (fun h_3 hm => ?_)
    · refine rx_lv [2] rfl ?_
      exact hk _ hm
    refine rx_aload_n C 0 dX9_rootsUpTo_28 rfl ?_
    refine gf_60 C m_v0 k_v0 dX9_rootsUpTo_29 hm (fun p_4 m_p_4 k_p_4 hm => ?_)
    refine rx_iload C 3 dX9_rootsUpTo_32 rfl ?_
    refine rx_lald C m_p_4 k_p_4 dX9_rootsUpTo_34 hm (fun hm => ?_)
    refine rx_lload_n C 1 dX9_rootsUpTo_35 rfl ?_
    refine rr_jn1 hm (fun j52 ej52 hm => ?_)
    have hj52 : ∀ (v4_5 : Int32), j52 v4_5 = some r → rr_J X G 6 (rr_E X G σ (some (.int r))) σ 52 [(0, .ref v0), (2, .long v2), (4, .int v4_5), (5, .int v5)] [] := by
      intro v4_5 hm
      replace hm := ej52 _ hm
      refine rx_iinc (d := 1) (lv1 := fun v => [(5, .int v), (0, .ref v0), (2, .long v2), (4, .int v4_5)]) C 3 dX9_rootsUpTo_52 hm rfl rfl (by decide) (fun _ => rfl) (fun v5_6 hm => ?_)
      refine rx_goto (tgt := 12) C dX9_rootsUpTo_55 (by decide) ?_
      refine rx_lv [1, 2, 3, 0] rfl ?_
      exact ih _ _ _ hm hk
    refine rx_lcmp_gt (tgt := 52) C dX9_rootsUpTo_36 dX9_rootsUpTo_37 (by decide) hm (fun h_7 hm => ?_) (fun h_7 hm => ?_)
    · refine rx_lv [0, 1, 2, 3] rfl ?_
      exact hj52 _ hm
    refine rx_iload C 2 dX9_rootsUpTo_40 rfl ?_
    refine rx_aload_n C 0 dX9_rootsUpTo_42 rfl ?_
    refine gf_64 C m_v0 k_v0 dX9_rootsUpTo_43 hm (fun p_8 m_p_8 k_p_8 hm => ?_)
    refine rx_iload C 3 dX9_rootsUpTo_46 rfl ?_
    refine rx_iald C m_p_8 k_p_8 dX9_rootsUpTo_48 hm (fun hm => ?_)
    refine rx_iadd C dX9_rootsUpTo_49 ?_
    refine rx_nmi hm (fun v4_9 ev4_9 hm => ?_)
    refine rx_istore (lv1 := [(4, .int v4_9), (0, .ref v0), (2, .long v2), (5, .int v5)]) C dX9_rootsUpTo_50 (by decide) rfl ?_
    refine rx_lv [1, 2, 0, 3] rfl ?_
    exact hj52 _ hm
def f_Tra_rootsUpTo (fu : Nat) (N : Nat → Nat) (v0 : Nat) (v1 : Int32) (σ : rr_M) : Option (Int32) :=
    rr_lt (v1.toInt64 <<< ((12 : Int32).toInt64 &&& 63)) fun v2_1 =>
    l_Tra_rootsUpTo_12 fu N v0 v2_1 σ fu 0 0 (fun v4_10 =>
    some (v4_10))
theorem c_Tra_rootsUpTo (l : Launch) (G : rr_G) (hG : G.2.2.1.Nodup) (fu : Nat) (v0 : Nat) (m_v0 : v0 ∈ G.2.2.1) (k_v0 : G.2.2.2.1 v0 = 7) (v1 : Int32) (σ : rr_M) (r : Int32) (hm : f_Tra_rootsUpTo fu G.2.2.2.2 v0 v1 σ = some r) : rr_Met l G yX9_rootsUpTo cX9_rootsUpTo 6 (some .int) 0 0 [.ref v0, .int v1] σ σ (some (.int r)) := by
  refine rr_enter (lv0 := [(0, .ref v0), (1, .int v1)]) hp_Tra_rootsUpTo hG (Nat.le_of_ble_eq_true rfl) rfl (fun X hll C => ?_)
  replace C : rr_C X G cX9_rootsUpTo 6 "RootRows$Tray" (some .int) 0 0 := C
  unfold f_Tra_rootsUpTo at hm
  refine rx_iload_n C 1 dX9_rootsUpTo_0 rfl ?_
  refine rx_i2l C dX9_rootsUpTo_1 ?_
  refine rx_bipush (v := 12) C dX9_rootsUpTo_2 rfl ?_
  refine rx_lshl C dX9_rootsUpTo_4 ?_
  refine rx_nml hm (fun v2_1 ev2_1 hm => ?_)
  refine rx_lstore_n (lv1 := [(2, .long v2_1), (0, .ref v0), (1, .int v1)]) C dX9_rootsUpTo_5 (by decide) rfl ?_
  refine rx_iconst (v := 0) C dX9_rootsUpTo_6 rfl ?_
  refine rx_istore (lv1 := [(4, .int 0), (2, .long v2_1), (0, .ref v0), (1, .int v1)]) C dX9_rootsUpTo_7 (by decide) rfl ?_
  refine rx_iconst (v := 0) C dX9_rootsUpTo_9 rfl ?_
  refine rx_istore (lv1 := [(5, .int 0), (4, .int 0), (2, .long v2_1), (0, .ref v0), (1, .int v1)]) C dX9_rootsUpTo_10 (by decide) rfl ?_
  refine rx_lv [3, 2, 1, 0] rfl ?_
  refine lw_Tra_rootsUpTo_12 hG hll C σ v0 m_v0 k_v0 v2_1 _ _ _ _ hm (fun v4_10 hm => ?_)
  refine rx_iload C 0 dX9_rootsUpTo_58 rfl ?_
  exact rx_iretR C dX9_rootsUpTo_60 hm
def l_Row_isCounts_2 (fu : Nat) (N : Nat → Nat) (v0 : Nat) (σ : rr_M) : Nat → Int32 → (Option (Int32)) → Option (Int32)
  | 0, _, _ => none
  | n + 1, v1, kk =>
    if (nI (N v0)) ≤ v1 then (kk) else
    (if rr_ix v1 (N v0) then
    if 0 ≤ (mg_l σ v0 (rr_n v1)) then (rr_lt (v1 + 1) fun v1_3 =>
    l_Row_isCounts_2 fu N v0 σ n v1_3 kk) else
    if rr_b1 0 then some (0) else none else none)
theorem lw_Row_isCounts_2 {X : rr_X} {G : rr_G} {l : Launch} {fu : Nat} (hG : G.2.2.1.Nodup) (hll : X.2.1 = l) (C : rr_C X G cX6_isCounts 2 "RootRows$Rows" (some .boolean) 0 0) {r : Int32}  (σ : rr_M) (v0 : Nat) (m_v0 : v0 ∈ G.2.2.1) (k_v0 : G.2.2.2.1 v0 = 12) : ∀ (n : Nat) (v1 : Int32) (K : Option (Int32)), l_Row_isCounts_2 fu G.2.2.2.2 v0 σ n v1 K = some r → (∀ (_ : Unit), K = some r → rr_J X G 2 (rr_E X G σ (some (.int r))) σ 24 [] []) → rr_J X G 2 (rr_E X G σ (some (.int r))) σ 2 [(0, .ref v0), (1, .int v1)] [] := by
  intro n
  induction n with
  | zero =>
    intro v1 K hm
    cases hm
  | succ n ih =>
    intro v1 K hm hk
    unfold l_Row_isCounts_2 at hm
    refine rx_iload_n C 1 dX6_isCounts_2 rfl ?_
    refine rx_aload_n C 0 dX6_isCounts_3 rfl ?_
    refine rx_alen C m_v0 k_v0 (by decide) dX6_isCounts_4 ?_
    refine rx_icmp_ge (tgt := 24) C dX6_isCounts_5 (by decide) hm (fun h_1 hm => ?_) (fun h_1 hm => ?_)
    · refine rx_lv [] rfl ?_
      exact hk () hm
    refine rx_aload_n C 0 dX6_isCounts_8 rfl ?_
    refine rx_iload_n C 1 dX6_isCounts_9 rfl ?_
    refine rx_lald C m_v0 k_v0 dX6_isCounts_10 hm (fun hm => ?_)
    refine rx_lconst (v := 0) C dX6_isCounts_11 rfl ?_
    refine rx_lcmp_ge (tgt := 18) C dX6_isCounts_12 dX6_isCounts_13 (by decide) hm (fun h_2 hm => ?_) (fun h_2 hm => ?_)
    · refine rx_iinc (d := 1) (lv1 := fun v => [(1, .int v), (0, .ref v0)]) C 1 dX6_isCounts_18 hm rfl rfl (by decide) (fun _ => rfl) (fun v1_3 hm => ?_)
      refine rx_goto (tgt := 2) C dX6_isCounts_21 (by decide) ?_
      refine rx_lv [1, 0] rfl ?_
      exact ih _ _ hm hk
    refine rx_iconst (v := 0) C dX6_isCounts_16 rfl ?_
    exact rx_zretR C dX6_isCounts_17 hm
def f_Row_isCounts (fu : Nat) (N : Nat → Nat) (v0 : Nat) (σ : rr_M) : Option (Int32) :=
    l_Row_isCounts_2 fu N v0 σ fu 0 (if rr_b1 1 then some (1) else none)
theorem c_Row_isCounts (l : Launch) (G : rr_G) (hG : G.2.2.1.Nodup) (fu : Nat) (v0 : Nat) (m_v0 : v0 ∈ G.2.2.1) (k_v0 : G.2.2.2.1 v0 = 12) (σ : rr_M) (r : Int32) (hm : f_Row_isCounts fu G.2.2.2.2 v0 σ = some r) : rr_Met l G yX6_isCounts cX6_isCounts 2 (some .boolean) 0 0 [.ref v0] σ σ (some (.int r)) := by
  refine rr_enter (lv0 := [(0, .ref v0)]) hp_Row_isCounts hG (Nat.le_of_ble_eq_true rfl) rfl (fun X hll C => ?_)
  replace C : rr_C X G cX6_isCounts 2 "RootRows$Rows" (some .boolean) 0 0 := C
  unfold f_Row_isCounts at hm
  refine rx_iconst (v := 0) C dX6_isCounts_0 rfl ?_
  refine rx_istore_n (lv1 := [(1, .int 0), (0, .ref v0)]) C dX6_isCounts_1 (by decide) rfl ?_
  refine rx_lv [1, 0] rfl ?_
  refine lw_Row_isCounts_2 hG hll C σ v0 m_v0 k_v0 _ _ _ hm (fun _ hm => ?_)
  refine rx_iconst (v := 1) C dX6_isCounts_24 rfl ?_
  exact rx_zretR C dX6_isCounts_25 hm
def l_Tra_firstFailure_14 (fu : Nat) (N : Nat → Nat) (v0 : Nat) (v1 : Int32) (σ : rr_M) : Nat → Int32 → (Option (Int32)) → Option (Int32)
  | 0, _, _ => none
  | n + 1, v2, kk =>
    if v1 < v2 then (kk) else
    rr_lt (mg_r σ v0 7) fun p_3 =>
    (if rr_ix v2 (N p_3) then
    rr_lt (mg_r σ v0 7) fun p_4 =>
    (if rr_ix (v2 - 1) (N p_4) then
    if (mg_i σ p_3 (rr_n v2)) = ((mg_i σ p_4 (rr_n (v2 - 1))) - 1) then (rr_lt (mg_r σ v0 8) fun p_6 =>
    (if rr_ix v2 (N p_6) then
    rr_lt (mg_r σ v0 8) fun p_7 =>
    (if rr_ix 0 (N p_7) then
    if (mg_i σ p_6 (rr_n v2)) = (mg_i σ p_7 (rr_n 0)) then (rr_lt (v2 + 1) fun v2_9 =>
    l_Tra_firstFailure_14 fu N v0 v1 σ n v2_9 kk) else
    some (v2) else none) else none)) else
    some (v2) else none) else none)
theorem lw_Tra_firstFailure_14 {X : rr_X} {G : rr_G} {l : Launch} {fu : Nat} (hG : G.2.2.1.Nodup) (hll : X.2.1 = l) (C : rr_C X G cX9_firstFailure 3 "RootRows$Tray" (some .int) 1 23) {r : Int32}  (σ : rr_M) (v0 : Nat) (m_v0 : v0 ∈ G.2.2.1) (k_v0 : G.2.2.2.1 v0 = 7) (v1 : Int32) : ∀ (n : Nat) (v2 : Int32) (K : Option (Int32)), l_Tra_firstFailure_14 fu G.2.2.2.2 v0 v1 σ n v2 K = some r → (∀ (_ : Unit), K = some r → rr_J X G 3 (rr_E X G σ (some (.int r))) σ 61 [(0, .ref v0), (1, .int v1)] []) → rr_J X G 3 (rr_E X G σ (some (.int r))) σ 14 [(0, .ref v0), (1, .int v1), (2, .int v2)] [] := by
  intro n
  induction n with
  | zero =>
    intro v2 K hm
    cases hm
  | succ n ih =>
    intro v2 K hm hk
    unfold l_Tra_firstFailure_14 at hm
    refine rx_iload_n C 2 dX9_firstFailure_14 rfl ?_
    refine rx_iload_n C 1 dX9_firstFailure_15 rfl ?_
    refine rx_icmp_gt (tgt := 61) C dX9_firstFailure_16 (by decide) hm (fun h_2 hm => ?_) (fun h_2 hm => ?_)
    · refine rx_lv [0, 1] rfl ?_
      exact hk () hm
    refine rx_aload_n C 0 dX9_firstFailure_19 rfl ?_
    refine gf_52 C m_v0 k_v0 dX9_firstFailure_20 hm (fun p_3 m_p_3 k_p_3 hm => ?_)
    refine rx_iload_n C 2 dX9_firstFailure_23 rfl ?_
    refine rx_iald C m_p_3 k_p_3 dX9_firstFailure_24 hm (fun hm => ?_)
    refine rx_aload_n C 0 dX9_firstFailure_25 rfl ?_
    refine gf_52 C m_v0 k_v0 dX9_firstFailure_26 hm (fun p_4 m_p_4 k_p_4 hm => ?_)
    refine rx_iload_n C 2 dX9_firstFailure_29 rfl ?_
    refine rx_iconst (v := 1) C dX9_firstFailure_30 rfl ?_
    refine rx_isub C dX9_firstFailure_31 ?_
    refine rx_iald C m_p_4 k_p_4 dX9_firstFailure_32 hm (fun hm => ?_)
    refine rx_iconst (v := 1) C dX9_firstFailure_33 rfl ?_
    refine rx_isub C dX9_firstFailure_34 ?_
    refine rx_icmp_ne (tgt := 53) C dX9_firstFailure_35 (by decide) hm (fun h_5 hm => ?_) (fun h_5 hm => ?_)
    · refine rx_iload_n C 2 dX9_firstFailure_53 rfl ?_
      exact rx_iretR C dX9_firstFailure_54 hm
    refine rx_aload_n C 0 dX9_firstFailure_38 rfl ?_
    refine gf_55 C m_v0 k_v0 dX9_firstFailure_39 hm (fun p_6 m_p_6 k_p_6 hm => ?_)
    refine rx_iload_n C 2 dX9_firstFailure_42 rfl ?_
    refine rx_iald C m_p_6 k_p_6 dX9_firstFailure_43 hm (fun hm => ?_)
    refine rx_aload_n C 0 dX9_firstFailure_44 rfl ?_
    refine gf_55 C m_v0 k_v0 dX9_firstFailure_45 hm (fun p_7 m_p_7 k_p_7 hm => ?_)
    refine rx_iconst (v := 0) C dX9_firstFailure_48 rfl ?_
    refine rx_iald C m_p_7 k_p_7 dX9_firstFailure_49 hm (fun hm => ?_)
    refine rx_icmp_eq (tgt := 55) C dX9_firstFailure_50 (by decide) hm (fun h_8 hm => ?_) (fun h_8 hm => ?_)
    · refine rx_iinc (d := 1) (lv1 := fun v => [(2, .int v), (0, .ref v0), (1, .int v1)]) C 2 dX9_firstFailure_55 hm rfl rfl (by decide) (fun _ => rfl) (fun v2_9 hm => ?_)
      refine rx_goto (tgt := 14) C dX9_firstFailure_58 (by decide) ?_
      refine rx_lv [1, 2, 0] rfl ?_
      exact ih _ _ hm hk
    refine rx_iload_n C 2 dX9_firstFailure_53 rfl ?_
    exact rx_iretR C dX9_firstFailure_54 hm
def f_Tra_firstFailure (fu : Nat) (N : Nat → Nat) (v0 : Nat) (σ : rr_M) : Option (Int32) :=
    rr_lt ((rr_mn (mg_i σ v0 6) 10) - 1) fun v1_1 =>
    l_Tra_firstFailure_14 fu N v0 v1_1 σ fu 1 (if v1_1 < 0 then (some ((-1))) else
    rr_lt (mg_r σ v0 7) fun p_11 =>
    (if rr_ix v1_1 (N p_11) then
    if (mg_i σ p_11 (rr_n v1_1)) ≤ 0 then (some ((-1))) else
    some (mg_i σ v0 6) else none))
theorem c_Tra_firstFailure (l : Launch) (G : rr_G) (hG : G.2.2.1.Nodup) (fu : Nat) (v0 : Nat) (m_v0 : v0 ∈ G.2.2.1) (k_v0 : G.2.2.2.1 v0 = 7) (σ : rr_M) (r : Int32) (hm : f_Tra_firstFailure fu G.2.2.2.2 v0 σ = some r) : rr_Met l G yX9_firstFailure cX9_firstFailure 3 (some .int) 1 23 [.ref v0] σ σ (some (.int r)) := by
  refine rr_enter (lv0 := [(0, .ref v0)]) hp_Tra_firstFailure hG (Nat.le_of_ble_eq_true rfl) rfl (fun X hll C => ?_)
  replace C : rr_C X G cX9_firstFailure 3 "RootRows$Tray" (some .int) 1 23 := C
  unfold f_Tra_firstFailure at hm
  refine rx_aload_n C 0 dX9_firstFailure_0 rfl ?_
  refine gf_50 C m_v0 k_v0 dX9_firstFailure_1 ?_
  refine rx_bipush (v := 10) C dX9_firstFailure_4 rfl ?_
  refine rx_mmin (rest := []) C q_808 (by decide) (by decide) (Nat.le_of_ble_eq_true rfl) dX9_firstFailure_6 ?_
  refine rx_iconst (v := 1) C dX9_firstFailure_9 rfl ?_
  refine rx_isub C dX9_firstFailure_10 ?_
  refine rx_nmi hm (fun v1_1 ev1_1 hm => ?_)
  refine rx_istore_n (lv1 := [(1, .int v1_1), (0, .ref v0)]) C dX9_firstFailure_11 (by decide) rfl ?_
  refine rx_iconst (v := 1) C dX9_firstFailure_12 rfl ?_
  refine rx_istore_n (lv1 := [(2, .int 1), (1, .int v1_1), (0, .ref v0)]) C dX9_firstFailure_13 (by decide) rfl ?_
  refine rx_lv [2, 1, 0] rfl ?_
  refine lw_Tra_firstFailure_14 hG hll C σ v0 m_v0 k_v0 v1_1 _ _ _ hm (fun _ hm => ?_)
  refine rx_iload_n C 1 dX9_firstFailure_61 rfl ?_
  refine rx_if_lt (tgt := 81) C dX9_firstFailure_62 (by decide) hm (fun h_10 hm => ?_) (fun h_10 hm => ?_)
  · refine rx_iconst (v := (-1)) C dX9_firstFailure_81 rfl ?_
    exact rx_iretR C dX9_firstFailure_82 hm
  refine rx_aload_n C 0 dX9_firstFailure_65 rfl ?_
  refine gf_52 C m_v0 k_v0 dX9_firstFailure_66 hm (fun p_11 m_p_11 k_p_11 hm => ?_)
  refine rx_iload_n C 1 dX9_firstFailure_69 rfl ?_
  refine rx_iald C m_p_11 k_p_11 dX9_firstFailure_70 hm (fun hm => ?_)
  refine rx_if_le (tgt := 81) C dX9_firstFailure_71 (by decide) hm (fun h_12 hm => ?_) (fun h_12 hm => ?_)
  · refine rx_iconst (v := (-1)) C dX9_firstFailure_81 rfl ?_
    exact rx_iretR C dX9_firstFailure_82 hm
  refine rx_aload_n C 0 dX9_firstFailure_74 rfl ?_
  refine gf_50 C m_v0 k_v0 dX9_firstFailure_75 ?_
  refine rx_goto (tgt := 82) C dX9_firstFailure_78 (by decide) ?_
  exact rx_iretR C dX9_firstFailure_82 hm
def l_Tap_append_3 (fu : Nat) (N : Nat → Nat) (v0 : Nat) (v1 : Int32) : Nat → Int32 → rr_M → (rr_M → Option (Unit × rr_M)) → Option (Unit × rr_M)
  | 0, _, _, _ => none
  | n + 1, v2, σ, kk =>
    if v2 < 0 then (kk σ) else
    if 200 ≤ (mg_i σ v0 1) then (kk σ) else
    rr_lt (mg_r σ v0 0) fun p_3 =>
    (if rr_ix (mg_i σ v0 1) (N p_3) then rr_lt (ms_i σ p_3 (rr_n (mg_i σ v0 1)) ((v1 >>> (v2 &&& 31)) &&& 255)) fun σ_4 =>
    rr_lt (ms_i σ_4 v0 1 ((mg_i σ_4 v0 1) + 1)) fun σ_5 =>
    rr_lt (v2 + (-8)) fun v2_6 =>
    l_Tap_append_3 fu N v0 v1 n v2_6 σ_5 kk else none)
theorem lw_Tap_append_3 {X : rr_X} {G : rr_G} {l : Launch} {fu : Nat} (hG : G.2.2.1.Nodup) (hll : X.2.1 = l) (C : rr_C X G cX8_append 3 "RootRows$Tape" none 0 0) {σr : rr_M} (v0 : Nat) (m_v0 : v0 ∈ G.2.2.1) (k_v0 : G.2.2.2.1 v0 = 6) (v1 : Int32) : ∀ (n : Nat) (v2 : Int32) (σ : rr_M) (K : rr_M → Option (Unit × rr_M)), l_Tap_append_3 fu G.2.2.2.2 v0 v1 n v2 σ K = some ((), σr) → (∀ (σ1 : rr_M), K σ1 = some ((), σr) → rr_J X G 3 (rr_E X G σr none) σ1 49 [] []) → rr_J X G 3 (rr_E X G σr none) σ 3 [(0, .ref v0), (1, .int v1), (2, .int v2)] [] := by
  intro n
  induction n with
  | zero =>
    intro v2 σ K hm
    cases hm
  | succ n ih =>
    intro v2 σ K hm hk
    unfold l_Tap_append_3 at hm
    refine rx_iload_n C 2 dX8_append_3 rfl ?_
    refine rx_if_lt (tgt := 49) C dX8_append_4 (by decide) hm (fun h_1 hm => ?_) (fun h_1 hm => ?_)
    · refine rx_lv [] rfl ?_
      exact hk _ hm
    refine rx_aload_n C 0 dX8_append_7 rfl ?_
    refine gf_104 C m_v0 k_v0 dX8_append_8 ?_
    refine rx_sipush (v := 200) C dX8_append_11 rfl ?_
    refine rx_icmp_ge (tgt := 49) C dX8_append_14 (by decide) hm (fun h_2 hm => ?_) (fun h_2 hm => ?_)
    · refine rx_lv [] rfl ?_
      exact hk _ hm
    refine rx_aload_n C 0 dX8_append_17 rfl ?_
    refine gf_103 C m_v0 k_v0 dX8_append_18 hm (fun p_3 m_p_3 k_p_3 hm => ?_)
    refine rx_aload_n C 0 dX8_append_21 rfl ?_
    refine gf_104 C m_v0 k_v0 dX8_append_22 ?_
    refine rx_iload_n C 1 dX8_append_25 rfl ?_
    refine rx_iload_n C 2 dX8_append_26 rfl ?_
    refine rx_ishr C dX8_append_27 ?_
    refine rx_sipush (v := 255) C dX8_append_28 rfl ?_
    refine rx_iand C dX8_append_31 ?_
    refine rx_iast C m_p_3 k_p_3 dX8_append_32 hm (fun σ_4 hm => ?_)
    refine rx_aload_n C 0 dX8_append_33 rfl ?_
    refine rx_dup C dX8_append_34 rfl ?_
    refine gf_104 C m_v0 k_v0 dX8_append_35 ?_
    refine rx_iconst (v := 1) C dX8_append_38 rfl ?_
    refine rx_iadd C dX8_append_39 ?_
    refine pf_104 C m_v0 k_v0 dX8_append_40 hm (fun σ_5 hm => ?_)
    refine rx_iinc (d := (-8)) (lv1 := fun v => [(2, .int v), (0, .ref v0), (1, .int v1)]) C 2 dX8_append_43 hm rfl rfl (by decide) (fun _ => rfl) (fun v2_6 hm => ?_)
    refine rx_goto (tgt := 3) C dX8_append_46 (by decide) ?_
    refine rx_lv [1, 2, 0] rfl ?_
    exact ih _ _ _ hm hk
def f_Tap_append (fu : Nat) (N : Nat → Nat) (v0 : Nat) (v1 : Int32) (σ : rr_M) : Option (Unit × rr_M) :=
    l_Tap_append_3 fu N v0 v1 fu 24 σ (fun σ_7 =>
    some ((), σ_7))
theorem c_Tap_append (l : Launch) (G : rr_G) (hG : G.2.2.1.Nodup) (fu : Nat) (v0 : Nat) (m_v0 : v0 ∈ G.2.2.1) (k_v0 : G.2.2.2.1 v0 = 6) (v1 : Int32) (σ : rr_M) (σr : rr_M) (hm : f_Tap_append fu G.2.2.2.2 v0 v1 σ = some ((), σr)) : rr_Met l G yX8_append cX8_append 3 none 0 0 [.ref v0, .int v1] σ σr none := by
  refine rr_enter (lv0 := [(0, .ref v0), (1, .int v1)]) hp_Tap_append hG (Nat.le_of_ble_eq_true rfl) rfl (fun X hll C => ?_)
  replace C : rr_C X G cX8_append 3 "RootRows$Tape" none 0 0 := C
  unfold f_Tap_append at hm
  refine rx_bipush (v := 24) C dX8_append_0 rfl ?_
  refine rx_istore_n (lv1 := [(2, .int 24), (0, .ref v0), (1, .int v1)]) C dX8_append_2 (by decide) rfl ?_
  refine rx_lv [1, 2, 0] rfl ?_
  refine lw_Tap_append_3 hG hll C v0 m_v0 k_v0 v1 _ _ _ _ hm (fun σ_7 hm => ?_)
  exact rx_vret C dX8_append_49 hm
def f_Tap_hasRoom (v0 : Nat) (σ : rr_M) : Option (Int32) :=
    if 200 < ((mg_i σ v0 1) + 20) then (if rr_b1 0 then some (0) else none) else
    if rr_b1 1 then some (1) else none
theorem c_Tap_hasRoom (l : Launch) (G : rr_G) (hG : G.2.2.1.Nodup) (v0 : Nat) (m_v0 : v0 ∈ G.2.2.1) (k_v0 : G.2.2.2.1 v0 = 6) (σ : rr_M) (r : Int32) (hm : f_Tap_hasRoom v0 σ = some r) : rr_Met l G yX8_hasRoom cX8_hasRoom 1 (some .boolean) 0 0 [.ref v0] σ σ (some (.int r)) := by
  refine rr_enter (lv0 := [(0, .ref v0)]) hp_Tap_hasRoom hG (Nat.le_of_ble_eq_true rfl) rfl (fun X hll C => ?_)
  replace C : rr_C X G cX8_hasRoom 1 "RootRows$Tape" (some .boolean) 0 0 := C
  unfold f_Tap_hasRoom at hm
  refine rx_aload_n C 0 dX8_hasRoom_0 rfl ?_
  refine gf_104 C m_v0 k_v0 dX8_hasRoom_1 ?_
  refine rx_bipush (v := 20) C dX8_hasRoom_4 rfl ?_
  refine rx_iadd C dX8_hasRoom_6 ?_
  refine rx_sipush (v := 200) C dX8_hasRoom_7 rfl ?_
  refine rx_icmp_gt (tgt := 17) C dX8_hasRoom_10 (by decide) hm (fun h_1 hm => ?_) (fun h_1 hm => ?_)
  · refine rx_iconst (v := 0) C dX8_hasRoom_17 rfl ?_
    exact rx_zretR C dX8_hasRoom_18 hm
  refine rx_iconst (v := 1) C dX8_hasRoom_13 rfl ?_
  refine rx_goto (tgt := 18) C dX8_hasRoom_14 (by decide) ?_
  exact rx_zretR C dX8_hasRoom_18 hm
def l_Mak_addNumbers_3 (fu : Nat) (N : Nat → Nat) (v0 : Nat) (v1 : Nat) (v2 : Int32) (v3 : Int64) : Nat → Int32 → rr_M → (rr_M → Option (Unit × rr_M)) → Option (Unit × rr_M)
  | 0, _, _, _ => none
  | n + 1, v5, σ, kk =>
    if (nI (N v1)) ≤ v5 then (kk σ) else
    if 17 ≤ (v5 + v2) then (kk σ) else
    rr_lt (mg_r σ v0 0) fun p_3 =>
    (if rr_ix (v5 + v2) (N p_3) then
    (if rr_ix v5 (N v1) then
    (if rr_ix (v5 + v2) (N p_3) then rr_lt (ms_l σ p_3 (rr_n (v5 + v2)) ((mg_l σ p_3 (rr_n (v5 + v2))) + (v3 * (mg_l σ v1 (rr_n v5))))) fun σ_4 =>
    rr_lt (v5 + 1) fun v5_5 =>
    l_Mak_addNumbers_3 fu N v0 v1 v2 v3 n v5_5 σ_4 kk else none) else none) else none)
theorem lw_Mak_addNumbers_3 {X : rr_X} {G : rr_G} {l : Launch} {fu : Nat} (hG : G.2.2.1.Nodup) (hll : X.2.1 = l) (C : rr_C X G cX2_addNumbers 6 "RootRows$Maker" none 0 0) {σr : rr_M} (v0 : Nat) (m_v0 : v0 ∈ G.2.2.1) (k_v0 : G.2.2.2.1 v0 = 2) (v1 : Nat) (m_v1 : v1 ∈ G.2.2.1) (k_v1 : G.2.2.2.1 v1 = 12) (v2 : Int32) (v3 : Int64) : ∀ (n : Nat) (v5 : Int32) (σ : rr_M) (K : rr_M → Option (Unit × rr_M)), l_Mak_addNumbers_3 fu G.2.2.2.2 v0 v1 v2 v3 n v5 σ K = some ((), σr) → (∀ (σ1 : rr_M), K σ1 = some ((), σr) → rr_J X G 6 (rr_E X G σr none) σ1 43 [] []) → rr_J X G 6 (rr_E X G σr none) σ 3 [(0, .ref v0), (1, .ref v1), (2, .int v2), (3, .long v3), (5, .int v5)] [] := by
  intro n
  induction n with
  | zero =>
    intro v5 σ K hm
    cases hm
  | succ n ih =>
    intro v5 σ K hm hk
    unfold l_Mak_addNumbers_3 at hm
    refine rx_iload C 4 dX2_addNumbers_3 rfl ?_
    refine rx_aload_n C 1 dX2_addNumbers_5 rfl ?_
    refine rx_alen C m_v1 k_v1 (by decide) dX2_addNumbers_6 ?_
    refine rx_icmp_ge (tgt := 43) C dX2_addNumbers_7 (by decide) hm (fun h_1 hm => ?_) (fun h_1 hm => ?_)
    · refine rx_lv [] rfl ?_
      exact hk _ hm
    refine rx_iload C 4 dX2_addNumbers_10 rfl ?_
    refine rx_iload_n C 2 dX2_addNumbers_12 rfl ?_
    refine rx_iadd C dX2_addNumbers_13 ?_
    refine rx_bipush (v := 17) C dX2_addNumbers_14 rfl ?_
    refine rx_icmp_ge (tgt := 43) C dX2_addNumbers_16 (by decide) hm (fun h_2 hm => ?_) (fun h_2 hm => ?_)
    · refine rx_lv [] rfl ?_
      exact hk _ hm
    refine rx_aload_n C 0 dX2_addNumbers_19 rfl ?_
    refine gf_137 C m_v0 k_v0 dX2_addNumbers_20 hm (fun p_3 m_p_3 k_p_3 hm => ?_)
    refine rx_iload C 4 dX2_addNumbers_23 rfl ?_
    refine rx_iload_n C 2 dX2_addNumbers_25 rfl ?_
    refine rx_iadd C dX2_addNumbers_26 ?_
    refine rx_dup2_11 C dX2_addNumbers_27 rfl rfl ?_
    refine rx_lald C m_p_3 k_p_3 dX2_addNumbers_28 hm (fun hm => ?_)
    refine rx_lload_n C 3 dX2_addNumbers_29 rfl ?_
    refine rx_aload_n C 1 dX2_addNumbers_30 rfl ?_
    refine rx_iload C 4 dX2_addNumbers_31 rfl ?_
    refine rx_lald C m_v1 k_v1 dX2_addNumbers_33 hm (fun hm => ?_)
    refine rx_lmul C dX2_addNumbers_34 ?_
    refine rx_ladd C dX2_addNumbers_35 ?_
    refine rx_last C m_p_3 k_p_3 dX2_addNumbers_36 hm (fun σ_4 hm => ?_)
    refine rx_iinc (d := 1) (lv1 := fun v => [(5, .int v), (0, .ref v0), (1, .ref v1), (2, .int v2), (3, .long v3)]) C 4 dX2_addNumbers_37 hm rfl rfl (by decide) (fun _ => rfl) (fun v5_5 hm => ?_)
    refine rx_goto (tgt := 3) C dX2_addNumbers_40 (by decide) ?_
    refine rx_lv [1, 2, 3, 4, 0] rfl ?_
    exact ih _ _ _ hm hk
def f_Mak_addNumbers (fu : Nat) (N : Nat → Nat) (v0 : Nat) (v1 : Nat) (v2 : Int32) (v3 : Int64) (σ : rr_M) : Option (Unit × rr_M) :=
    l_Mak_addNumbers_3 fu N v0 v1 v2 v3 fu 0 σ (fun σ_6 =>
    some ((), σ_6))
theorem c_Mak_addNumbers (l : Launch) (G : rr_G) (hG : G.2.2.1.Nodup) (fu : Nat) (v0 : Nat) (m_v0 : v0 ∈ G.2.2.1) (k_v0 : G.2.2.2.1 v0 = 2) (v1 : Nat) (m_v1 : v1 ∈ G.2.2.1) (k_v1 : G.2.2.2.1 v1 = 12) (v2 : Int32) (v3 : Int64) (σ : rr_M) (σr : rr_M) (hm : f_Mak_addNumbers fu G.2.2.2.2 v0 v1 v2 v3 σ = some ((), σr)) : rr_Met l G yX2_addNumbers cX2_addNumbers 6 none 0 0 [.ref v0, .ref v1, .int v2, .long v3] σ σr none := by
  refine rr_enter (lv0 := [(0, .ref v0), (1, .ref v1), (2, .int v2), (3, .long v3)]) hp_Mak_addNumbers hG (Nat.le_of_ble_eq_true rfl) rfl (fun X hll C => ?_)
  replace C : rr_C X G cX2_addNumbers 6 "RootRows$Maker" none 0 0 := C
  unfold f_Mak_addNumbers at hm
  refine rx_iconst (v := 0) C dX2_addNumbers_0 rfl ?_
  refine rx_istore (lv1 := [(5, .int 0), (0, .ref v0), (1, .ref v1), (2, .int v2), (3, .long v3)]) C dX2_addNumbers_1 (by decide) rfl ?_
  refine rx_lv [1, 2, 3, 4, 0] rfl ?_
  refine lw_Mak_addNumbers_3 hG hll C v0 m_v0 k_v0 v1 m_v1 k_v1 v2 v3 _ _ _ _ hm (fun σ_6 hm => ?_)
  exact rx_vret C dX2_addNumbers_43 hm
def l_Mak_clear_2 (fu : Nat) (N : Nat → Nat) (v0 : Nat) : Nat → Int32 → rr_M → (rr_M → Option (Unit × rr_M)) → Option (Unit × rr_M)
  | 0, _, _, _ => none
  | n + 1, v1, σ, kk =>
    if 17 ≤ v1 then (kk σ) else
    rr_lt (mg_r σ v0 0) fun p_2 =>
    (if rr_ix v1 (N p_2) then rr_lt (ms_l σ p_2 (rr_n v1) 0) fun σ_3 =>
    rr_lt (v1 + 1) fun v1_4 =>
    l_Mak_clear_2 fu N v0 n v1_4 σ_3 kk else none)
theorem lw_Mak_clear_2 {X : rr_X} {G : rr_G} {l : Launch} {fu : Nat} (hG : G.2.2.1.Nodup) (hll : X.2.1 = l) (C : rr_C X G cX2_clear 2 "RootRows$Maker" none 0 0) {σr : rr_M} (v0 : Nat) (m_v0 : v0 ∈ G.2.2.1) (k_v0 : G.2.2.2.1 v0 = 2) : ∀ (n : Nat) (v1 : Int32) (σ : rr_M) (K : rr_M → Option (Unit × rr_M)), l_Mak_clear_2 fu G.2.2.2.2 v0 n v1 σ K = some ((), σr) → (∀ (σ1 : rr_M), K σ1 = some ((), σr) → rr_J X G 2 (rr_E X G σr none) σ1 21 [] []) → rr_J X G 2 (rr_E X G σr none) σ 2 [(0, .ref v0), (1, .int v1)] [] := by
  intro n
  induction n with
  | zero =>
    intro v1 σ K hm
    cases hm
  | succ n ih =>
    intro v1 σ K hm hk
    unfold l_Mak_clear_2 at hm
    refine rx_iload_n C 1 dX2_clear_2 rfl ?_
    refine rx_bipush (v := 17) C dX2_clear_3 rfl ?_
    refine rx_icmp_ge (tgt := 21) C dX2_clear_5 (by decide) hm (fun h_1 hm => ?_) (fun h_1 hm => ?_)
    · refine rx_lv [] rfl ?_
      exact hk _ hm
    refine rx_aload_n C 0 dX2_clear_8 rfl ?_
    refine gf_137 C m_v0 k_v0 dX2_clear_9 hm (fun p_2 m_p_2 k_p_2 hm => ?_)
    refine rx_iload_n C 1 dX2_clear_12 rfl ?_
    refine rx_lconst (v := 0) C dX2_clear_13 rfl ?_
    refine rx_last C m_p_2 k_p_2 dX2_clear_14 hm (fun σ_3 hm => ?_)
    refine rx_iinc (d := 1) (lv1 := fun v => [(1, .int v), (0, .ref v0)]) C 1 dX2_clear_15 hm rfl rfl (by decide) (fun _ => rfl) (fun v1_4 hm => ?_)
    refine rx_goto (tgt := 2) C dX2_clear_18 (by decide) ?_
    refine rx_lv [1, 0] rfl ?_
    exact ih _ _ _ hm hk
def f_Mak_clear (fu : Nat) (N : Nat → Nat) (v0 : Nat) (σ : rr_M) : Option (Unit × rr_M) :=
    l_Mak_clear_2 fu N v0 fu 0 σ (fun σ_5 =>
    some ((), σ_5))
theorem c_Mak_clear (l : Launch) (G : rr_G) (hG : G.2.2.1.Nodup) (fu : Nat) (v0 : Nat) (m_v0 : v0 ∈ G.2.2.1) (k_v0 : G.2.2.2.1 v0 = 2) (σ : rr_M) (σr : rr_M) (hm : f_Mak_clear fu G.2.2.2.2 v0 σ = some ((), σr)) : rr_Met l G yX2_clear cX2_clear 2 none 0 0 [.ref v0] σ σr none := by
  refine rr_enter (lv0 := [(0, .ref v0)]) hp_Mak_clear hG (Nat.le_of_ble_eq_true rfl) rfl (fun X hll C => ?_)
  replace C : rr_C X G cX2_clear 2 "RootRows$Maker" none 0 0 := C
  unfold f_Mak_clear at hm
  refine rx_iconst (v := 0) C dX2_clear_0 rfl ?_
  refine rx_istore_n (lv1 := [(1, .int 0), (0, .ref v0)]) C dX2_clear_1 (by decide) rfl ?_
  refine rx_lv [1, 0] rfl ?_
  refine lw_Mak_clear_2 hG hll C v0 m_v0 k_v0 _ _ _ _ hm (fun σ_5 hm => ?_)
  exact rx_vret C dX2_clear_21 hm
def l_Num_fits_2 (fu : Nat) (N : Nat → Nat) (v0 : Nat) (σ : rr_M) : Nat → Int32 → (Option (Int32)) → Option (Int32)
  | 0, _, _ => none
  | n + 1, v1, kk =>
    if (nI (N v0)) ≤ v1 then (kk) else
    rr_jn (fun (t_2 : Int64) =>
    (if rr_ix v1 (N v0) then
    if t_2 < (mg_l σ v0 (rr_n v1)) then (if rr_b1 0 then some (0) else none) else
    (if rr_ix v1 (N v0) then
    if (-t_2) ≤ (mg_l σ v0 (rr_n v1)) then (rr_lt (v1 + 1) fun v1_5 =>
    l_Num_fits_2 fu N v0 σ n v1_5 kk) else
    if rr_b1 0 then some (0) else none else none) else none)) fun j21 =>
    if 8 < v1 then (j21 0) else
    j21 100000000
theorem lw_Num_fits_2 {X : rr_X} {G : rr_G} {l : Launch} {fu : Nat} (hG : G.2.2.1.Nodup) (hll : X.2.1 = l) (C : rr_C X G cX3_fits 4 "RootRows$Numbers" (some .boolean) 0 0) {r : Int32}  (σ : rr_M) (v0 : Nat) (m_v0 : v0 ∈ G.2.2.1) (k_v0 : G.2.2.2.1 v0 = 12) : ∀ (n : Nat) (v1 : Int32) (K : Option (Int32)), l_Num_fits_2 fu G.2.2.2.2 v0 σ n v1 K = some r → (∀ (_ : Unit), K = some r → rr_J X G 4 (rr_E X G σ (some (.int r))) σ 47 [] []) → rr_J X G 4 (rr_E X G σ (some (.int r))) σ 2 [(0, .ref v0), (1, .int v1)] [] := by
  intro n
  induction n with
  | zero =>
    intro v1 K hm
    cases hm
  | succ n ih =>
    intro v1 K hm hk
    unfold l_Num_fits_2 at hm
    refine rx_iload_n C 1 dX3_fits_2 rfl ?_
    refine rx_aload_n C 0 dX3_fits_3 rfl ?_
    refine rx_alen C m_v0 k_v0 (by decide) dX3_fits_4 ?_
    refine rx_icmp_ge (tgt := 47) C dX3_fits_5 (by decide) hm (fun h_1 hm => ?_) (fun h_1 hm => ?_)
    · refine rx_lv [] rfl ?_
      exact hk () hm
    refine rx_iload_n C 1 dX3_fits_8 rfl ?_
    refine rx_bipush (v := 8) C dX3_fits_9 rfl ?_
    refine rr_jn1 hm (fun j21 ej21 hm => ?_)
    have hj21 : ∀ (t_2 : Int64), j21 t_2 = some r → rr_J X G 4 (rr_E X G σ (some (.int r))) σ 21 [(0, .ref v0), (1, .int v1)] [.long t_2] := by
      intro t_2 hm
      replace hm := ej21 _ hm
      refine rx_lstore_n (lv1 := [(2, .long t_2), (0, .ref v0), (1, .int v1)]) C dX3_fits_21 (by decide) rfl ?_
      refine rx_aload_n C 1 dX3_fits_22 rfl ?_
      refine rx_iload_n C 2 dX3_fits_23 rfl ?_
      refine rx_lald C m_v0 k_v0 dX3_fits_24 hm (fun hm => ?_)
      refine rx_lload_n C 0 dX3_fits_25 rfl ?_
      refine rx_lcmp_gt (tgt := 39) C dX3_fits_26 dX3_fits_27 (by decide) hm (fun h_3 hm => ?_) (fun h_3 hm => ?_)
      · refine rx_iconst (v := 0) C dX3_fits_39 rfl ?_
        exact rx_zretR C dX3_fits_40 hm
      refine rx_aload_n C 1 dX3_fits_30 rfl ?_
      refine rx_iload_n C 2 dX3_fits_31 rfl ?_
      refine rx_lald C m_v0 k_v0 dX3_fits_32 hm (fun hm => ?_)
      refine rx_lload_n C 0 dX3_fits_33 rfl ?_
      refine rx_lneg C dX3_fits_34 ?_
      refine rx_lcmp_ge (tgt := 41) C dX3_fits_35 dX3_fits_36 (by decide) hm (fun h_4 hm => ?_) (fun h_4 hm => ?_)
      · refine rx_iinc (d := 1) (lv1 := fun v => [(1, .int v), (2, .long t_2), (0, .ref v0)]) C 2 dX3_fits_41 hm rfl rfl (by decide) (fun _ => rfl) (fun v1_5 hm => ?_)
        refine rx_goto (tgt := 2) C dX3_fits_44 (by decide) ?_
        refine rx_lv [2, 0] rfl ?_
        exact ih _ _ hm hk
      refine rx_iconst (v := 0) C dX3_fits_39 rfl ?_
      exact rx_zretR C dX3_fits_40 hm
    refine rx_icmp_gt (tgt := 20) C dX3_fits_11 (by decide) hm (fun h_6 hm => ?_) (fun h_6 hm => ?_)
    · refine rx_lconst (v := 0) C dX3_fits_20 rfl ?_
      refine rx_lv [0, 1] rfl ?_
      exact hj21 _ hm
    refine rx_ldc2 C q_426 dX3_fits_14 ?_
    refine rx_goto (tgt := 21) C dX3_fits_17 (by decide) ?_
    refine rx_lv [0, 1] rfl ?_
    exact hj21 _ hm
def f_Num_fits (fu : Nat) (N : Nat → Nat) (v0 : Nat) (σ : rr_M) : Option (Int32) :=
    l_Num_fits_2 fu N v0 σ fu 0 (if rr_b1 1 then some (1) else none)
theorem c_Num_fits (l : Launch) (G : rr_G) (hG : G.2.2.1.Nodup) (fu : Nat) (v0 : Nat) (m_v0 : v0 ∈ G.2.2.1) (k_v0 : G.2.2.2.1 v0 = 12) (σ : rr_M) (r : Int32) (hm : f_Num_fits fu G.2.2.2.2 v0 σ = some r) : rr_Met l G yX3_fits cX3_fits 4 (some .boolean) 0 0 [.ref v0] σ σ (some (.int r)) := by
  refine rr_enter (lv0 := [(0, .ref v0)]) hp_Num_fits hG (Nat.le_of_ble_eq_true rfl) rfl (fun X hll C => ?_)
  replace C : rr_C X G cX3_fits 4 "RootRows$Numbers" (some .boolean) 0 0 := C
  unfold f_Num_fits at hm
  refine rx_iconst (v := 0) C dX3_fits_0 rfl ?_
  refine rx_istore_n (lv1 := [(1, .int 0), (0, .ref v0)]) C dX3_fits_1 (by decide) rfl ?_
  refine rx_lv [1, 0] rfl ?_
  refine lw_Num_fits_2 hG hll C σ v0 m_v0 k_v0 _ _ _ hm (fun _ hm => ?_)
  refine rx_iconst (v := 1) C dX3_fits_47 rfl ?_
  exact rx_zretR C dX3_fits_48 hm
def f_Mak_sum (fu : Nat) (N : Nat → Nat) (v0 : Nat) (v1 : Nat) (v2 : Nat) (v3 : Int32) (v4 : Int32) (σ : rr_M) : Option (Int32 × rr_M) :=
    rr_bd (f_Mak_clear fu N v0 σ) fun _ σ_1 =>
    rr_bd (f_Mak_addNumbers fu N v0 v1 0 v3.toInt64 σ_1) fun _ σ_3 =>
    rr_bd (f_Mak_addNumbers fu N v0 v2 0 v4.toInt64 σ_3) fun _ σ_5 =>
    rr_lt (mg_r σ_5 v0 0) fun p_7 =>
    Option.bind (f_Num_fits fu N p_7 σ_5) fun r_8 =>
    if rr_b1 r_8 then some (r_8, σ_5) else none
theorem c_Mak_sum (l : Launch) (G : rr_G) (hG : G.2.2.1.Nodup) (fu : Nat) (v0 : Nat) (m_v0 : v0 ∈ G.2.2.1) (k_v0 : G.2.2.2.1 v0 = 2) (v1 : Nat) (m_v1 : v1 ∈ G.2.2.1) (k_v1 : G.2.2.2.1 v1 = 12) (v2 : Nat) (m_v2 : v2 ∈ G.2.2.1) (k_v2 : G.2.2.2.1 v2 = 12) (v3 : Int32) (v4 : Int32) (σ : rr_M) (r : Int32) (σr : rr_M) (hm : f_Mak_sum fu G.2.2.2.2 v0 v1 v2 v3 v4 σ = some (r, σr)) : rr_Met l G yX2_sum cX2_sum 5 (some .boolean) 1 25 [.ref v0, .ref v1, .ref v2, .int v3, .int v4] σ σr (some (.int r)) := by
  refine rr_enter (lv0 := [(0, .ref v0), (1, .ref v1), (2, .ref v2), (3, .int v3), (4, .int v4)]) hp_Mak_sum hG (Nat.le_of_ble_eq_true rfl) rfl (fun X hll C => ?_)
  replace C : rr_C X G cX2_sum 5 "RootRows$Maker" (some .boolean) 1 25 := C
  unfold f_Mak_sum at hm
  refine rx_aload_n C 0 dX2_sum_0 rfl ?_
  obtain ⟨_, σ_1, hc_2, hm⟩ := rr_bd_some hm
  refine rr_callV (rest := []) (st1 := []) C 2 hll (c_Mak_clear l G hG fu v0 m_v0 k_v0 σ _ hc_2) q_463 q_465 qs_10 q_4 q_466 hd_Mak_clear ⟨_, rfl, rfl⟩ (by decide) m_v0 k_v0 ⟨by decide, by decide⟩ rfl rfl (Nat.le_of_ble_eq_true rfl) rfl dX2_sum_1 ?_
  refine rx_aload_n C 0 dX2_sum_4 rfl ?_
  refine rx_aload_n C 1 dX2_sum_5 rfl ?_
  refine rx_iconst (v := 0) C dX2_sum_6 rfl ?_
  refine rx_iload_n C 3 dX2_sum_7 rfl ?_
  refine rx_i2l C dX2_sum_8 ?_
  obtain ⟨_, σ_3, hc_4, hm⟩ := rr_bd_some hm
  refine rr_callV (rest := []) (st1 := []) C 2 hll (c_Mak_addNumbers l G hG fu v0 m_v0 k_v0 v1 m_v1 k_v1 0 v3.toInt64 σ_1 _ hc_4) q_471 q_473 qs_12 q_4 q_474 hd_Mak_addNumbers ⟨_, rfl, rfl⟩ (by decide) m_v0 k_v0 ⟨by decide, by decide⟩ rfl rfl (Nat.le_of_ble_eq_true rfl) rfl dX2_sum_9 ?_
  refine rx_aload_n C 0 dX2_sum_12 rfl ?_
  refine rx_aload_n C 2 dX2_sum_13 rfl ?_
  refine rx_iconst (v := 0) C dX2_sum_14 rfl ?_
  refine rx_iload C 4 dX2_sum_15 rfl ?_
  refine rx_i2l C dX2_sum_17 ?_
  obtain ⟨_, σ_5, hc_6, hm⟩ := rr_bd_some hm
  refine rr_callV (rest := []) (st1 := []) C 2 hll (c_Mak_addNumbers l G hG fu v0 m_v0 k_v0 v2 m_v2 k_v2 0 v4.toInt64 σ_3 _ hc_6) q_471 q_473 qs_12 q_4 q_474 hd_Mak_addNumbers ⟨_, rfl, rfl⟩ (by decide) m_v0 k_v0 ⟨by decide, by decide⟩ rfl rfl (Nat.le_of_ble_eq_true rfl) rfl dX2_sum_18 ?_
  refine rx_aload_n C 0 dX2_sum_21 rfl ?_
  refine gf_137 C m_v0 k_v0 dX2_sum_22 hm (fun p_7 m_p_7 k_p_7 hm => ?_)
  obtain ⟨r_8, hc_9, hm⟩ := rr_b0_some hm
  refine rr_callS (rest := []) (st1 := [.int r_8]) C hll (c_Num_fits l G hG fu p_7 m_p_7 k_p_7 σ_5 _ hc_9) q_481 q_424 q_12 q_425 hd_Num_fits ⟨by decide, by decide⟩ rfl rfl (Nat.le_of_ble_eq_true rfl) rfl dX2_sum_25 ?_
  exact rx_zret C dX2_sum_28 hm
def f_Tra_forget (v0 : Nat) (σ : rr_M) : Option (Unit × rr_M) :=
    (if rr_b1 0 then rr_lt (ms_i σ v0 1 0) fun σ_1 =>
    (if rr_b1 0 then rr_lt (ms_i σ_1 v0 9 0) fun σ_2 =>
    some ((), σ_2) else none) else none)
theorem c_Tra_forget (l : Launch) (G : rr_G) (hG : G.2.2.1.Nodup) (v0 : Nat) (m_v0 : v0 ∈ G.2.2.1) (k_v0 : G.2.2.2.1 v0 = 7) (σ : rr_M) (σr : rr_M) (hm : f_Tra_forget v0 σ = some ((), σr)) : rr_Met l G yX9_forget cX9_forget 1 none 0 0 [.ref v0] σ σr none := by
  refine rr_enter (lv0 := [(0, .ref v0)]) hp_Tra_forget hG (Nat.le_of_ble_eq_true rfl) rfl (fun X hll C => ?_)
  replace C : rr_C X G cX9_forget 1 "RootRows$Tray" none 0 0 := C
  unfold f_Tra_forget at hm
  refine rx_aload_n C 0 dX9_forget_0 rfl ?_
  refine rx_iconst (v := 0) C dX9_forget_1 rfl ?_
  refine pf_37 C m_v0 k_v0 dX9_forget_2 hm (fun σ_1 hm => ?_)
  refine rx_aload_n C 0 dX9_forget_5 rfl ?_
  refine rx_iconst (v := 0) C dX9_forget_6 rfl ?_
  refine pf_59 C m_v0 k_v0 dX9_forget_7 hm (fun σ_2 hm => ?_)
  exact rx_vret C dX9_forget_10 hm
def l_Tra_take_2 (fu : Nat) (N : Nat → Nat) (v0 : Nat) (v1 : Nat) : Nat → Int32 → rr_M → (rr_M → Option (Unit × rr_M)) → Option (Unit × rr_M)
  | 0, _, _, _ => none
  | n + 1, v2, σ, kk =>
    if 9 ≤ v2 then (kk σ) else
    if (nI (N v1)) ≤ v2 then (kk σ) else
    rr_lt (mg_r σ v0 0) fun p_3 =>
    (if rr_ix v2 (N v1) then
    (if rr_ix v2 (N p_3) then rr_lt (ms_l σ p_3 (rr_n v2) (mg_l σ v1 (rr_n v2))) fun σ_4 =>
    rr_lt (v2 + 1) fun v2_5 =>
    l_Tra_take_2 fu N v0 v1 n v2_5 σ_4 kk else none) else none)
theorem lw_Tra_take_2 {X : rr_X} {G : rr_G} {l : Launch} {fu : Nat} (hG : G.2.2.1.Nodup) (hll : X.2.1 = l) (C : rr_C X G cX9_take 3 "RootRows$Tray" none 1 20) {σr : rr_M} (v0 : Nat) (m_v0 : v0 ∈ G.2.2.1) (k_v0 : G.2.2.2.1 v0 = 7) (v1 : Nat) (m_v1 : v1 ∈ G.2.2.1) (k_v1 : G.2.2.2.1 v1 = 12) : ∀ (n : Nat) (v2 : Int32) (σ : rr_M) (K : rr_M → Option (Unit × rr_M)), l_Tra_take_2 fu G.2.2.2.2 v0 v1 n v2 σ K = some ((), σr) → (∀ (σ1 : rr_M), K σ1 = some ((), σr) → rr_J X G 3 (rr_E X G σr none) σ1 29 [(0, .ref v0)] []) → rr_J X G 3 (rr_E X G σr none) σ 2 [(0, .ref v0), (1, .ref v1), (2, .int v2)] [] := by
  intro n
  induction n with
  | zero =>
    intro v2 σ K hm
    cases hm
  | succ n ih =>
    intro v2 σ K hm hk
    unfold l_Tra_take_2 at hm
    refine rx_iload_n C 2 dX9_take_2 rfl ?_
    refine rx_bipush (v := 9) C dX9_take_3 rfl ?_
    refine rx_icmp_ge (tgt := 29) C dX9_take_5 (by decide) hm (fun h_1 hm => ?_) (fun h_1 hm => ?_)
    · refine rx_lv [0] rfl ?_
      exact hk _ hm
    refine rx_iload_n C 2 dX9_take_8 rfl ?_
    refine rx_aload_n C 1 dX9_take_9 rfl ?_
    refine rx_alen C m_v1 k_v1 (by decide) dX9_take_10 ?_
    refine rx_icmp_ge (tgt := 29) C dX9_take_11 (by decide) hm (fun h_2 hm => ?_) (fun h_2 hm => ?_)
    · refine rx_lv [0] rfl ?_
      exact hk _ hm
    refine rx_aload_n C 0 dX9_take_14 rfl ?_
    refine gf_32 C m_v0 k_v0 dX9_take_15 hm (fun p_3 m_p_3 k_p_3 hm => ?_)
    refine rx_iload_n C 2 dX9_take_18 rfl ?_
    refine rx_aload_n C 1 dX9_take_19 rfl ?_
    refine rx_iload_n C 2 dX9_take_20 rfl ?_
    refine rx_lald C m_v1 k_v1 dX9_take_21 hm (fun hm => ?_)
    refine rx_last C m_p_3 k_p_3 dX9_take_22 hm (fun σ_4 hm => ?_)
    refine rx_iinc (d := 1) (lv1 := fun v => [(2, .int v), (0, .ref v0), (1, .ref v1)]) C 2 dX9_take_23 hm rfl rfl (by decide) (fun _ => rfl) (fun v2_5 hm => ?_)
    refine rx_goto (tgt := 2) C dX9_take_26 (by decide) ?_
    refine rx_lv [1, 2, 0] rfl ?_
    exact ih _ _ _ hm hk
def f_Tra_take (fu : Nat) (N : Nat → Nat) (v0 : Nat) (v1 : Nat) (σ : rr_M) : Option (Unit × rr_M) :=
    l_Tra_take_2 fu N v0 v1 fu 0 σ (fun σ_6 =>
    rr_bd (f_Tra_forget v0 σ_6) fun _ σ_7 =>
    some ((), σ_7))
theorem c_Tra_take (l : Launch) (G : rr_G) (hG : G.2.2.1.Nodup) (fu : Nat) (v0 : Nat) (m_v0 : v0 ∈ G.2.2.1) (k_v0 : G.2.2.2.1 v0 = 7) (v1 : Nat) (m_v1 : v1 ∈ G.2.2.1) (k_v1 : G.2.2.2.1 v1 = 12) (σ : rr_M) (σr : rr_M) (hm : f_Tra_take fu G.2.2.2.2 v0 v1 σ = some ((), σr)) : rr_Met l G yX9_take cX9_take 3 none 1 20 [.ref v0, .ref v1] σ σr none := by
  refine rr_enter (lv0 := [(0, .ref v0), (1, .ref v1)]) hp_Tra_take hG (Nat.le_of_ble_eq_true rfl) rfl (fun X hll C => ?_)
  replace C : rr_C X G cX9_take 3 "RootRows$Tray" none 1 20 := C
  unfold f_Tra_take at hm
  refine rx_iconst (v := 0) C dX9_take_0 rfl ?_
  refine rx_istore_n (lv1 := [(2, .int 0), (0, .ref v0), (1, .ref v1)]) C dX9_take_1 (by decide) rfl ?_
  refine rx_lv [1, 2, 0] rfl ?_
  refine lw_Tra_take_2 hG hll C v0 m_v0 k_v0 v1 m_v1 k_v1 _ _ _ _ hm (fun σ_6 hm => ?_)
  refine rx_aload_n C 0 dX9_take_29 rfl ?_
  obtain ⟨_, σ_7, hc_8, hm⟩ := rr_bd_some hm
  refine rr_callV (rest := []) (st1 := []) C 7 hll (c_Tra_forget l G hG v0 m_v0 k_v0 σ_6 _ hc_8) q_431 q_432 q_433 q_2 q_434 hd_Tra_forget ⟨_, rfl, rfl⟩ (by decide) m_v0 k_v0 ⟨by decide, by decide⟩ rfl rfl (Nat.le_of_ble_eq_true rfl) rfl dX9_take_30 ?_
  exact rx_vret C dX9_take_33 hm
def l_Tra_placeOfRoot_10 (fu : Nat) (N : Nat → Nat) (v0 : Nat) (v1 : Int32) (σ : rr_M) : Nat → Int32 → Int32 → (Option (Int32)) → Option (Int32)
  | 0, _, _, _ => none
  | n + 1, v2, v3, kk =>
    if (mg_i σ v0 4) ≤ v3 then (kk) else
    if 8 ≤ v3 then (kk) else
    rr_lt (mg_r σ v0 12) fun p_4 =>
    (if rr_ix v3 (N p_4) then
    rr_lt (v2 + (mg_i σ p_4 (rr_n v3))) fun v2_5 =>
    if v2_5 ≤ v1 then (rr_lt (v3 + 1) fun v3_7 =>
    l_Tra_placeOfRoot_10 fu N v0 v1 σ n v2_5 v3_7 kk) else
    some (v3) else none)
theorem lw_Tra_placeOfRoot_10 {X : rr_X} {G : rr_G} {l : Launch} {fu : Nat} (hG : G.2.2.1.Nodup) (hll : X.2.1 = l) (C : rr_C X G cX9_placeOfRoot 4 "RootRows$Tray" (some .int) 0 0) {r : Int32}  (σ : rr_M) (v0 : Nat) (m_v0 : v0 ∈ G.2.2.1) (k_v0 : G.2.2.2.1 v0 = 7) (v1 : Int32) : ∀ (n : Nat) (v2 : Int32) (v3 : Int32) (K : Option (Int32)), l_Tra_placeOfRoot_10 fu G.2.2.2.2 v0 v1 σ n v2 v3 K = some r → (∀ (_ : Unit), K = some r → rr_J X G 4 (rr_E X G σ (some (.int r))) σ 46 [] []) → rr_J X G 4 (rr_E X G σ (some (.int r))) σ 10 [(0, .ref v0), (1, .int v1), (2, .int v2), (3, .int v3)] [] := by
  intro n
  induction n with
  | zero =>
    intro v2 v3 K hm
    cases hm
  | succ n ih =>
    intro v2 v3 K hm hk
    unfold l_Tra_placeOfRoot_10 at hm
    refine rx_iload_n C 3 dX9_placeOfRoot_10 rfl ?_
    refine rx_aload_n C 0 dX9_placeOfRoot_11 rfl ?_
    refine gf_44 C m_v0 k_v0 dX9_placeOfRoot_12 ?_
    refine rx_icmp_ge (tgt := 46) C dX9_placeOfRoot_15 (by decide) hm (fun h_2 hm => ?_) (fun h_2 hm => ?_)
    · refine rx_lv [] rfl ?_
      exact hk () hm
    refine rx_iload_n C 3 dX9_placeOfRoot_18 rfl ?_
    refine rx_bipush (v := 8) C dX9_placeOfRoot_19 rfl ?_
    refine rx_icmp_ge (tgt := 46) C dX9_placeOfRoot_21 (by decide) hm (fun h_3 hm => ?_) (fun h_3 hm => ?_)
    · refine rx_lv [] rfl ?_
      exact hk () hm
    refine rx_iload_n C 2 dX9_placeOfRoot_24 rfl ?_
    refine rx_aload_n C 0 dX9_placeOfRoot_25 rfl ?_
    refine gf_64 C m_v0 k_v0 dX9_placeOfRoot_26 hm (fun p_4 m_p_4 k_p_4 hm => ?_)
    refine rx_iload_n C 3 dX9_placeOfRoot_29 rfl ?_
    refine rx_iald C m_p_4 k_p_4 dX9_placeOfRoot_30 hm (fun hm => ?_)
    refine rx_iadd C dX9_placeOfRoot_31 ?_
    refine rx_nmi hm (fun v2_5 ev2_5 hm => ?_)
    refine rx_istore_n (lv1 := [(2, .int v2_5), (0, .ref v0), (1, .int v1), (3, .int v3)]) C dX9_placeOfRoot_32 (by decide) rfl ?_
    refine rx_iload_n C 2 dX9_placeOfRoot_33 rfl ?_
    refine rx_iload_n C 0 dX9_placeOfRoot_34 rfl ?_
    refine rx_icmp_ge (tgt := 40) C dX9_placeOfRoot_35 (by decide) hm (fun h_6 hm => ?_) (fun h_6 hm => ?_)
    · refine rx_iinc (d := 1) (lv1 := fun v => [(3, .int v), (2, .int v2_5), (0, .ref v0), (1, .int v1)]) C 3 dX9_placeOfRoot_40 hm rfl rfl (by decide) (fun _ => rfl) (fun v3_7 hm => ?_)
      refine rx_goto (tgt := 10) C dX9_placeOfRoot_43 (by decide) ?_
      refine rx_lv [2, 3, 1, 0] rfl ?_
      exact ih _ _ _ hm hk
    refine rx_iload_n C 3 dX9_placeOfRoot_38 rfl ?_
    exact rx_iretR C dX9_placeOfRoot_39 hm
def f_Tra_placeOfRoot (fu : Nat) (N : Nat → Nat) (v0 : Nat) (v1 : Int32) (σ : rr_M) : Option (Int32) :=
    if 0 ≤ v1 then (l_Tra_placeOfRoot_10 fu N v0 v1 σ fu 0 0 (some ((-1)))) else
    some ((-1))
theorem c_Tra_placeOfRoot (l : Launch) (G : rr_G) (hG : G.2.2.1.Nodup) (fu : Nat) (v0 : Nat) (m_v0 : v0 ∈ G.2.2.1) (k_v0 : G.2.2.2.1 v0 = 7) (v1 : Int32) (σ : rr_M) (r : Int32) (hm : f_Tra_placeOfRoot fu G.2.2.2.2 v0 v1 σ = some r) : rr_Met l G yX9_placeOfRoot cX9_placeOfRoot 4 (some .int) 0 0 [.ref v0, .int v1] σ σ (some (.int r)) := by
  refine rr_enter (lv0 := [(0, .ref v0), (1, .int v1)]) hp_Tra_placeOfRoot hG (Nat.le_of_ble_eq_true rfl) rfl (fun X hll C => ?_)
  replace C : rr_C X G cX9_placeOfRoot 4 "RootRows$Tray" (some .int) 0 0 := C
  unfold f_Tra_placeOfRoot at hm
  refine rx_iload_n C 1 dX9_placeOfRoot_0 rfl ?_
  refine rx_if_ge (tgt := 6) C dX9_placeOfRoot_1 (by decide) hm (fun h_1 hm => ?_) (fun h_1 hm => ?_)
  · refine rx_iconst (v := 0) C dX9_placeOfRoot_6 rfl ?_
    refine rx_istore_n (lv1 := [(2, .int 0), (0, .ref v0), (1, .int v1)]) C dX9_placeOfRoot_7 (by decide) rfl ?_
    refine rx_iconst (v := 0) C dX9_placeOfRoot_8 rfl ?_
    refine rx_istore_n (lv1 := [(3, .int 0), (2, .int 0), (0, .ref v0), (1, .int v1)]) C dX9_placeOfRoot_9 (by decide) rfl ?_
    refine rx_lv [2, 3, 1, 0] rfl ?_
    refine lw_Tra_placeOfRoot_10 hG hll C σ v0 m_v0 k_v0 v1 _ _ _ _ hm (fun _ hm => ?_)
    refine rx_iconst (v := (-1)) C dX9_placeOfRoot_46 rfl ?_
    exact rx_iretR C dX9_placeOfRoot_47 hm
  refine rx_iconst (v := (-1)) C dX9_placeOfRoot_4 rfl ?_
  exact rx_iretR C dX9_placeOfRoot_5 hm
def l_Mak_addSlope_3 (fu : Nat) (N : Nat → Nat) (v0 : Nat) (v1 : Nat) (v2 : Int32) (v3 : Int64) : Nat → Int32 → rr_M → (rr_M → Option (Unit × rr_M)) → Option (Unit × rr_M)
  | 0, _, _, _ => none
  | n + 1, v5, σ, kk =>
    if (nI (N v1)) ≤ v5 then (kk σ) else
    if 17 ≤ ((v5 - 1) + v2) then (kk σ) else
    rr_lt (mg_r σ v0 0) fun p_3 =>
    (if rr_ix ((v5 - 1) + v2) (N p_3) then
    (if rr_ix v5 (N v1) then
    (if rr_ix ((v5 - 1) + v2) (N p_3) then rr_lt (ms_l σ p_3 (rr_n ((v5 - 1) + v2)) ((mg_l σ p_3 (rr_n ((v5 - 1) + v2))) + ((v3 * v5.toInt64) * (mg_l σ v1 (rr_n v5))))) fun σ_4 =>
    rr_lt (v5 + 1) fun v5_5 =>
    l_Mak_addSlope_3 fu N v0 v1 v2 v3 n v5_5 σ_4 kk else none) else none) else none)
theorem lw_Mak_addSlope_3 {X : rr_X} {G : rr_G} {l : Launch} {fu : Nat} (hG : G.2.2.1.Nodup) (hll : X.2.1 = l) (C : rr_C X G cX2_addSlope 6 "RootRows$Maker" none 0 0) {σr : rr_M} (v0 : Nat) (m_v0 : v0 ∈ G.2.2.1) (k_v0 : G.2.2.2.1 v0 = 2) (v1 : Nat) (m_v1 : v1 ∈ G.2.2.1) (k_v1 : G.2.2.2.1 v1 = 12) (v2 : Int32) (v3 : Int64) : ∀ (n : Nat) (v5 : Int32) (σ : rr_M) (K : rr_M → Option (Unit × rr_M)), l_Mak_addSlope_3 fu G.2.2.2.2 v0 v1 v2 v3 n v5 σ K = some ((), σr) → (∀ (σ1 : rr_M), K σ1 = some ((), σr) → rr_J X G 6 (rr_E X G σr none) σ1 51 [] []) → rr_J X G 6 (rr_E X G σr none) σ 3 [(0, .ref v0), (1, .ref v1), (2, .int v2), (3, .long v3), (5, .int v5)] [] := by
  intro n
  induction n with
  | zero =>
    intro v5 σ K hm
    cases hm
  | succ n ih =>
    intro v5 σ K hm hk
    unfold l_Mak_addSlope_3 at hm
    refine rx_iload C 4 dX2_addSlope_3 rfl ?_
    refine rx_aload_n C 1 dX2_addSlope_5 rfl ?_
    refine rx_alen C m_v1 k_v1 (by decide) dX2_addSlope_6 ?_
    refine rx_icmp_ge (tgt := 51) C dX2_addSlope_7 (by decide) hm (fun h_1 hm => ?_) (fun h_1 hm => ?_)
    · refine rx_lv [] rfl ?_
      exact hk _ hm
    refine rx_iload C 4 dX2_addSlope_10 rfl ?_
    refine rx_iconst (v := 1) C dX2_addSlope_12 rfl ?_
    refine rx_isub C dX2_addSlope_13 ?_
    refine rx_iload_n C 2 dX2_addSlope_14 rfl ?_
    refine rx_iadd C dX2_addSlope_15 ?_
    refine rx_bipush (v := 17) C dX2_addSlope_16 rfl ?_
    refine rx_icmp_ge (tgt := 51) C dX2_addSlope_18 (by decide) hm (fun h_2 hm => ?_) (fun h_2 hm => ?_)
    · refine rx_lv [] rfl ?_
      exact hk _ hm
    refine rx_aload_n C 0 dX2_addSlope_21 rfl ?_
    refine gf_137 C m_v0 k_v0 dX2_addSlope_22 hm (fun p_3 m_p_3 k_p_3 hm => ?_)
    refine rx_iload C 4 dX2_addSlope_25 rfl ?_
    refine rx_iconst (v := 1) C dX2_addSlope_27 rfl ?_
    refine rx_isub C dX2_addSlope_28 ?_
    refine rx_iload_n C 2 dX2_addSlope_29 rfl ?_
    refine rx_iadd C dX2_addSlope_30 ?_
    refine rx_dup2_11 C dX2_addSlope_31 rfl rfl ?_
    refine rx_lald C m_p_3 k_p_3 dX2_addSlope_32 hm (fun hm => ?_)
    refine rx_lload_n C 3 dX2_addSlope_33 rfl ?_
    refine rx_iload C 4 dX2_addSlope_34 rfl ?_
    refine rx_i2l C dX2_addSlope_36 ?_
    refine rx_lmul C dX2_addSlope_37 ?_
    refine rx_aload_n C 1 dX2_addSlope_38 rfl ?_
    refine rx_iload C 4 dX2_addSlope_39 rfl ?_
    refine rx_lald C m_v1 k_v1 dX2_addSlope_41 hm (fun hm => ?_)
    refine rx_lmul C dX2_addSlope_42 ?_
    refine rx_ladd C dX2_addSlope_43 ?_
    refine rx_last C m_p_3 k_p_3 dX2_addSlope_44 hm (fun σ_4 hm => ?_)
    refine rx_iinc (d := 1) (lv1 := fun v => [(5, .int v), (0, .ref v0), (1, .ref v1), (2, .int v2), (3, .long v3)]) C 4 dX2_addSlope_45 hm rfl rfl (by decide) (fun _ => rfl) (fun v5_5 hm => ?_)
    refine rx_goto (tgt := 3) C dX2_addSlope_48 (by decide) ?_
    refine rx_lv [1, 2, 3, 4, 0] rfl ?_
    exact ih _ _ _ hm hk
def f_Mak_addSlope (fu : Nat) (N : Nat → Nat) (v0 : Nat) (v1 : Nat) (v2 : Int32) (v3 : Int64) (σ : rr_M) : Option (Unit × rr_M) :=
    l_Mak_addSlope_3 fu N v0 v1 v2 v3 fu 1 σ (fun σ_6 =>
    some ((), σ_6))
theorem c_Mak_addSlope (l : Launch) (G : rr_G) (hG : G.2.2.1.Nodup) (fu : Nat) (v0 : Nat) (m_v0 : v0 ∈ G.2.2.1) (k_v0 : G.2.2.2.1 v0 = 2) (v1 : Nat) (m_v1 : v1 ∈ G.2.2.1) (k_v1 : G.2.2.2.1 v1 = 12) (v2 : Int32) (v3 : Int64) (σ : rr_M) (σr : rr_M) (hm : f_Mak_addSlope fu G.2.2.2.2 v0 v1 v2 v3 σ = some ((), σr)) : rr_Met l G yX2_addSlope cX2_addSlope 6 none 0 0 [.ref v0, .ref v1, .int v2, .long v3] σ σr none := by
  refine rr_enter (lv0 := [(0, .ref v0), (1, .ref v1), (2, .int v2), (3, .long v3)]) hp_Mak_addSlope hG (Nat.le_of_ble_eq_true rfl) rfl (fun X hll C => ?_)
  replace C : rr_C X G cX2_addSlope 6 "RootRows$Maker" none 0 0 := C
  unfold f_Mak_addSlope at hm
  refine rx_iconst (v := 1) C dX2_addSlope_0 rfl ?_
  refine rx_istore (lv1 := [(5, .int 1), (0, .ref v0), (1, .ref v1), (2, .int v2), (3, .long v3)]) C dX2_addSlope_1 (by decide) rfl ?_
  refine rx_lv [1, 2, 3, 4, 0] rfl ?_
  refine lw_Mak_addSlope_3 hG hll C v0 m_v0 k_v0 v1 m_v1 k_v1 v2 v3 _ _ _ _ hm (fun σ_6 hm => ?_)
  exact rx_vret C dX2_addSlope_51 hm
def l_Mak_shift_19 (fu : Nat) (N : Nat → Nat) (v0 : Nat) (v2 : Int32) (v3 : Int32) : Nat → Int32 → rr_M → (rr_M → Option (Int32 × rr_M)) → Option (Int32 × rr_M)
  | 0, _, _, _ => none
  | n + 1, v4, σ, kk =>
    if v4 < v3 then (kk σ) else
    rr_lt (mg_r σ v0 0) fun p_5 =>
    (if rr_ix v4 (N p_5) then
    rr_lt (mg_r σ v0 0) fun p_6 =>
    (if rr_ix (v4 + 1) (N p_6) then
    (if rr_ix v4 (N p_5) then rr_lt (ms_l σ p_5 (rr_n v4) ((mg_l σ p_5 (rr_n v4)) + (v2.toInt64 * (mg_l σ p_6 (rr_n (v4 + 1)))))) fun σ_7 =>
    rr_lt (mg_r σ_7 v0 0) fun p_8 =>
    (if rr_ix v4 (N p_8) then
    if 2000000000000000 < (mg_l σ_7 p_8 (rr_n v4)) then (if rr_b1 0 then some (0, σ_7) else none) else
    rr_lt (mg_r σ_7 v0 0) fun p_10 =>
    (if rr_ix v4 (N p_10) then
    if (-2000000000000000) ≤ (mg_l σ_7 p_10 (rr_n v4)) then (rr_lt (v4 + (-1)) fun v4_12 =>
    l_Mak_shift_19 fu N v0 v2 v3 n v4_12 σ_7 kk) else
    if rr_b1 0 then some (0, σ_7) else none else none) else none) else none) else none) else none)
theorem lw_Mak_shift_19 {X : rr_X} {G : rr_G} {l : Launch} {fu : Nat} (hG : G.2.2.1.Nodup) (hll : X.2.1 = l) (C : rr_C X G cX2_shift 5 "RootRows$Maker" (some .boolean) 1 25) {r : Int32} {σr : rr_M} (v0 : Nat) (m_v0 : v0 ∈ G.2.2.1) (k_v0 : G.2.2.2.1 v0 = 2) (v2 : Int32) (v3 : Int32) : ∀ (n : Nat) (v4 : Int32) (σ : rr_M) (K : rr_M → Option (Int32 × rr_M)), l_Mak_shift_19 fu G.2.2.2.2 v0 v2 v3 n v4 σ K = some (r, σr) → (∀ (σ1 : rr_M), K σ1 = some (r, σr) → rr_J X G 5 (rr_E X G σr (some (.int r))) σ1 83 [(0, .ref v0), (2, .int v2), (3, .int v3)] []) → rr_J X G 5 (rr_E X G σr (some (.int r))) σ 19 [(0, .ref v0), (2, .int v2), (3, .int v3), (4, .int v4)] [] := by
  intro n
  induction n with
  | zero =>
    intro v4 σ K hm
    cases hm
  | succ n ih =>
    intro v4 σ K hm hk
    unfold l_Mak_shift_19 at hm
    refine rx_iload C 3 dX2_shift_19 rfl ?_
    refine rx_iload_n C 2 dX2_shift_21 rfl ?_
    refine rx_icmp_lt (tgt := 83) C dX2_shift_22 (by decide) hm (fun h_4 hm => ?_) (fun h_4 hm => ?_)
    · refine rx_lv [0, 1, 2] rfl ?_
      exact hk _ hm
    refine rx_aload_n C 0 dX2_shift_25 rfl ?_
    refine gf_137 C m_v0 k_v0 dX2_shift_26 hm (fun p_5 m_p_5 k_p_5 hm => ?_)
    refine rx_iload C 3 dX2_shift_29 rfl ?_
    refine rx_dup2_11 C dX2_shift_31 rfl rfl ?_
    refine rx_lald C m_p_5 k_p_5 dX2_shift_32 hm (fun hm => ?_)
    refine rx_iload_n C 1 dX2_shift_33 rfl ?_
    refine rx_i2l C dX2_shift_34 ?_
    refine rx_aload_n C 0 dX2_shift_35 rfl ?_
    refine gf_137 C m_v0 k_v0 dX2_shift_36 hm (fun p_6 m_p_6 k_p_6 hm => ?_)
    refine rx_iload C 3 dX2_shift_39 rfl ?_
    refine rx_iconst (v := 1) C dX2_shift_41 rfl ?_
    refine rx_iadd C dX2_shift_42 ?_
    refine rx_lald C m_p_6 k_p_6 dX2_shift_43 hm (fun hm => ?_)
    refine rx_lmul C dX2_shift_44 ?_
    refine rx_ladd C dX2_shift_45 ?_
    refine rx_last C m_p_5 k_p_5 dX2_shift_46 hm (fun σ_7 hm => ?_)
    refine rx_aload_n C 0 dX2_shift_47 rfl ?_
    refine gf_137 C m_v0 k_v0 dX2_shift_48 hm (fun p_8 m_p_8 k_p_8 hm => ?_)
    refine rx_iload C 3 dX2_shift_51 rfl ?_
    refine rx_lald C m_p_8 k_p_8 dX2_shift_53 hm (fun hm => ?_)
    refine rx_ldc2 C q_479 dX2_shift_54 ?_
    refine rx_lcmp_gt (tgt := 75) C dX2_shift_57 dX2_shift_58 (by decide) hm (fun h_9 hm => ?_) (fun h_9 hm => ?_)
    · refine rx_iconst (v := 0) C dX2_shift_75 rfl ?_
      exact rx_zret C dX2_shift_76 hm
    refine rx_aload_n C 0 dX2_shift_61 rfl ?_
    refine gf_137 C m_v0 k_v0 dX2_shift_62 hm (fun p_10 m_p_10 k_p_10 hm => ?_)
    refine rx_iload C 3 dX2_shift_65 rfl ?_
    refine rx_lald C m_p_10 k_p_10 dX2_shift_67 hm (fun hm => ?_)
    refine rx_ldc2 C q_480 dX2_shift_68 ?_
    refine rx_lcmp_ge (tgt := 77) C dX2_shift_71 dX2_shift_72 (by decide) hm (fun h_11 hm => ?_) (fun h_11 hm => ?_)
    · refine rx_iinc (d := (-1)) (lv1 := fun v => [(4, .int v), (0, .ref v0), (2, .int v2), (3, .int v3)]) C 3 dX2_shift_77 hm rfl rfl (by decide) (fun _ => rfl) (fun v4_12 hm => ?_)
      refine rx_goto (tgt := 19) C dX2_shift_80 (by decide) ?_
      refine rx_lv [1, 2, 3, 0] rfl ?_
      exact ih _ _ _ hm hk
    refine rx_iconst (v := 0) C dX2_shift_75 rfl ?_
    exact rx_zret C dX2_shift_76 hm
def l_Mak_shift_9 (fu : Nat) (N : Nat → Nat) (v0 : Nat) (v2 : Int32) : Nat → Int32 → rr_M → (rr_M → Option (Int32 × rr_M)) → Option (Int32 × rr_M)
  | 0, _, _, _ => none
  | n + 1, v3, σ, kk =>
    if 8 ≤ v3 then (kk σ) else
    l_Mak_shift_19 fu N v0 v2 v3 fu 7 σ (fun σ_13 =>
    rr_lt (v3 + 1) fun v3_14 =>
    l_Mak_shift_9 fu N v0 v2 n v3_14 σ_13 kk)
theorem lw_Mak_shift_9 {X : rr_X} {G : rr_G} {l : Launch} {fu : Nat} (hG : G.2.2.1.Nodup) (hll : X.2.1 = l) (C : rr_C X G cX2_shift 5 "RootRows$Maker" (some .boolean) 1 25) {r : Int32} {σr : rr_M} (v0 : Nat) (m_v0 : v0 ∈ G.2.2.1) (k_v0 : G.2.2.2.1 v0 = 2) (v2 : Int32) : ∀ (n : Nat) (v3 : Int32) (σ : rr_M) (K : rr_M → Option (Int32 × rr_M)), l_Mak_shift_9 fu G.2.2.2.2 v0 v2 n v3 σ K = some (r, σr) → (∀ (σ1 : rr_M), K σ1 = some (r, σr) → rr_J X G 5 (rr_E X G σr (some (.int r))) σ1 89 [(0, .ref v0)] []) → rr_J X G 5 (rr_E X G σr (some (.int r))) σ 9 [(0, .ref v0), (2, .int v2), (3, .int v3)] [] := by
  intro n
  induction n with
  | zero =>
    intro v3 σ K hm
    cases hm
  | succ n ih =>
    intro v3 σ K hm hk
    unfold l_Mak_shift_9 at hm
    refine rx_iload_n C 2 dX2_shift_9 rfl ?_
    refine rx_bipush (v := 8) C dX2_shift_10 rfl ?_
    refine rx_icmp_ge (tgt := 89) C dX2_shift_12 (by decide) hm (fun h_3 hm => ?_) (fun h_3 hm => ?_)
    · refine rx_lv [0] rfl ?_
      exact hk _ hm
    refine rx_bipush (v := 7) C dX2_shift_15 rfl ?_
    refine rx_istore (lv1 := [(4, .int 7), (0, .ref v0), (2, .int v2), (3, .int v3)]) C dX2_shift_17 (by decide) rfl ?_
    refine rx_lv [1, 2, 3, 0] rfl ?_
    refine lw_Mak_shift_19 hG hll C v0 m_v0 k_v0 v2 v3 _ _ _ _ hm (fun σ_13 hm => ?_)
    refine rx_iinc (d := 1) (lv1 := fun v => [(3, .int v), (0, .ref v0), (2, .int v2)]) C 2 dX2_shift_83 hm rfl rfl (by decide) (fun _ => rfl) (fun v3_14 hm => ?_)
    refine rx_goto (tgt := 9) C dX2_shift_86 (by decide) ?_
    refine rx_lv [1, 2, 0] rfl ?_
    exact ih _ _ _ hm hk
def f_Mak_shift (fu : Nat) (N : Nat → Nat) (v0 : Nat) (v1 : Nat) (v2 : Int32) (σ : rr_M) : Option (Int32 × rr_M) :=
    rr_bd (f_Mak_addNumbers fu N v0 v1 0 1 σ) fun _ σ_1 =>
    l_Mak_shift_9 fu N v0 v2 fu 0 σ_1 (fun σ_15 =>
    rr_lt (mg_r σ_15 v0 0) fun p_16 =>
    Option.bind (f_Num_fits fu N p_16 σ_15) fun r_17 =>
    if rr_b1 r_17 then some (r_17, σ_15) else none)
theorem c_Mak_shift (l : Launch) (G : rr_G) (hG : G.2.2.1.Nodup) (fu : Nat) (v0 : Nat) (m_v0 : v0 ∈ G.2.2.1) (k_v0 : G.2.2.2.1 v0 = 2) (v1 : Nat) (m_v1 : v1 ∈ G.2.2.1) (k_v1 : G.2.2.2.1 v1 = 12) (v2 : Int32) (σ : rr_M) (r : Int32) (σr : rr_M) (hm : f_Mak_shift fu G.2.2.2.2 v0 v1 v2 σ = some (r, σr)) : rr_Met l G yX2_shift cX2_shift 5 (some .boolean) 1 25 [.ref v0, .ref v1, .int v2] σ σr (some (.int r)) := by
  refine rr_enter (lv0 := [(0, .ref v0), (1, .ref v1), (2, .int v2)]) hp_Mak_shift hG (Nat.le_of_ble_eq_true rfl) rfl (fun X hll C => ?_)
  replace C : rr_C X G cX2_shift 5 "RootRows$Maker" (some .boolean) 1 25 := C
  unfold f_Mak_shift at hm
  refine rx_aload_n C 0 dX2_shift_0 rfl ?_
  refine rx_aload_n C 1 dX2_shift_1 rfl ?_
  refine rx_iconst (v := 0) C dX2_shift_2 rfl ?_
  refine rx_lconst (v := 1) C dX2_shift_3 rfl ?_
  obtain ⟨_, σ_1, hc_2, hm⟩ := rr_bd_some hm
  refine rr_callV (rest := []) (st1 := []) C 2 hll (c_Mak_addNumbers l G hG fu v0 m_v0 k_v0 v1 m_v1 k_v1 0 1 σ _ hc_2) q_471 q_473 qs_12 q_4 q_474 hd_Mak_addNumbers ⟨_, rfl, rfl⟩ (by decide) m_v0 k_v0 ⟨by decide, by decide⟩ rfl rfl (Nat.le_of_ble_eq_true rfl) rfl dX2_shift_4 ?_
  refine rx_iconst (v := 0) C dX2_shift_7 rfl ?_
  refine rx_istore_n (lv1 := [(3, .int 0), (0, .ref v0), (1, .ref v1), (2, .int v2)]) C dX2_shift_8 (by decide) rfl ?_
  refine rx_lv [1, 3, 0] rfl ?_
  refine lw_Mak_shift_9 hG hll C v0 m_v0 k_v0 v2 _ _ _ _ hm (fun σ_15 hm => ?_)
  refine rx_aload_n C 0 dX2_shift_89 rfl ?_
  refine gf_137 C m_v0 k_v0 dX2_shift_90 hm (fun p_16 m_p_16 k_p_16 hm => ?_)
  obtain ⟨r_17, hc_18, hm⟩ := rr_b0_some hm
  refine rr_callS (rest := []) (st1 := [.int r_17]) C hll (c_Num_fits l G hG fu p_16 m_p_16 k_p_16 σ_15 _ hc_18) q_481 q_424 q_12 q_425 hd_Num_fits ⟨by decide, by decide⟩ rfl rfl (Nat.le_of_ble_eq_true rfl) rfl dX2_shift_93 ?_
  exact rx_zret C dX2_shift_96 hm
def l_Mak_stretch_22 (fu : Nat) (N : Nat → Nat) (v2 : Int32) (v3 : Int32) (σ : rr_M) : Nat → Int64 → Int32 → (Int64 → Option (Int32 × rr_M)) → Option (Int32 × rr_M)
  | 0, _, _, _ => none
  | n + 1, v4, v6, kk =>
    if v3 ≤ v6 then (kk v4) else
    rr_lt (v4 * v2.toInt64) fun v4_5 =>
    if 100000000 < v4_5 then (if rr_b1 0 then some (0, σ) else none) else
    if (-100000000) ≤ v4_5 then (rr_lt (v6 + 1) fun v6_8 =>
    l_Mak_stretch_22 fu N v2 v3 σ n v4_5 v6_8 kk) else
    if rr_b1 0 then some (0, σ) else none
theorem lw_Mak_stretch_22 {X : rr_X} {G : rr_G} {l : Launch} {fu : Nat} (hG : G.2.2.1.Nodup) (hll : X.2.1 = l) (C : rr_C X G cX2_stretch 7 "RootRows$Maker" (some .boolean) 0 0) {r : Int32} {σr : rr_M} (σ : rr_M) (v0 : Nat) (m_v0 : v0 ∈ G.2.2.1) (k_v0 : G.2.2.2.1 v0 = 2) (v1 : Nat) (m_v1 : v1 ∈ G.2.2.1) (k_v1 : G.2.2.2.1 v1 = 12) (v2 : Int32) (v3 : Int32) : ∀ (n : Nat) (v4 : Int64) (v6 : Int32) (K : Int64 → Option (Int32 × rr_M)), l_Mak_stretch_22 fu G.2.2.2.2 v2 v3 σ n v4 v6 K = some (r, σr) → (∀ (w4 : Int64), K w4 = some (r, σr) → rr_J X G 7 (rr_E X G σr (some (.int r))) σ 61 [(0, .ref v0), (1, .ref v1), (2, .int v2), (3, .int v3), (4, .long w4)] []) → rr_J X G 7 (rr_E X G σr (some (.int r))) σ 22 [(0, .ref v0), (1, .ref v1), (2, .int v2), (3, .int v3), (4, .long v4), (6, .int v6)] [] := by
  intro n
  induction n with
  | zero =>
    intro v4 v6 K hm
    cases hm
  | succ n ih =>
    intro v4 v6 K hm hk
    unfold l_Mak_stretch_22 at hm
    refine rx_iload C 5 dX2_stretch_22 rfl ?_
    refine rx_iload_n C 3 dX2_stretch_24 rfl ?_
    refine rx_icmp_ge (tgt := 61) C dX2_stretch_25 (by decide) hm (fun h_4 hm => ?_) (fun h_4 hm => ?_)
    · refine rx_lv [0, 1, 2, 3, 4] rfl ?_
      exact hk _ hm
    refine rx_lload C 4 dX2_stretch_28 rfl ?_
    refine rx_iload_n C 2 dX2_stretch_30 rfl ?_
    refine rx_i2l C dX2_stretch_31 ?_
    refine rx_lmul C dX2_stretch_32 ?_
    refine rx_nml hm (fun v4_5 ev4_5 hm => ?_)
    refine rx_lstore (lv1 := [(4, .long v4_5), (0, .ref v0), (1, .ref v1), (2, .int v2), (3, .int v3), (6, .int v6)]) C dX2_stretch_33 (by decide) rfl ?_
    refine rx_lload C 0 dX2_stretch_35 rfl ?_
    refine rx_ldc2 C q_493 dX2_stretch_37 ?_
    refine rx_lcmp_gt (tgt := 53) C dX2_stretch_40 dX2_stretch_41 (by decide) hm (fun h_6 hm => ?_) (fun h_6 hm => ?_)
    · refine rx_iconst (v := 0) C dX2_stretch_53 rfl ?_
      exact rx_zret C dX2_stretch_54 hm
    refine rx_lload C 0 dX2_stretch_44 rfl ?_
    refine rx_ldc2 C q_494 dX2_stretch_46 ?_
    refine rx_lcmp_ge (tgt := 55) C dX2_stretch_49 dX2_stretch_50 (by decide) hm (fun h_7 hm => ?_) (fun h_7 hm => ?_)
    · refine rx_iinc (d := 1) (lv1 := fun v => [(6, .int v), (4, .long v4_5), (0, .ref v0), (1, .ref v1), (2, .int v2), (3, .int v3)]) C 5 dX2_stretch_55 hm rfl rfl (by decide) (fun _ => rfl) (fun v6_8 hm => ?_)
      refine rx_goto (tgt := 22) C dX2_stretch_58 (by decide) ?_
      refine rx_lv [2, 3, 4, 5, 1, 0] rfl ?_
      exact ih _ _ _ hm hk
    refine rx_iconst (v := 0) C dX2_stretch_53 rfl ?_
    exact rx_zret C dX2_stretch_54 hm
def l_Mak_stretch_2 (fu : Nat) (N : Nat → Nat) (v0 : Nat) (v1 : Nat) (v2 : Int32) : Nat → Int32 → rr_M → (rr_M → Option (Int32 × rr_M)) → Option (Int32 × rr_M)
  | 0, _, _, _ => none
  | n + 1, v3, σ, kk =>
    if (nI (N v1)) ≤ v3 then (kk σ) else
    if 17 ≤ v3 then (kk σ) else
    (if rr_ix v3 (N v1) then
    rr_lt (mg_l σ v1 (rr_n v3)) fun v4_3 =>
    l_Mak_stretch_22 fu N v2 v3 σ fu v4_3 0 (fun v4_9 =>
    rr_lt (mg_r σ v0 0) fun p_10 =>
    (if rr_ix v3 (N p_10) then rr_lt (ms_l σ p_10 (rr_n v3) v4_9) fun σ_11 =>
    rr_lt (v3 + 1) fun v3_12 =>
    l_Mak_stretch_2 fu N v0 v1 v2 n v3_12 σ_11 kk else none)) else none)
theorem lw_Mak_stretch_2 {X : rr_X} {G : rr_G} {l : Launch} {fu : Nat} (hG : G.2.2.1.Nodup) (hll : X.2.1 = l) (C : rr_C X G cX2_stretch 7 "RootRows$Maker" (some .boolean) 0 0) {r : Int32} {σr : rr_M} (v0 : Nat) (m_v0 : v0 ∈ G.2.2.1) (k_v0 : G.2.2.2.1 v0 = 2) (v1 : Nat) (m_v1 : v1 ∈ G.2.2.1) (k_v1 : G.2.2.2.1 v1 = 12) (v2 : Int32) : ∀ (n : Nat) (v3 : Int32) (σ : rr_M) (K : rr_M → Option (Int32 × rr_M)), l_Mak_stretch_2 fu G.2.2.2.2 v0 v1 v2 n v3 σ K = some (r, σr) → (∀ (σ1 : rr_M), K σ1 = some (r, σr) → rr_J X G 7 (rr_E X G σr (some (.int r))) σ1 75 [] []) → rr_J X G 7 (rr_E X G σr (some (.int r))) σ 2 [(0, .ref v0), (1, .ref v1), (2, .int v2), (3, .int v3)] [] := by
  intro n
  induction n with
  | zero =>
    intro v3 σ K hm
    cases hm
  | succ n ih =>
    intro v3 σ K hm hk
    unfold l_Mak_stretch_2 at hm
    refine rx_iload_n C 3 dX2_stretch_2 rfl ?_
    refine rx_aload_n C 1 dX2_stretch_3 rfl ?_
    refine rx_alen C m_v1 k_v1 (by decide) dX2_stretch_4 ?_
    refine rx_icmp_ge (tgt := 75) C dX2_stretch_5 (by decide) hm (fun h_1 hm => ?_) (fun h_1 hm => ?_)
    · refine rx_lv [] rfl ?_
      exact hk _ hm
    refine rx_iload_n C 3 dX2_stretch_8 rfl ?_
    refine rx_bipush (v := 17) C dX2_stretch_9 rfl ?_
    refine rx_icmp_ge (tgt := 75) C dX2_stretch_11 (by decide) hm (fun h_2 hm => ?_) (fun h_2 hm => ?_)
    · refine rx_lv [] rfl ?_
      exact hk _ hm
    refine rx_aload_n C 1 dX2_stretch_14 rfl ?_
    refine rx_iload_n C 3 dX2_stretch_15 rfl ?_
    refine rx_lald C m_v1 k_v1 dX2_stretch_16 hm (fun hm => ?_)
    refine rx_nml hm (fun v4_3 ev4_3 hm => ?_)
    refine rx_lstore (lv1 := [(4, .long v4_3), (0, .ref v0), (1, .ref v1), (2, .int v2), (3, .int v3)]) C dX2_stretch_17 (by decide) rfl ?_
    refine rx_iconst (v := 0) C dX2_stretch_19 rfl ?_
    refine rx_istore (lv1 := [(6, .int 0), (4, .long v4_3), (0, .ref v0), (1, .ref v1), (2, .int v2), (3, .int v3)]) C dX2_stretch_20 (by decide) rfl ?_
    refine rx_lv [2, 3, 4, 5, 1, 0] rfl ?_
    refine lw_Mak_stretch_22 hG hll C σ v0 m_v0 k_v0 v1 m_v1 k_v1 v2 v3 _ _ _ _ hm (fun v4_9 hm => ?_)
    refine rx_aload_n C 0 dX2_stretch_61 rfl ?_
    refine gf_137 C m_v0 k_v0 dX2_stretch_62 hm (fun p_10 m_p_10 k_p_10 hm => ?_)
    refine rx_iload_n C 3 dX2_stretch_65 rfl ?_
    refine rx_lload C 4 dX2_stretch_66 rfl ?_
    refine rx_last C m_p_10 k_p_10 dX2_stretch_68 hm (fun σ_11 hm => ?_)
    refine rx_iinc (d := 1) (lv1 := fun v => [(3, .int v), (0, .ref v0), (1, .ref v1), (2, .int v2), (4, .long v4_9)]) C 3 dX2_stretch_69 hm rfl rfl (by decide) (fun _ => rfl) (fun v3_12 hm => ?_)
    refine rx_goto (tgt := 2) C dX2_stretch_72 (by decide) ?_
    refine rx_lv [1, 2, 3, 0] rfl ?_
    exact ih _ _ _ hm hk
def f_Mak_stretch (fu : Nat) (N : Nat → Nat) (v0 : Nat) (v1 : Nat) (v2 : Int32) (σ : rr_M) : Option (Int32 × rr_M) :=
    l_Mak_stretch_2 fu N v0 v1 v2 fu 0 σ (fun σ_13 =>
    if rr_b1 1 then some (1, σ_13) else none)
theorem c_Mak_stretch (l : Launch) (G : rr_G) (hG : G.2.2.1.Nodup) (fu : Nat) (v0 : Nat) (m_v0 : v0 ∈ G.2.2.1) (k_v0 : G.2.2.2.1 v0 = 2) (v1 : Nat) (m_v1 : v1 ∈ G.2.2.1) (k_v1 : G.2.2.2.1 v1 = 12) (v2 : Int32) (σ : rr_M) (r : Int32) (σr : rr_M) (hm : f_Mak_stretch fu G.2.2.2.2 v0 v1 v2 σ = some (r, σr)) : rr_Met l G yX2_stretch cX2_stretch 7 (some .boolean) 0 0 [.ref v0, .ref v1, .int v2] σ σr (some (.int r)) := by
  refine rr_enter (lv0 := [(0, .ref v0), (1, .ref v1), (2, .int v2)]) hp_Mak_stretch hG (Nat.le_of_ble_eq_true rfl) rfl (fun X hll C => ?_)
  replace C : rr_C X G cX2_stretch 7 "RootRows$Maker" (some .boolean) 0 0 := C
  unfold f_Mak_stretch at hm
  refine rx_iconst (v := 0) C dX2_stretch_0 rfl ?_
  refine rx_istore_n (lv1 := [(3, .int 0), (0, .ref v0), (1, .ref v1), (2, .int v2)]) C dX2_stretch_1 (by decide) rfl ?_
  refine rx_lv [1, 2, 3, 0] rfl ?_
  refine lw_Mak_stretch_2 hG hll C v0 m_v0 k_v0 v1 m_v1 k_v1 v2 _ _ _ _ hm (fun σ_13 hm => ?_)
  refine rx_iconst (v := 1) C dX2_stretch_75 rfl ?_
  exact rx_zret C dX2_stretch_76 hm
def l_Mak_turn_7 (fu : Nat) (N : Nat → Nat) (v0 : Nat) (v1 : Nat) (v2 : Int32) : Nat → Int32 → rr_M → (rr_M → Option (Unit × rr_M)) → Option (Unit × rr_M)
  | 0, _, _, _ => none
  | n + 1, v3, σ, kk =>
    if v2 < v3 then (kk σ) else
    rr_lt (mg_r σ v0 0) fun p_4 =>
    (if rr_ix v3 (N v1) then
    (if rr_ix (v2 - v3) (N p_4) then rr_lt (ms_l σ p_4 (rr_n (v2 - v3)) (mg_l σ v1 (rr_n v3))) fun σ_5 =>
    rr_lt (v3 + 1) fun v3_6 =>
    l_Mak_turn_7 fu N v0 v1 v2 n v3_6 σ_5 kk else none) else none)
theorem lw_Mak_turn_7 {X : rr_X} {G : rr_G} {l : Launch} {fu : Nat} (hG : G.2.2.1.Nodup) (hll : X.2.1 = l) (C : rr_C X G cX2_turn 4 "RootRows$Maker" none 1 21) {σr : rr_M} (v0 : Nat) (m_v0 : v0 ∈ G.2.2.1) (k_v0 : G.2.2.2.1 v0 = 2) (v1 : Nat) (m_v1 : v1 ∈ G.2.2.1) (k_v1 : G.2.2.2.1 v1 = 12) (v2 : Int32) : ∀ (n : Nat) (v3 : Int32) (σ : rr_M) (K : rr_M → Option (Unit × rr_M)), l_Mak_turn_7 fu G.2.2.2.2 v0 v1 v2 n v3 σ K = some ((), σr) → (∀ (σ1 : rr_M), K σ1 = some ((), σr) → rr_J X G 4 (rr_E X G σr none) σ1 29 [] []) → rr_J X G 4 (rr_E X G σr none) σ 7 [(0, .ref v0), (1, .ref v1), (2, .int v2), (3, .int v3)] [] := by
  intro n
  induction n with
  | zero =>
    intro v3 σ K hm
    cases hm
  | succ n ih =>
    intro v3 σ K hm hk
    unfold l_Mak_turn_7 at hm
    refine rx_iload_n C 3 dX2_turn_7 rfl ?_
    refine rx_iload_n C 2 dX2_turn_8 rfl ?_
    refine rx_icmp_gt (tgt := 29) C dX2_turn_9 (by decide) hm (fun h_3 hm => ?_) (fun h_3 hm => ?_)
    · refine rx_lv [] rfl ?_
      exact hk _ hm
    refine rx_aload_n C 0 dX2_turn_12 rfl ?_
    refine gf_137 C m_v0 k_v0 dX2_turn_13 hm (fun p_4 m_p_4 k_p_4 hm => ?_)
    refine rx_iload_n C 2 dX2_turn_16 rfl ?_
    refine rx_iload_n C 3 dX2_turn_17 rfl ?_
    refine rx_isub C dX2_turn_18 ?_
    refine rx_aload_n C 1 dX2_turn_19 rfl ?_
    refine rx_iload_n C 3 dX2_turn_20 rfl ?_
    refine rx_lald C m_v1 k_v1 dX2_turn_21 hm (fun hm => ?_)
    refine rx_last C m_p_4 k_p_4 dX2_turn_22 hm (fun σ_5 hm => ?_)
    refine rx_iinc (d := 1) (lv1 := fun v => [(3, .int v), (0, .ref v0), (1, .ref v1), (2, .int v2)]) C 3 dX2_turn_23 hm rfl rfl (by decide) (fun _ => rfl) (fun v3_6 hm => ?_)
    refine rx_goto (tgt := 7) C dX2_turn_26 (by decide) ?_
    refine rx_lv [1, 2, 3, 0] rfl ?_
    exact ih _ _ _ hm hk
def f_Mak_turn (fu : Nat) (N : Nat → Nat) (v0 : Nat) (v1 : Nat) (σ : rr_M) : Option (Unit × rr_M) :=
    Option.bind (f_Num_degreeOf fu N v1 σ) fun r_1 =>
    l_Mak_turn_7 fu N v0 v1 r_1 fu 0 σ (fun σ_7 =>
    some ((), σ_7))
theorem c_Mak_turn (l : Launch) (G : rr_G) (hG : G.2.2.1.Nodup) (fu : Nat) (v0 : Nat) (m_v0 : v0 ∈ G.2.2.1) (k_v0 : G.2.2.2.1 v0 = 2) (v1 : Nat) (m_v1 : v1 ∈ G.2.2.1) (k_v1 : G.2.2.2.1 v1 = 12) (σ : rr_M) (σr : rr_M) (hm : f_Mak_turn fu G.2.2.2.2 v0 v1 σ = some ((), σr)) : rr_Met l G yX2_turn cX2_turn 4 none 1 21 [.ref v0, .ref v1] σ σr none := by
  refine rr_enter (lv0 := [(0, .ref v0), (1, .ref v1)]) hp_Mak_turn hG (Nat.le_of_ble_eq_true rfl) rfl (fun X hll C => ?_)
  replace C : rr_C X G cX2_turn 4 "RootRows$Maker" none 1 21 := C
  unfold f_Mak_turn at hm
  refine rx_aload_n C 1 dX2_turn_0 rfl ?_
  obtain ⟨r_1, hc_2, hm⟩ := rr_b0_some hm
  refine rr_callS (rest := []) (st1 := [.int r_1]) C hll (c_Num_degreeOf l G hG fu v1 m_v1 k_v1 σ _ hc_2) q_486 q_487 q_12 q_488 hd_Num_degreeOf ⟨by decide, by decide⟩ rfl rfl (Nat.le_of_ble_eq_true rfl) rfl dX2_turn_1 ?_
  refine rx_istore_n (lv1 := [(2, .int r_1), (0, .ref v0), (1, .ref v1)]) C dX2_turn_4 (by decide) rfl ?_
  refine rx_iconst (v := 0) C dX2_turn_5 rfl ?_
  refine rx_istore_n (lv1 := [(3, .int 0), (2, .int r_1), (0, .ref v0), (1, .ref v1)]) C dX2_turn_6 (by decide) rfl ?_
  refine rx_lv [2, 3, 1, 0] rfl ?_
  refine lw_Mak_turn_7 hG hll C v0 m_v0 k_v0 v1 m_v1 k_v1 r_1 _ _ _ _ hm (fun σ_7 hm => ?_)
  exact rx_vret C dX2_turn_29 hm
def l_Mak_weigh_5 (fu : Nat) (N : Nat → Nat) (v0 : Nat) (v1 : Nat) : Nat → Int64 → Int32 → rr_M → (rr_M → Option (Unit × rr_M)) → Option (Unit × rr_M)
  | 0, _, _, _, _ => none
  | n + 1, v2, v4, σ, kk =>
    if (nI (N v1)) ≤ v4 then (kk σ) else
    if 17 ≤ v4 then (kk σ) else
    rr_lt (v2 * ((rr_mx v4 1).toInt64)) fun v2_3 =>
    rr_lt (mg_r σ v0 0) fun p_4 =>
    (if rr_ix v4 (N v1) then
    (if rr_ix v4 (N p_4) then rr_lt (ms_l σ p_4 (rr_n v4) ((mg_l σ v1 (rr_n v4)) * v2_3)) fun σ_5 =>
    rr_lt (v4 + 1) fun v4_6 =>
    l_Mak_weigh_5 fu N v0 v1 n v2_3 v4_6 σ_5 kk else none) else none)
theorem lw_Mak_weigh_5 {X : rr_X} {G : rr_G} {l : Launch} {fu : Nat} (hG : G.2.2.1.Nodup) (hll : X.2.1 = l) (C : rr_C X G cX2_weigh 5 "RootRows$Maker" none 1 23) {σr : rr_M} (v0 : Nat) (m_v0 : v0 ∈ G.2.2.1) (k_v0 : G.2.2.2.1 v0 = 2) (v1 : Nat) (m_v1 : v1 ∈ G.2.2.1) (k_v1 : G.2.2.2.1 v1 = 12) : ∀ (n : Nat) (v2 : Int64) (v4 : Int32) (σ : rr_M) (K : rr_M → Option (Unit × rr_M)), l_Mak_weigh_5 fu G.2.2.2.2 v0 v1 n v2 v4 σ K = some ((), σr) → (∀ (σ1 : rr_M), K σ1 = some ((), σr) → rr_J X G 5 (rr_E X G σr none) σ1 48 [] []) → rr_J X G 5 (rr_E X G σr none) σ 5 [(0, .ref v0), (1, .ref v1), (2, .long v2), (4, .int v4)] [] := by
  intro n
  induction n with
  | zero =>
    intro v2 v4 σ K hm
    cases hm
  | succ n ih =>
    intro v2 v4 σ K hm hk
    unfold l_Mak_weigh_5 at hm
    refine rx_iload C 3 dX2_weigh_5 rfl ?_
    refine rx_aload_n C 1 dX2_weigh_7 rfl ?_
    refine rx_alen C m_v1 k_v1 (by decide) dX2_weigh_8 ?_
    refine rx_icmp_ge (tgt := 48) C dX2_weigh_9 (by decide) hm (fun h_1 hm => ?_) (fun h_1 hm => ?_)
    · refine rx_lv [] rfl ?_
      exact hk _ hm
    refine rx_iload C 3 dX2_weigh_12 rfl ?_
    refine rx_bipush (v := 17) C dX2_weigh_14 rfl ?_
    refine rx_icmp_ge (tgt := 48) C dX2_weigh_16 (by decide) hm (fun h_2 hm => ?_) (fun h_2 hm => ?_)
    · refine rx_lv [] rfl ?_
      exact hk _ hm
    refine rx_lload_n C 2 dX2_weigh_19 rfl ?_
    refine rx_iload C 3 dX2_weigh_20 rfl ?_
    refine rx_iconst (v := 1) C dX2_weigh_22 rfl ?_
    refine rx_mmax (rest := [.long v2]) C q_500 (by decide) (by decide) (Nat.le_of_ble_eq_true rfl) dX2_weigh_23 ?_
    refine rx_i2l C dX2_weigh_26 ?_
    refine rx_lmul C dX2_weigh_27 ?_
    refine rx_nml hm (fun v2_3 ev2_3 hm => ?_)
    refine rx_lstore_n (lv1 := [(2, .long v2_3), (0, .ref v0), (1, .ref v1), (4, .int v4)]) C dX2_weigh_28 (by decide) rfl ?_
    refine rx_aload_n C 1 dX2_weigh_29 rfl ?_
    refine gf_137 C m_v0 k_v0 dX2_weigh_30 hm (fun p_4 m_p_4 k_p_4 hm => ?_)
    refine rx_iload C 3 dX2_weigh_33 rfl ?_
    refine rx_aload_n C 2 dX2_weigh_35 rfl ?_
    refine rx_iload C 3 dX2_weigh_36 rfl ?_
    refine rx_lald C m_v1 k_v1 dX2_weigh_38 hm (fun hm => ?_)
    refine rx_lload_n C 0 dX2_weigh_39 rfl ?_
    refine rx_lmul C dX2_weigh_40 ?_
    refine rx_last C m_p_4 k_p_4 dX2_weigh_41 hm (fun σ_5 hm => ?_)
    refine rx_iinc (d := 1) (lv1 := fun v => [(4, .int v), (2, .long v2_3), (0, .ref v0), (1, .ref v1)]) C 3 dX2_weigh_42 hm rfl rfl (by decide) (fun _ => rfl) (fun v4_6 hm => ?_)
    refine rx_goto (tgt := 5) C dX2_weigh_45 (by decide) ?_
    refine rx_lv [2, 3, 1, 0] rfl ?_
    exact ih _ _ _ _ hm hk
def f_Mak_weigh (fu : Nat) (N : Nat → Nat) (v0 : Nat) (v1 : Nat) (σ : rr_M) : Option (Unit × rr_M) :=
    l_Mak_weigh_5 fu N v0 v1 fu 1 0 σ (fun σ_7 =>
    some ((), σ_7))
theorem c_Mak_weigh (l : Launch) (G : rr_G) (hG : G.2.2.1.Nodup) (fu : Nat) (v0 : Nat) (m_v0 : v0 ∈ G.2.2.1) (k_v0 : G.2.2.2.1 v0 = 2) (v1 : Nat) (m_v1 : v1 ∈ G.2.2.1) (k_v1 : G.2.2.2.1 v1 = 12) (σ : rr_M) (σr : rr_M) (hm : f_Mak_weigh fu G.2.2.2.2 v0 v1 σ = some ((), σr)) : rr_Met l G yX2_weigh cX2_weigh 5 none 1 23 [.ref v0, .ref v1] σ σr none := by
  refine rr_enter (lv0 := [(0, .ref v0), (1, .ref v1)]) hp_Mak_weigh hG (Nat.le_of_ble_eq_true rfl) rfl (fun X hll C => ?_)
  replace C : rr_C X G cX2_weigh 5 "RootRows$Maker" none 1 23 := C
  unfold f_Mak_weigh at hm
  refine rx_lconst (v := 1) C dX2_weigh_0 rfl ?_
  refine rx_lstore_n (lv1 := [(2, .long 1), (0, .ref v0), (1, .ref v1)]) C dX2_weigh_1 (by decide) rfl ?_
  refine rx_iconst (v := 0) C dX2_weigh_2 rfl ?_
  refine rx_istore (lv1 := [(4, .int 0), (2, .long 1), (0, .ref v0), (1, .ref v1)]) C dX2_weigh_3 (by decide) rfl ?_
  refine rx_lv [2, 3, 1, 0] rfl ?_
  refine lw_Mak_weigh_5 hG hll C v0 m_v0 k_v0 v1 m_v1 k_v1 _ _ _ _ _ hm (fun σ_7 hm => ?_)
  exact rx_vret C dX2_weigh_48 hm
def f_Mak_apply (fu : Nat) (N : Nat → Nat) (v0 : Nat) (v1 : Nat) (v2 : Int32) (v3 : Int32) (σ : rr_M) : Option (Int32 × rr_M) :=
    rr_bd (f_Mak_clear fu N v0 σ) fun _ σ_1 =>
    rr_jn (fun (σ_3 : rr_M) =>
    rr_lt (mg_r σ_3 v0 0) fun p_4 =>
    Option.bind (f_Num_fits fu N p_4 σ_3) fun r_5 =>
    if rr_b1 r_5 then some (r_5, σ_3) else none) fun j199 =>
    if v2 = 0 then (rr_bd (f_Mak_addSlope fu N v0 v1 0 1 σ_1) fun _ σ_8 =>
    j199 σ_8) else
    if v2 = 1 then (rr_bd (f_Mak_addSlope fu N v0 v1 1 1 σ_1) fun _ σ_11 =>
    j199 σ_11) else
    if v2 = 2 then (rr_bd (f_Mak_addNumbers fu N v0 v1 0 1 σ_1) fun _ σ_14 =>
    rr_bd (f_Mak_addSlope fu N v0 v1 0 v3.toInt64 σ_14) fun _ σ_16 =>
    j199 σ_16) else
    if v2 = 3 then (rr_bd (f_Mak_addNumbers fu N v0 v1 1 1 σ_1) fun _ σ_19 =>
    rr_bd (f_Mak_addNumbers fu N v0 v1 0 v3.toInt64 σ_19) fun _ σ_21 =>
    j199 σ_21) else
    if v2 = 4 then (rr_bd (f_Mak_shift fu N v0 v1 v3 σ_1) fun r_24 σ_25 =>
    if rr_b1 r_24 then some (r_24, σ_25) else none) else
    if v2 = 5 then (rr_bd (f_Mak_turn fu N v0 v1 σ_1) fun _ σ_28 =>
    j199 σ_28) else
    if v2 = 6 then (rr_bd (f_Mak_stretch fu N v0 v1 v3 σ_1) fun r_31 σ_32 =>
    if rr_b1 r_31 then some (r_31, σ_32) else none) else
    if v2 = 7 then (rr_bd (f_Mak_addNumbers fu N v0 v1 0 1 σ_1) fun _ σ_35 =>
    rr_bd (f_Mak_addNumbers fu N v0 v1 1 v3.toInt64 σ_35) fun _ σ_37 =>
    rr_bd (f_Mak_addSlope fu N v0 v1 1 1 σ_37) fun _ σ_39 =>
    rr_bd (f_Mak_addSlope fu N v0 v1 2 (-1) σ_39) fun _ σ_41 =>
    j199 σ_41) else
    if v2 = 8 then (rr_bd (f_Mak_addNumbers fu N v0 v1 1 1 σ_1) fun _ σ_44 =>
    rr_bd (f_Mak_addSlope fu N v0 v1 1 1 σ_44) fun _ σ_46 =>
    j199 σ_46) else
    if v2 = 9 then (rr_bd (f_Mak_weigh fu N v0 v1 σ_1) fun _ σ_49 =>
    j199 σ_49) else
    (if rr_b1 0 then some (0, σ_1) else none)
theorem c_Mak_apply (l : Launch) (G : rr_G) (hG : G.2.2.1.Nodup) (fu : Nat) (v0 : Nat) (m_v0 : v0 ∈ G.2.2.1) (k_v0 : G.2.2.2.1 v0 = 2) (v1 : Nat) (m_v1 : v1 ∈ G.2.2.1) (k_v1 : G.2.2.2.1 v1 = 12) (v2 : Int32) (v3 : Int32) (σ : rr_M) (r : Int32) (σr : rr_M) (hm : f_Mak_apply fu G.2.2.2.2 v0 v1 v2 v3 σ = some (r, σr)) : rr_Met l G yX2_apply cX2_apply 4 (some .boolean) 2 49 [.ref v0, .ref v1, .int v2, .int v3] σ σr (some (.int r)) := by
  refine rr_enter (lv0 := [(0, .ref v0), (1, .ref v1), (2, .int v2), (3, .int v3)]) hp_Mak_apply hG (Nat.le_of_ble_eq_true rfl) rfl (fun X hll C => ?_)
  replace C : rr_C X G cX2_apply 4 "RootRows$Maker" (some .boolean) 2 49 := C
  unfold f_Mak_apply at hm
  refine rx_aload_n C 0 dX2_apply_0 rfl ?_
  obtain ⟨_, σ_1, hc_2, hm⟩ := rr_bd_some hm
  refine rr_callV (rest := []) (st1 := []) C 2 hll (c_Mak_clear l G hG fu v0 m_v0 k_v0 σ _ hc_2) q_463 q_465 qs_10 q_4 q_466 hd_Mak_clear ⟨_, rfl, rfl⟩ (by decide) m_v0 k_v0 ⟨by decide, by decide⟩ rfl rfl (Nat.le_of_ble_eq_true rfl) rfl dX2_apply_1 ?_
  refine rx_iload_n C 2 dX2_apply_4 rfl ?_
  refine rr_jn1 hm (fun j199 ej199 hm => ?_)
  have hj199 : ∀ (σ_3 : rr_M), j199 σ_3 = some (r, σr) → rr_J X G 4 (rr_E X G σr (some (.int r))) σ_3 199 [(0, .ref v0)] [] := by
    intro σ_3 hm
    replace hm := ej199 _ hm
    refine rx_aload_n C 0 dX2_apply_199 rfl ?_
    refine gf_137 C m_v0 k_v0 dX2_apply_200 hm (fun p_4 m_p_4 k_p_4 hm => ?_)
    obtain ⟨r_5, hc_6, hm⟩ := rr_b0_some hm
    refine rr_callS (rest := []) (st1 := [.int r_5]) C hll (c_Num_fits l G hG fu p_4 m_p_4 k_p_4 σ_3 _ hc_6) q_481 q_424 q_12 q_425 hd_Num_fits ⟨by decide, by decide⟩ rfl rfl (Nat.le_of_ble_eq_true rfl) rfl dX2_apply_203 ?_
    exact rx_zret C dX2_apply_206 hm
  refine rr_if hm (fun h_7 hm => ?_) (fun h_7 hm => ?_)
  · refine rx_tin (tgt := 60) C h_7 dX2_apply_5 (by decide) (by decide) rfl (by decide) ?_
    refine rx_aload_n C 0 dX2_apply_60 rfl ?_
    refine rx_aload_n C 1 dX2_apply_61 rfl ?_
    refine rx_iconst (v := 0) C dX2_apply_62 rfl ?_
    refine rx_lconst (v := 1) C dX2_apply_63 rfl ?_
    obtain ⟨_, σ_8, hc_9, hm⟩ := rr_bd_some hm
    refine rr_callV (rest := []) (st1 := []) C 2 hll (c_Mak_addSlope l G hG fu v0 m_v0 k_v0 v1 m_v1 k_v1 0 1 σ_1 _ hc_9) q_467 q_469 qs_11 q_4 q_470 hd_Mak_addSlope ⟨_, rfl, rfl⟩ (by decide) m_v0 k_v0 ⟨by decide, by decide⟩ rfl rfl (Nat.le_of_ble_eq_true rfl) rfl dX2_apply_64 ?_
    refine rx_goto (tgt := 199) C dX2_apply_67 (by decide) ?_
    refine rx_lv [0] rfl ?_
    exact hj199 _ hm
  refine rr_if hm (fun h_10 hm => ?_) (fun h_10 hm => ?_)
  · refine rx_tin (tgt := 70) C h_10 dX2_apply_5 (by decide) (by decide) rfl (by decide) ?_
    refine rx_aload_n C 0 dX2_apply_70 rfl ?_
    refine rx_aload_n C 1 dX2_apply_71 rfl ?_
    refine rx_iconst (v := 1) C dX2_apply_72 rfl ?_
    refine rx_lconst (v := 1) C dX2_apply_73 rfl ?_
    obtain ⟨_, σ_11, hc_12, hm⟩ := rr_bd_some hm
    refine rr_callV (rest := []) (st1 := []) C 2 hll (c_Mak_addSlope l G hG fu v0 m_v0 k_v0 v1 m_v1 k_v1 1 1 σ_1 _ hc_12) q_467 q_469 qs_11 q_4 q_470 hd_Mak_addSlope ⟨_, rfl, rfl⟩ (by decide) m_v0 k_v0 ⟨by decide, by decide⟩ rfl rfl (Nat.le_of_ble_eq_true rfl) rfl dX2_apply_74 ?_
    refine rx_goto (tgt := 199) C dX2_apply_77 (by decide) ?_
    refine rx_lv [0] rfl ?_
    exact hj199 _ hm
  refine rr_if hm (fun h_13 hm => ?_) (fun h_13 hm => ?_)
  · refine rx_tin (tgt := 80) C h_13 dX2_apply_5 (by decide) (by decide) rfl (by decide) ?_
    refine rx_aload_n C 0 dX2_apply_80 rfl ?_
    refine rx_aload_n C 1 dX2_apply_81 rfl ?_
    refine rx_iconst (v := 0) C dX2_apply_82 rfl ?_
    refine rx_lconst (v := 1) C dX2_apply_83 rfl ?_
    obtain ⟨_, σ_14, hc_15, hm⟩ := rr_bd_some hm
    refine rr_callV (rest := []) (st1 := []) C 2 hll (c_Mak_addNumbers l G hG fu v0 m_v0 k_v0 v1 m_v1 k_v1 0 1 σ_1 _ hc_15) q_471 q_473 qs_12 q_4 q_474 hd_Mak_addNumbers ⟨_, rfl, rfl⟩ (by decide) m_v0 k_v0 ⟨by decide, by decide⟩ rfl rfl (Nat.le_of_ble_eq_true rfl) rfl dX2_apply_84 ?_
    refine rx_aload_n C 0 dX2_apply_87 rfl ?_
    refine rx_aload_n C 1 dX2_apply_88 rfl ?_
    refine rx_iconst (v := 0) C dX2_apply_89 rfl ?_
    refine rx_iload_n C 3 dX2_apply_90 rfl ?_
    refine rx_i2l C dX2_apply_91 ?_
    obtain ⟨_, σ_16, hc_17, hm⟩ := rr_bd_some hm
    refine rr_callV (rest := []) (st1 := []) C 2 hll (c_Mak_addSlope l G hG fu v0 m_v0 k_v0 v1 m_v1 k_v1 0 v3.toInt64 σ_14 _ hc_17) q_467 q_469 qs_11 q_4 q_470 hd_Mak_addSlope ⟨_, rfl, rfl⟩ (by decide) m_v0 k_v0 ⟨by decide, by decide⟩ rfl rfl (Nat.le_of_ble_eq_true rfl) rfl dX2_apply_92 ?_
    refine rx_goto (tgt := 199) C dX2_apply_95 (by decide) ?_
    refine rx_lv [0] rfl ?_
    exact hj199 _ hm
  refine rr_if hm (fun h_18 hm => ?_) (fun h_18 hm => ?_)
  · refine rx_tin (tgt := 98) C h_18 dX2_apply_5 (by decide) (by decide) rfl (by decide) ?_
    refine rx_aload_n C 0 dX2_apply_98 rfl ?_
    refine rx_aload_n C 1 dX2_apply_99 rfl ?_
    refine rx_iconst (v := 1) C dX2_apply_100 rfl ?_
    refine rx_lconst (v := 1) C dX2_apply_101 rfl ?_
    obtain ⟨_, σ_19, hc_20, hm⟩ := rr_bd_some hm
    refine rr_callV (rest := []) (st1 := []) C 2 hll (c_Mak_addNumbers l G hG fu v0 m_v0 k_v0 v1 m_v1 k_v1 1 1 σ_1 _ hc_20) q_471 q_473 qs_12 q_4 q_474 hd_Mak_addNumbers ⟨_, rfl, rfl⟩ (by decide) m_v0 k_v0 ⟨by decide, by decide⟩ rfl rfl (Nat.le_of_ble_eq_true rfl) rfl dX2_apply_102 ?_
    refine rx_aload_n C 0 dX2_apply_105 rfl ?_
    refine rx_aload_n C 1 dX2_apply_106 rfl ?_
    refine rx_iconst (v := 0) C dX2_apply_107 rfl ?_
    refine rx_iload_n C 3 dX2_apply_108 rfl ?_
    refine rx_i2l C dX2_apply_109 ?_
    obtain ⟨_, σ_21, hc_22, hm⟩ := rr_bd_some hm
    refine rr_callV (rest := []) (st1 := []) C 2 hll (c_Mak_addNumbers l G hG fu v0 m_v0 k_v0 v1 m_v1 k_v1 0 v3.toInt64 σ_19 _ hc_22) q_471 q_473 qs_12 q_4 q_474 hd_Mak_addNumbers ⟨_, rfl, rfl⟩ (by decide) m_v0 k_v0 ⟨by decide, by decide⟩ rfl rfl (Nat.le_of_ble_eq_true rfl) rfl dX2_apply_110 ?_
    refine rx_goto (tgt := 199) C dX2_apply_113 (by decide) ?_
    refine rx_lv [0] rfl ?_
    exact hj199 _ hm
  refine rr_if hm (fun h_23 hm => ?_) (fun h_23 hm => ?_)
  · refine rx_tin (tgt := 116) C h_23 dX2_apply_5 (by decide) (by decide) rfl (by decide) ?_
    refine rx_aload_n C 0 dX2_apply_116 rfl ?_
    refine rx_aload_n C 1 dX2_apply_117 rfl ?_
    refine rx_iload_n C 3 dX2_apply_118 rfl ?_
    obtain ⟨r_24, σ_25, hc_26, hm⟩ := rr_bd_some hm
    refine rr_callV (rest := []) (st1 := [.int r_24]) C 2 hll (c_Mak_shift l G hG fu v0 m_v0 k_v0 v1 m_v1 k_v1 v3 σ_1 _ _ hc_26) q_475 q_477 qs_13 q_4 q_478 hd_Mak_shift ⟨_, rfl, rfl⟩ (by decide) m_v0 k_v0 ⟨by decide, by decide⟩ rfl rfl (Nat.le_of_ble_eq_true rfl) rfl dX2_apply_119 ?_
    exact rx_zret C dX2_apply_122 hm
  refine rr_if hm (fun h_27 hm => ?_) (fun h_27 hm => ?_)
  · refine rx_tin (tgt := 123) C h_27 dX2_apply_5 (by decide) (by decide) rfl (by decide) ?_
    refine rx_aload_n C 0 dX2_apply_123 rfl ?_
    refine rx_aload_n C 1 dX2_apply_124 rfl ?_
    obtain ⟨_, σ_28, hc_29, hm⟩ := rr_bd_some hm
    refine rr_callV (rest := []) (st1 := []) C 2 hll (c_Mak_turn l G hG fu v0 m_v0 k_v0 v1 m_v1 k_v1 σ_1 _ hc_29) q_482 q_484 qs_14 q_4 q_485 hd_Mak_turn ⟨_, rfl, rfl⟩ (by decide) m_v0 k_v0 ⟨by decide, by decide⟩ rfl rfl (Nat.le_of_ble_eq_true rfl) rfl dX2_apply_125 ?_
    refine rx_goto (tgt := 199) C dX2_apply_128 (by decide) ?_
    refine rx_lv [0] rfl ?_
    exact hj199 _ hm
  refine rr_if hm (fun h_30 hm => ?_) (fun h_30 hm => ?_)
  · refine rx_tin (tgt := 131) C h_30 dX2_apply_5 (by decide) (by decide) rfl (by decide) ?_
    refine rx_aload_n C 0 dX2_apply_131 rfl ?_
    refine rx_aload_n C 1 dX2_apply_132 rfl ?_
    refine rx_iload_n C 3 dX2_apply_133 rfl ?_
    obtain ⟨r_31, σ_32, hc_33, hm⟩ := rr_bd_some hm
    refine rr_callV (rest := []) (st1 := [.int r_31]) C 2 hll (c_Mak_stretch l G hG fu v0 m_v0 k_v0 v1 m_v1 k_v1 v3 σ_1 _ _ hc_33) q_489 q_491 qs_15 q_4 q_492 hd_Mak_stretch ⟨_, rfl, rfl⟩ (by decide) m_v0 k_v0 ⟨by decide, by decide⟩ rfl rfl (Nat.le_of_ble_eq_true rfl) rfl dX2_apply_134 ?_
    exact rx_zret C dX2_apply_137 hm
  refine rr_if hm (fun h_34 hm => ?_) (fun h_34 hm => ?_)
  · refine rx_tin (tgt := 138) C h_34 dX2_apply_5 (by decide) (by decide) rfl (by decide) ?_
    refine rx_aload_n C 0 dX2_apply_138 rfl ?_
    refine rx_aload_n C 1 dX2_apply_139 rfl ?_
    refine rx_iconst (v := 0) C dX2_apply_140 rfl ?_
    refine rx_lconst (v := 1) C dX2_apply_141 rfl ?_
    obtain ⟨_, σ_35, hc_36, hm⟩ := rr_bd_some hm
    refine rr_callV (rest := []) (st1 := []) C 2 hll (c_Mak_addNumbers l G hG fu v0 m_v0 k_v0 v1 m_v1 k_v1 0 1 σ_1 _ hc_36) q_471 q_473 qs_12 q_4 q_474 hd_Mak_addNumbers ⟨_, rfl, rfl⟩ (by decide) m_v0 k_v0 ⟨by decide, by decide⟩ rfl rfl (Nat.le_of_ble_eq_true rfl) rfl dX2_apply_142 ?_
    refine rx_aload_n C 0 dX2_apply_145 rfl ?_
    refine rx_aload_n C 1 dX2_apply_146 rfl ?_
    refine rx_iconst (v := 1) C dX2_apply_147 rfl ?_
    refine rx_iload_n C 3 dX2_apply_148 rfl ?_
    refine rx_i2l C dX2_apply_149 ?_
    obtain ⟨_, σ_37, hc_38, hm⟩ := rr_bd_some hm
    refine rr_callV (rest := []) (st1 := []) C 2 hll (c_Mak_addNumbers l G hG fu v0 m_v0 k_v0 v1 m_v1 k_v1 1 v3.toInt64 σ_35 _ hc_38) q_471 q_473 qs_12 q_4 q_474 hd_Mak_addNumbers ⟨_, rfl, rfl⟩ (by decide) m_v0 k_v0 ⟨by decide, by decide⟩ rfl rfl (Nat.le_of_ble_eq_true rfl) rfl dX2_apply_150 ?_
    refine rx_aload_n C 0 dX2_apply_153 rfl ?_
    refine rx_aload_n C 1 dX2_apply_154 rfl ?_
    refine rx_iconst (v := 1) C dX2_apply_155 rfl ?_
    refine rx_lconst (v := 1) C dX2_apply_156 rfl ?_
    obtain ⟨_, σ_39, hc_40, hm⟩ := rr_bd_some hm
    refine rr_callV (rest := []) (st1 := []) C 2 hll (c_Mak_addSlope l G hG fu v0 m_v0 k_v0 v1 m_v1 k_v1 1 1 σ_37 _ hc_40) q_467 q_469 qs_11 q_4 q_470 hd_Mak_addSlope ⟨_, rfl, rfl⟩ (by decide) m_v0 k_v0 ⟨by decide, by decide⟩ rfl rfl (Nat.le_of_ble_eq_true rfl) rfl dX2_apply_157 ?_
    refine rx_aload_n C 0 dX2_apply_160 rfl ?_
    refine rx_aload_n C 1 dX2_apply_161 rfl ?_
    refine rx_iconst (v := 2) C dX2_apply_162 rfl ?_
    refine rx_ldc2 C q_495 dX2_apply_163 ?_
    obtain ⟨_, σ_41, hc_42, hm⟩ := rr_bd_some hm
    refine rr_callV (rest := []) (st1 := []) C 2 hll (c_Mak_addSlope l G hG fu v0 m_v0 k_v0 v1 m_v1 k_v1 2 (-1) σ_39 _ hc_42) q_467 q_469 qs_11 q_4 q_470 hd_Mak_addSlope ⟨_, rfl, rfl⟩ (by decide) m_v0 k_v0 ⟨by decide, by decide⟩ rfl rfl (Nat.le_of_ble_eq_true rfl) rfl dX2_apply_166 ?_
    refine rx_goto (tgt := 199) C dX2_apply_169 (by decide) ?_
    refine rx_lv [0] rfl ?_
    exact hj199 _ hm
  refine rr_if hm (fun h_43 hm => ?_) (fun h_43 hm => ?_)
  · refine rx_tin (tgt := 172) C h_43 dX2_apply_5 (by decide) (by decide) rfl (by decide) ?_
    refine rx_aload_n C 0 dX2_apply_172 rfl ?_
    refine rx_aload_n C 1 dX2_apply_173 rfl ?_
    refine rx_iconst (v := 1) C dX2_apply_174 rfl ?_
    refine rx_lconst (v := 1) C dX2_apply_175 rfl ?_
    obtain ⟨_, σ_44, hc_45, hm⟩ := rr_bd_some hm
    refine rr_callV (rest := []) (st1 := []) C 2 hll (c_Mak_addNumbers l G hG fu v0 m_v0 k_v0 v1 m_v1 k_v1 1 1 σ_1 _ hc_45) q_471 q_473 qs_12 q_4 q_474 hd_Mak_addNumbers ⟨_, rfl, rfl⟩ (by decide) m_v0 k_v0 ⟨by decide, by decide⟩ rfl rfl (Nat.le_of_ble_eq_true rfl) rfl dX2_apply_176 ?_
    refine rx_aload_n C 0 dX2_apply_179 rfl ?_
    refine rx_aload_n C 1 dX2_apply_180 rfl ?_
    refine rx_iconst (v := 1) C dX2_apply_181 rfl ?_
    refine rx_lconst (v := 1) C dX2_apply_182 rfl ?_
    obtain ⟨_, σ_46, hc_47, hm⟩ := rr_bd_some hm
    refine rr_callV (rest := []) (st1 := []) C 2 hll (c_Mak_addSlope l G hG fu v0 m_v0 k_v0 v1 m_v1 k_v1 1 1 σ_44 _ hc_47) q_467 q_469 qs_11 q_4 q_470 hd_Mak_addSlope ⟨_, rfl, rfl⟩ (by decide) m_v0 k_v0 ⟨by decide, by decide⟩ rfl rfl (Nat.le_of_ble_eq_true rfl) rfl dX2_apply_183 ?_
    refine rx_goto (tgt := 199) C dX2_apply_186 (by decide) ?_
    refine rx_lv [0] rfl ?_
    exact hj199 _ hm
  refine rr_if hm (fun h_48 hm => ?_) (fun h_48 hm => ?_)
  · refine rx_tin (tgt := 189) C h_48 dX2_apply_5 (by decide) (by decide) rfl (by decide) ?_
    refine rx_aload_n C 0 dX2_apply_189 rfl ?_
    refine rx_aload_n C 1 dX2_apply_190 rfl ?_
    obtain ⟨_, σ_49, hc_50, hm⟩ := rr_bd_some hm
    refine rr_callV (rest := []) (st1 := []) C 2 hll (c_Mak_weigh l G hG fu v0 m_v0 k_v0 v1 m_v1 k_v1 σ_1 _ hc_50) q_496 q_498 qs_16 q_4 q_499 hd_Mak_weigh ⟨_, rfl, rfl⟩ (by decide) m_v0 k_v0 ⟨by decide, by decide⟩ rfl rfl (Nat.le_of_ble_eq_true rfl) rfl dX2_apply_191 ?_
    refine rx_goto (tgt := 199) C dX2_apply_194 (by decide) ?_
    refine rx_lv [0] rfl ?_
    exact hj199 _ hm
  refine rx_tout (tgt := 197) C dX2_apply_5 (by have q0 := lv_neT (a := 0) h_7 (by decide); have q1 := lv_neT (a := 1) h_10 (by decide); have q2 := lv_neT (a := 2) h_13 (by decide); have q3 := lv_neT (a := 3) h_18 (by decide); have q4 := lv_neT (a := 4) h_23 (by decide); have q5 := lv_neT (a := 5) h_27 (by decide); have q6 := lv_neT (a := 6) h_30 (by decide); have q7 := lv_neT (a := 7) h_34 (by decide); have q8 := lv_neT (a := 8) h_43 (by decide); have q9 := lv_neT (a := 9) h_48 (by decide); omega) (by decide) ?_
  refine rx_iconst (v := 0) C dX2_apply_197 rfl ?_
  exact rx_zret C dX2_apply_198 hm
def f_Tra_change (N : Nat → Nat) (v0 : Nat) (v1 : Int32) (v2 : Int64) (σ : rr_M) : Option (Unit × rr_M) :=
    if v1 < 0 then (some ((), σ)) else
    if 9 ≤ v1 then (some ((), σ)) else
    rr_lt (mg_r σ v0 0) fun p_3 =>
    (if rr_ix v1 (N p_3) then rr_lt (ms_l σ p_3 (rr_n v1) v2) fun σ_4 =>
    rr_bd (f_Tra_forget v0 σ_4) fun _ σ_5 =>
    some ((), σ_5) else none)
theorem c_Tra_change (l : Launch) (G : rr_G) (hG : G.2.2.1.Nodup) (v0 : Nat) (m_v0 : v0 ∈ G.2.2.1) (k_v0 : G.2.2.2.1 v0 = 7) (v1 : Int32) (v2 : Int64) (σ : rr_M) (σr : rr_M) (hm : f_Tra_change G.2.2.2.2 v0 v1 v2 σ = some ((), σr)) : rr_Met l G yX9_change cX9_change 4 none 1 20 [.ref v0, .int v1, .long v2] σ σr none := by
  refine rr_enter (lv0 := [(0, .ref v0), (1, .int v1), (2, .long v2)]) hp_Tra_change hG (Nat.le_of_ble_eq_true rfl) rfl (fun X hll C => ?_)
  replace C : rr_C X G cX9_change 4 "RootRows$Tray" none 1 20 := C
  unfold f_Tra_change at hm
  refine rx_iload_n C 1 dX9_change_0 rfl ?_
  refine rx_if_lt (tgt := 21) C dX9_change_1 (by decide) hm (fun h_1 hm => ?_) (fun h_1 hm => ?_)
  · exact rx_vret C dX9_change_21 hm
  refine rx_iload_n C 1 dX9_change_4 rfl ?_
  refine rx_bipush (v := 9) C dX9_change_5 rfl ?_
  refine rx_icmp_ge (tgt := 21) C dX9_change_7 (by decide) hm (fun h_2 hm => ?_) (fun h_2 hm => ?_)
  · exact rx_vret C dX9_change_21 hm
  refine rx_aload_n C 0 dX9_change_10 rfl ?_
  refine gf_32 C m_v0 k_v0 dX9_change_11 hm (fun p_3 m_p_3 k_p_3 hm => ?_)
  refine rx_iload_n C 1 dX9_change_14 rfl ?_
  refine rx_lload_n C 2 dX9_change_15 rfl ?_
  refine rx_last C m_p_3 k_p_3 dX9_change_16 hm (fun σ_4 hm => ?_)
  refine rx_aload_n C 0 dX9_change_17 rfl ?_
  obtain ⟨_, σ_5, hc_6, hm⟩ := rr_bd_some hm
  refine rr_callV (rest := []) (st1 := []) C 7 hll (c_Tra_forget l G hG v0 m_v0 k_v0 σ_4 _ hc_6) q_431 q_432 q_433 q_2 q_434 hd_Tra_forget ⟨_, rfl, rfl⟩ (by decide) m_v0 k_v0 ⟨by decide, by decide⟩ rfl rfl (Nat.le_of_ble_eq_true rfl) rfl dX9_change_18 ?_
  exact rx_vret C dX9_change_21 hm
def f_Tap_addTerm (N : Nat → Nat) (v0 : Nat) (σ : rr_M) : Option (Unit × rr_M) :=
    if (mg_i σ v0 7) < 0 then (some ((), σ)) else
    if 9 ≤ (mg_i σ v0 7) then (some ((), σ)) else
    rr_lt (mg_r σ v0 3) fun p_3 =>
    (if rr_ix (mg_i σ v0 7) (N p_3) then
    rr_jn (fun (t_4 : Int64) =>
    (if rr_ix (mg_i σ v0 7) (N p_3) then rr_lt (ms_l σ p_3 (rr_n (mg_i σ v0 7)) ((mg_l σ p_3 (rr_n (mg_i σ v0 7))) + t_4)) fun σ_5 =>
    some ((), σ_5) else none)) fun j45 =>
    if (mg_i σ v0 5) = 0 then (j45 (mg_l σ v0 6)) else
    j45 (-(mg_l σ v0 6)) else none)
theorem c_Tap_addTerm (l : Launch) (G : rr_G) (hG : G.2.2.1.Nodup) (v0 : Nat) (m_v0 : v0 ∈ G.2.2.1) (k_v0 : G.2.2.2.1 v0 = 6) (σ : rr_M) (σr : rr_M) (hm : f_Tap_addTerm G.2.2.2.2 v0 σ = some ((), σr)) : rr_Met l G yX8_addTerm cX8_addTerm 1 none 0 0 [.ref v0] σ σr none := by
  refine rr_enter (lv0 := [(0, .ref v0)]) hp_Tap_addTerm hG (Nat.le_of_ble_eq_true rfl) rfl (fun X hll C => ?_)
  replace C : rr_C X G cX8_addTerm 1 "RootRows$Tape" none 0 0 := C
  unfold f_Tap_addTerm at hm
  refine rx_aload_n C 0 dX8_addTerm_0 rfl ?_
  refine gf_113 C m_v0 k_v0 dX8_addTerm_1 ?_
  refine rx_if_lt (tgt := 47) C dX8_addTerm_4 (by decide) hm (fun h_1 hm => ?_) (fun h_1 hm => ?_)
  · exact rx_vret C dX8_addTerm_47 hm
  refine rx_aload_n C 0 dX8_addTerm_7 rfl ?_
  refine gf_113 C m_v0 k_v0 dX8_addTerm_8 ?_
  refine rx_bipush (v := 9) C dX8_addTerm_11 rfl ?_
  refine rx_icmp_ge (tgt := 47) C dX8_addTerm_13 (by decide) hm (fun h_2 hm => ?_) (fun h_2 hm => ?_)
  · exact rx_vret C dX8_addTerm_47 hm
  refine rx_aload_n C 0 dX8_addTerm_16 rfl ?_
  refine gf_108 C m_v0 k_v0 dX8_addTerm_17 hm (fun p_3 m_p_3 k_p_3 hm => ?_)
  refine rx_aload_n C 0 dX8_addTerm_20 rfl ?_
  refine gf_113 C m_v0 k_v0 dX8_addTerm_21 ?_
  refine rx_dup2_11 C dX8_addTerm_24 rfl rfl ?_
  refine rx_lald C m_p_3 k_p_3 dX8_addTerm_25 hm (fun hm => ?_)
  refine rx_aload_n C 0 dX8_addTerm_26 rfl ?_
  refine gf_111 C m_v0 k_v0 dX8_addTerm_27 ?_
  refine rr_jn1 hm (fun j45 ej45 hm => ?_)
  have hj45 : ∀ (t_4 : Int64), j45 t_4 = some ((), σr) → rr_J X G 1 (rr_E X G σr none) σ 45 [] [.long t_4, .long (mg_l σ p_3 (rr_n (mg_i σ v0 7))), .int (mg_i σ v0 7), .ref p_3] := by
    intro t_4 hm
    replace hm := ej45 _ hm
    refine rx_ladd C dX8_addTerm_45 ?_
    refine rx_last C m_p_3 k_p_3 dX8_addTerm_46 hm (fun σ_5 hm => ?_)
    exact rx_vret C dX8_addTerm_47 hm
  refine rx_if_eq (tgt := 41) C dX8_addTerm_30 (by decide) hm (fun h_6 hm => ?_) (fun h_6 hm => ?_)
  · refine rx_aload_n C 0 dX8_addTerm_41 rfl ?_
    refine gf_112 C m_v0 k_v0 dX8_addTerm_42 ?_
    refine rx_lv [] rfl ?_
    exact hj45 _ hm
  refine rx_aload_n C 0 dX8_addTerm_33 rfl ?_
  refine gf_112 C m_v0 k_v0 dX8_addTerm_34 ?_
  refine rx_lneg C dX8_addTerm_37 ?_
  refine rx_goto (tgt := 45) C dX8_addTerm_38 (by decide) ?_
  refine rx_lv [] rfl ?_
  exact hj45 _ hm
def f_Tap_isDigit (v0 : Int32) : Option (Int32) :=
    if v0 < 48 then (if rr_b1 0 then some (0) else none) else
    if 57 < v0 then (if rr_b1 0 then some (0) else none) else
    if rr_b1 1 then some (1) else none
theorem c_Tap_isDigit (l : Launch) (G : rr_G) (hG : G.2.2.1.Nodup) (v0 : Int32) (σ : rr_M) (r : Int32) (hm : f_Tap_isDigit v0 = some r) : rr_Met l G yX8_isDigit cX8_isDigit 1 (some .boolean) 0 0 [.int v0] σ σ (some (.int r)) := by
  refine rr_enter (lv0 := [(0, .int v0)]) hp_Tap_isDigit hG (Nat.le_of_ble_eq_true rfl) rfl (fun X hll C => ?_)
  replace C : rr_C X G cX8_isDigit 1 "RootRows$Tape" (some .boolean) 0 0 := C
  unfold f_Tap_isDigit at hm
  refine rx_iload_n C 0 dX8_isDigit_0 rfl ?_
  refine rx_bipush (v := 48) C dX8_isDigit_1 rfl ?_
  refine rx_icmp_lt (tgt := 16) C dX8_isDigit_3 (by decide) hm (fun h_1 hm => ?_) (fun h_1 hm => ?_)
  · refine rx_iconst (v := 0) C dX8_isDigit_16 rfl ?_
    exact rx_zretR C dX8_isDigit_17 hm
  refine rx_iload_n C 0 dX8_isDigit_6 rfl ?_
  refine rx_bipush (v := 57) C dX8_isDigit_7 rfl ?_
  refine rx_icmp_gt (tgt := 16) C dX8_isDigit_9 (by decide) hm (fun h_2 hm => ?_) (fun h_2 hm => ?_)
  · refine rx_iconst (v := 0) C dX8_isDigit_16 rfl ?_
    exact rx_zretR C dX8_isDigit_17 hm
  refine rx_iconst (v := 1) C dX8_isDigit_12 rfl ?_
  refine rx_goto (tgt := 17) C dX8_isDigit_13 (by decide) ?_
  exact rx_zretR C dX8_isDigit_17 hm
def f_Tap_isTermWhole (v0 : Nat) (σ : rr_M) : Option (Int32) :=
    rr_jn (fun (_ : Unit) =>
    if rr_b1 1 then some (1) else none) fun j24 =>
    if (mg_i σ v0 4) = 2 then (j24 ()) else
    if (mg_i σ v0 4) = 3 then (j24 ()) else
    if (mg_i σ v0 4) = 5 then (j24 ()) else
    if rr_b1 0 then some (0) else none
theorem c_Tap_isTermWhole (l : Launch) (G : rr_G) (hG : G.2.2.1.Nodup) (v0 : Nat) (m_v0 : v0 ∈ G.2.2.1) (k_v0 : G.2.2.2.1 v0 = 6) (σ : rr_M) (r : Int32) (hm : f_Tap_isTermWhole v0 σ = some r) : rr_Met l G yX8_isTermWhole cX8_isTermWhole 1 (some .boolean) 0 0 [.ref v0] σ σ (some (.int r)) := by
  refine rr_enter (lv0 := [(0, .ref v0)]) hp_Tap_isTermWhole hG (Nat.le_of_ble_eq_true rfl) rfl (fun X hll C => ?_)
  replace C : rr_C X G cX8_isTermWhole 1 "RootRows$Tape" (some .boolean) 0 0 := C
  unfold f_Tap_isTermWhole at hm
  refine rx_aload_n C 0 dX8_isTermWhole_0 rfl ?_
  refine gf_110 C m_v0 k_v0 dX8_isTermWhole_1 ?_
  refine rx_iconst (v := 2) C dX8_isTermWhole_4 rfl ?_
  refine rr_jn1 hm (fun j24 ej24 hm => ?_)
  have hj24 : ∀ (uu : Unit), j24 uu = some r → rr_J X G 1 (rr_E X G σ (some (.int r))) σ 24 [] [] := by
    intro uu hm
    replace hm := ej24 _ hm
    refine rx_iconst (v := 1) C dX8_isTermWhole_24 rfl ?_
    refine rx_goto (tgt := 29) C dX8_isTermWhole_25 (by decide) ?_
    exact rx_zretR C dX8_isTermWhole_29 hm
  refine rx_icmp_eq (tgt := 24) C dX8_isTermWhole_5 (by decide) hm (fun h_1 hm => ?_) (fun h_1 hm => ?_)
  · refine rx_lv [] rfl ?_
    exact hj24 () hm
  refine rx_aload_n C 0 dX8_isTermWhole_8 rfl ?_
  refine gf_110 C m_v0 k_v0 dX8_isTermWhole_9 ?_
  refine rx_iconst (v := 3) C dX8_isTermWhole_12 rfl ?_
  refine rx_icmp_eq (tgt := 24) C dX8_isTermWhole_13 (by decide) hm (fun h_2 hm => ?_) (fun h_2 hm => ?_)
  · refine rx_lv [] rfl ?_
    exact hj24 () hm
  refine rx_aload_n C 0 dX8_isTermWhole_16 rfl ?_
  refine gf_110 C m_v0 k_v0 dX8_isTermWhole_17 ?_
  refine rx_iconst (v := 5) C dX8_isTermWhole_20 rfl ?_
  refine rx_icmp_ne (tgt := 28) C dX8_isTermWhole_21 (by decide) hm (fun h_3 hm => ?_) (fun h_3 hm => ?_)
  · refine rx_iconst (v := 0) C dX8_isTermWhole_28 rfl ?_
    exact rx_zretR C dX8_isTermWhole_29 hm
  refine rx_lv [] rfl ?_
  exact hj24 () hm
def l_Tap_numberEnd_4 (fu : Nat) (N : Nat → Nat) (v0 : Nat) (σ : rr_M) : Nat → Int32 → (Int32 → Option (Int32)) → Option (Int32)
  | 0, _, _ => none
  | n + 1, v2, kk =>
    if (mg_i σ v0 1) ≤ v2 then (kk v2) else
    if 200 ≤ v2 then (kk v2) else
    rr_lt (mg_r σ v0 0) fun p_4 =>
    (if rr_ix v2 (N p_4) then
    Option.bind (f_Tap_isDigit (mg_i σ p_4 (rr_n v2))) fun r_5 =>
    if r_5 = 0 then (kk v2) else
    rr_lt (v2 + 1) fun v2_8 =>
    l_Tap_numberEnd_4 fu N v0 σ n v2_8 kk else none)
theorem lw_Tap_numberEnd_4 {X : rr_X} {G : rr_G} {l : Launch} {fu : Nat} (hG : G.2.2.1.Nodup) (hll : X.2.1 = l) (C : rr_C X G cX8_numberEnd 3 "RootRows$Tape" (some .int) 1 20) {r : Int32}  (σ : rr_M) (v0 : Nat) (m_v0 : v0 ∈ G.2.2.1) (k_v0 : G.2.2.2.1 v0 = 6) : ∀ (n : Nat) (v2 : Int32) (K : Int32 → Option (Int32)), l_Tap_numberEnd_4 fu G.2.2.2.2 v0 σ n v2 K = some r → (∀ (w2 : Int32), K w2 = some r → rr_J X G 3 (rr_E X G σ (some (.int r))) σ 37 [(2, .int w2)] []) → rr_J X G 3 (rr_E X G σ (some (.int r))) σ 4 [(0, .ref v0), (2, .int v2)] [] := by
  intro n
  induction n with
  | zero =>
    intro v2 K hm
    cases hm
  | succ n ih =>
    intro v2 K hm hk
    unfold l_Tap_numberEnd_4 at hm
    refine rx_iload_n C 1 dX8_numberEnd_4 rfl ?_
    refine rx_aload_n C 0 dX8_numberEnd_5 rfl ?_
    refine gf_104 C m_v0 k_v0 dX8_numberEnd_6 ?_
    refine rx_icmp_ge (tgt := 37) C dX8_numberEnd_9 (by decide) hm (fun h_2 hm => ?_) (fun h_2 hm => ?_)
    · refine rx_lv [1] rfl ?_
      exact hk _ hm
    refine rx_iload_n C 1 dX8_numberEnd_12 rfl ?_
    refine rx_sipush (v := 200) C dX8_numberEnd_13 rfl ?_
    refine rx_icmp_ge (tgt := 37) C dX8_numberEnd_16 (by decide) hm (fun h_3 hm => ?_) (fun h_3 hm => ?_)
    · refine rx_lv [1] rfl ?_
      exact hk _ hm
    refine rx_aload_n C 0 dX8_numberEnd_19 rfl ?_
    refine gf_103 C m_v0 k_v0 dX8_numberEnd_20 hm (fun p_4 m_p_4 k_p_4 hm => ?_)
    refine rx_iload_n C 1 dX8_numberEnd_23 rfl ?_
    refine rx_iald C m_p_4 k_p_4 dX8_numberEnd_24 hm (fun hm => ?_)
    obtain ⟨r_5, hc_6, hm⟩ := rr_b0_some hm
    refine rr_callS (rest := []) (st1 := [.int r_5]) C hll (c_Tap_isDigit l G hG (mg_i σ p_4 (rr_n v2)) σ _ hc_6) q_388 q_389 q_3 q_390 hd_Tap_isDigit ⟨by decide, by decide⟩ rfl rfl (Nat.le_of_ble_eq_true rfl) rfl dX8_numberEnd_25 ?_
    refine rx_if_eq (tgt := 37) C dX8_numberEnd_28 (by decide) hm (fun h_7 hm => ?_) (fun h_7 hm => ?_)
    · refine rx_lv [1] rfl ?_
      exact hk _ hm
    refine rx_iinc (d := 1) (lv1 := fun v => [(2, .int v), (0, .ref v0)]) C 1 dX8_numberEnd_31 hm rfl rfl (by decide) (fun _ => rfl) (fun v2_8 hm => ?_)
    refine rx_goto (tgt := 4) C dX8_numberEnd_34 (by decide) ?_
    refine rx_lv [1, 0] rfl ?_
    exact ih _ _ hm hk
def f_Tap_numberEnd (fu : Nat) (N : Nat → Nat) (v0 : Nat) (v1 : Int32) (σ : rr_M) : Option (Int32) :=
    rr_lt (v1 + 1) fun v2_1 =>
    l_Tap_numberEnd_4 fu N v0 σ fu v2_1 (fun v2_9 =>
    some (v2_9))
theorem c_Tap_numberEnd (l : Launch) (G : rr_G) (hG : G.2.2.1.Nodup) (fu : Nat) (v0 : Nat) (m_v0 : v0 ∈ G.2.2.1) (k_v0 : G.2.2.2.1 v0 = 6) (v1 : Int32) (σ : rr_M) (r : Int32) (hm : f_Tap_numberEnd fu G.2.2.2.2 v0 v1 σ = some r) : rr_Met l G yX8_numberEnd cX8_numberEnd 3 (some .int) 1 20 [.ref v0, .int v1] σ σ (some (.int r)) := by
  refine rr_enter (lv0 := [(0, .ref v0), (1, .int v1)]) hp_Tap_numberEnd hG (Nat.le_of_ble_eq_true rfl) rfl (fun X hll C => ?_)
  replace C : rr_C X G cX8_numberEnd 3 "RootRows$Tape" (some .int) 1 20 := C
  unfold f_Tap_numberEnd at hm
  refine rx_iload_n C 1 dX8_numberEnd_0 rfl ?_
  refine rx_iconst (v := 1) C dX8_numberEnd_1 rfl ?_
  refine rx_iadd C dX8_numberEnd_2 ?_
  refine rx_nmi hm (fun v2_1 ev2_1 hm => ?_)
  refine rx_istore_n (lv1 := [(2, .int v2_1), (0, .ref v0), (1, .int v1)]) C dX8_numberEnd_3 (by decide) rfl ?_
  refine rx_lv [1, 0] rfl ?_
  refine lw_Tap_numberEnd_4 hG hll C σ v0 m_v0 k_v0 _ _ _ hm (fun v2_9 hm => ?_)
  refine rx_iload_n C 0 dX8_numberEnd_37 rfl ?_
  exact rx_iretR C dX8_numberEnd_38 hm
def f_Tap_startTerm (v0 : Nat) (v1 : Int32) (σ : rr_M) : Option (Unit × rr_M) :=
    (if rr_b1 v1 then rr_lt (ms_i σ v0 5 v1) fun σ_1 =>
    rr_lt (ms_l σ_1 v0 6 1) fun σ_2 =>
    rr_lt (ms_i σ_2 v0 7 0) fun σ_3 =>
    rr_lt (ms_i σ_3 v0 4 1) fun σ_4 =>
    some ((), σ_4) else none)
theorem c_Tap_startTerm (l : Launch) (G : rr_G) (hG : G.2.2.1.Nodup) (v0 : Nat) (m_v0 : v0 ∈ G.2.2.1) (k_v0 : G.2.2.2.1 v0 = 6) (v1 : Int32) (σ : rr_M) (σr : rr_M) (hm : f_Tap_startTerm v0 v1 σ = some ((), σr)) : rr_Met l G yX8_startTerm cX8_startTerm 2 none 0 0 [.ref v0, .int v1] σ σr none := by
  refine rr_enter (lv0 := [(0, .ref v0), (1, .int v1)]) hp_Tap_startTerm hG (Nat.le_of_ble_eq_true rfl) rfl (fun X hll C => ?_)
  replace C : rr_C X G cX8_startTerm 2 "RootRows$Tape" none 0 0 := C
  unfold f_Tap_startTerm at hm
  refine rx_aload_n C 0 dX8_startTerm_0 rfl ?_
  refine rx_iload_n C 1 dX8_startTerm_1 rfl ?_
  refine pf_111 C m_v0 k_v0 dX8_startTerm_2 hm (fun σ_1 hm => ?_)
  refine rx_aload_n C 0 dX8_startTerm_5 rfl ?_
  refine rx_lconst (v := 1) C dX8_startTerm_6 rfl ?_
  refine pf_112 C m_v0 k_v0 dX8_startTerm_7 hm (fun σ_2 hm => ?_)
  refine rx_aload_n C 0 dX8_startTerm_10 rfl ?_
  refine rx_iconst (v := 0) C dX8_startTerm_11 rfl ?_
  refine pf_113 C m_v0 k_v0 dX8_startTerm_12 hm (fun σ_3 hm => ?_)
  refine rx_aload_n C 0 dX8_startTerm_15 rfl ?_
  refine rx_iconst (v := 1) C dX8_startTerm_16 rfl ?_
  refine pf_110 C m_v0 k_v0 dX8_startTerm_17 hm (fun σ_4 hm => ?_)
  exact rx_vret C dX8_startTerm_20 hm
def f_Tap_takeByte (N : Nat → Nat) (v0 : Nat) (v1 : Int32) (σ : rr_M) : Option (Int32 × rr_M) :=
    rr_jn (fun (_ : Unit) =>
    rr_jn (fun (_ : Unit) =>
    rr_jn (fun (_ : Unit) =>
    rr_jn (fun (_ : Unit) =>
    Option.bind (f_Tap_isTermWhole v0 σ) fun r_1 =>
    if r_1 = 0 then (some (1, σ)) else
    rr_bd (f_Tap_addTerm N v0 σ) fun _ σ_4 =>
    rr_jn (fun (t_6 : Int32) =>
    rr_bd (f_Tap_startTerm v0 t_6 σ_4) fun _ σ_7 =>
    some (0, σ_7)) fun j102 =>
    if v1 = 45 then (j102 1) else
    j102 0) fun j79 =>
    if v1 = 43 then (j79 ()) else
    if v1 = 45 then (j79 ()) else
    some (1, σ)) fun j67 =>
    if v1 = 45 then (if (mg_i σ v0 4) = 0 then (rr_bd (f_Tap_startTerm v0 1 σ) fun _ σ_14 =>
    some (0, σ_14)) else
    j67 ()) else
    j67 ()) fun j47 =>
    if v1 = 94 then (if (mg_i σ v0 4) = 3 then (rr_lt (ms_i σ v0 4 4) fun σ_18 =>
    some (0, σ_18)) else
    j47 ()) else
    j47 ()) fun j26 =>
    if v1 = 120 then (if 2 < (mg_i σ v0 4) then (j26 ()) else
    rr_lt (ms_i σ v0 7 1) fun σ_21 =>
    rr_lt (ms_i σ_21 v0 4 3) fun σ_22 =>
    some (0, σ_22)) else
    j26 ()
theorem c_Tap_takeByte (l : Launch) (G : rr_G) (hG : G.2.2.1.Nodup) (v0 : Nat) (m_v0 : v0 ∈ G.2.2.1) (k_v0 : G.2.2.2.1 v0 = 6) (v1 : Int32) (σ : rr_M) (r : Int32) (σr : rr_M) (hm : f_Tap_takeByte G.2.2.2.2 v0 v1 σ = some (r, σr)) : rr_Met l G yX8_takeByte cX8_takeByte 2 (some .int) 1 21 [.ref v0, .int v1] σ σr (some (.int r)) := by
  refine rr_enter (lv0 := [(0, .ref v0), (1, .int v1)]) hp_Tap_takeByte hG (Nat.le_of_ble_eq_true rfl) rfl (fun X hll C => ?_)
  replace C : rr_C X G cX8_takeByte 2 "RootRows$Tape" (some .int) 1 21 := C
  unfold f_Tap_takeByte at hm
  refine rx_iload_n C 1 dX8_takeByte_0 rfl ?_
  refine rx_bipush (v := 120) C dX8_takeByte_1 rfl ?_
  refine rr_jn1 hm (fun j26 ej26 hm => ?_)
  have hj26 : ∀ (uu : Unit), j26 uu = some (r, σr) → rr_J X G 2 (rr_E X G σr (some (.int r))) σ 26 [(0, .ref v0), (1, .int v1)] [] := by
    intro uu hm
    replace hm := ej26 _ hm
    refine rx_iload_n C 1 dX8_takeByte_26 rfl ?_
    refine rx_bipush (v := 94) C dX8_takeByte_27 rfl ?_
    refine rr_jn1 hm (fun j47 ej47 hm => ?_)
    have hj47 : ∀ (uu : Unit), j47 uu = some (r, σr) → rr_J X G 2 (rr_E X G σr (some (.int r))) σ 47 [(0, .ref v0), (1, .int v1)] [] := by
      intro uu hm
      replace hm := ej47 _ hm
      refine rx_iload_n C 1 dX8_takeByte_47 rfl ?_
      refine rx_bipush (v := 45) C dX8_takeByte_48 rfl ?_
      refine rr_jn1 hm (fun j67 ej67 hm => ?_)
      have hj67 : ∀ (uu : Unit), j67 uu = some (r, σr) → rr_J X G 2 (rr_E X G σr (some (.int r))) σ 67 [(0, .ref v0), (1, .int v1)] [] := by
        intro uu hm
        replace hm := ej67 _ hm
        refine rx_iload_n C 1 dX8_takeByte_67 rfl ?_
        refine rx_bipush (v := 43) C dX8_takeByte_68 rfl ?_
        refine rr_jn1 hm (fun j79 ej79 hm => ?_)
        have hj79 : ∀ (uu : Unit), j79 uu = some (r, σr) → rr_J X G 2 (rr_E X G σr (some (.int r))) σ 79 [(0, .ref v0), (1, .int v1)] [] := by
          intro uu hm
          replace hm := ej79 _ hm
          refine rx_aload_n C 0 dX8_takeByte_79 rfl ?_
          obtain ⟨r_1, hc_2, hm⟩ := rr_b0_some hm
          refine rr_callV (rest := []) (st1 := [.int r_1]) C 6 hll (c_Tap_isTermWhole l G hG v0 m_v0 k_v0 σ _ hc_2) q_415 q_417 qs_8 q_3 q_418 hd_Tap_isTermWhole ⟨_, rfl, rfl⟩ (by decide) m_v0 k_v0 ⟨by decide, by decide⟩ rfl rfl (Nat.le_of_ble_eq_true rfl) rfl dX8_takeByte_80 ?_
          refine rx_if_eq (tgt := 107) C dX8_takeByte_83 (by decide) hm (fun h_3 hm => ?_) (fun h_3 hm => ?_)
          · refine rx_iconst (v := 1) C dX8_takeByte_107 rfl ?_
            exact rx_iret C dX8_takeByte_108 hm
          refine rx_aload_n C 0 dX8_takeByte_86 rfl ?_
          obtain ⟨_, σ_4, hc_5, hm⟩ := rr_bd_some hm
          refine rr_callV (rest := []) (st1 := []) C 6 hll (c_Tap_addTerm l G hG v0 m_v0 k_v0 σ _ hc_5) q_419 q_421 qs_9 q_3 q_422 hd_Tap_addTerm ⟨_, rfl, rfl⟩ (by decide) m_v0 k_v0 ⟨by decide, by decide⟩ rfl rfl (Nat.le_of_ble_eq_true rfl) rfl dX8_takeByte_87 ?_
          refine rx_aload_n C 0 dX8_takeByte_90 rfl ?_
          refine rx_iload_n C 1 dX8_takeByte_91 rfl ?_
          refine rx_bipush (v := 45) C dX8_takeByte_92 rfl ?_
          refine rr_jn1 hm (fun j102 ej102 hm => ?_)
          have hj102 : ∀ (t_6 : Int32), j102 t_6 = some (r, σr) → rr_J X G 2 (rr_E X G σr (some (.int r))) σ_4 102 [] [.int t_6, .ref v0] := by
            intro t_6 hm
            replace hm := ej102 _ hm
            obtain ⟨_, σ_7, hc_8, hm⟩ := rr_bd_some hm
            refine rr_callV (rest := []) (st1 := []) C 6 hll (c_Tap_startTerm l G hG v0 m_v0 k_v0 t_6 σ_4 _ hc_8) q_380 q_382 qs_2 q_3 q_383 hd_Tap_startTerm ⟨_, rfl, rfl⟩ (by decide) m_v0 k_v0 ⟨by decide, by decide⟩ rfl rfl (Nat.le_of_ble_eq_true rfl) rfl dX8_takeByte_102 ?_
            refine rx_iconst (v := 0) C dX8_takeByte_105 rfl ?_
            exact rx_iret C dX8_takeByte_106 hm
          refine rx_icmp_ne (tgt := 101) C dX8_takeByte_94 (by decide) hm (fun h_9 hm => ?_) (fun h_9 hm => ?_)
          · refine rx_iconst (v := 0) C dX8_takeByte_101 rfl ?_
            refine rx_lv [] rfl ?_
            exact hj102 _ hm
          refine rx_iconst (v := 1) C dX8_takeByte_97 rfl ?_
          refine rx_goto (tgt := 102) C dX8_takeByte_98 (by decide) ?_
          refine rx_lv [] rfl ?_
          exact hj102 _ hm
        refine rx_icmp_eq (tgt := 79) C dX8_takeByte_70 (by decide) hm (fun h_10 hm => ?_) (fun h_10 hm => ?_)
        · refine rx_lv [0, 1] rfl ?_
          exact hj79 () hm
        refine rx_iload_n C 1 dX8_takeByte_73 rfl ?_
        refine rx_bipush (v := 45) C dX8_takeByte_74 rfl ?_
        refine rx_icmp_ne (tgt := 107) C dX8_takeByte_76 (by decide) hm (fun h_11 hm => ?_) (fun h_11 hm => ?_)
        · refine rx_iconst (v := 1) C dX8_takeByte_107 rfl ?_
          exact rx_iret C dX8_takeByte_108 hm
        refine rx_lv [0, 1] rfl ?_
        exact hj79 () hm
      refine rx_icmp_ne (tgt := 67) C dX8_takeByte_50 (by decide) hm (fun h_12 hm => ?_) (fun h_12 hm => ?_)
      · refine rx_lv [0, 1] rfl ?_
        exact hj67 () hm
      refine rx_aload_n C 0 dX8_takeByte_53 rfl ?_
      refine gf_110 C m_v0 k_v0 dX8_takeByte_54 ?_
      refine rx_if_ne (tgt := 67) C dX8_takeByte_57 (by decide) hm (fun h_13 hm => ?_) (fun h_13 hm => ?_)
      · refine rx_lv [0, 1] rfl ?_
        exact hj67 () hm
      refine rx_aload_n C 0 dX8_takeByte_60 rfl ?_
      refine rx_iconst (v := 1) C dX8_takeByte_61 rfl ?_
      obtain ⟨_, σ_14, hc_15, hm⟩ := rr_bd_some hm
      refine rr_callV (rest := []) (st1 := []) C 6 hll (c_Tap_startTerm l G hG v0 m_v0 k_v0 1 σ _ hc_15) q_380 q_382 qs_2 q_3 q_383 hd_Tap_startTerm ⟨_, rfl, rfl⟩ (by decide) m_v0 k_v0 ⟨by decide, by decide⟩ rfl rfl (Nat.le_of_ble_eq_true rfl) rfl dX8_takeByte_62 ?_
      refine rx_iconst (v := 0) C dX8_takeByte_65 rfl ?_
      exact rx_iret C dX8_takeByte_66 hm
    refine rx_icmp_ne (tgt := 47) C dX8_takeByte_29 (by decide) hm (fun h_16 hm => ?_) (fun h_16 hm => ?_)
    · refine rx_lv [0, 1] rfl ?_
      exact hj47 () hm
    refine rx_aload_n C 0 dX8_takeByte_32 rfl ?_
    refine gf_110 C m_v0 k_v0 dX8_takeByte_33 ?_
    refine rx_iconst (v := 3) C dX8_takeByte_36 rfl ?_
    refine rx_icmp_ne (tgt := 47) C dX8_takeByte_37 (by decide) hm (fun h_17 hm => ?_) (fun h_17 hm => ?_)
    · refine rx_lv [0, 1] rfl ?_
      exact hj47 () hm
    refine rx_aload_n C 0 dX8_takeByte_40 rfl ?_
    refine rx_iconst (v := 4) C dX8_takeByte_41 rfl ?_
    refine pf_110 C m_v0 k_v0 dX8_takeByte_42 hm (fun σ_18 hm => ?_)
    refine rx_iconst (v := 0) C dX8_takeByte_45 rfl ?_
    exact rx_iret C dX8_takeByte_46 hm
  refine rx_icmp_ne (tgt := 26) C dX8_takeByte_3 (by decide) hm (fun h_19 hm => ?_) (fun h_19 hm => ?_)
  · refine rx_lv [0, 1] rfl ?_
    exact hj26 () hm
  refine rx_aload_n C 0 dX8_takeByte_6 rfl ?_
  refine gf_110 C m_v0 k_v0 dX8_takeByte_7 ?_
  refine rx_iconst (v := 2) C dX8_takeByte_10 rfl ?_
  refine rx_icmp_gt (tgt := 26) C dX8_takeByte_11 (by decide) hm (fun h_20 hm => ?_) (fun h_20 hm => ?_)
  · refine rx_lv [0, 1] rfl ?_
    exact hj26 () hm
  refine rx_aload_n C 0 dX8_takeByte_14 rfl ?_
  refine rx_iconst (v := 1) C dX8_takeByte_15 rfl ?_
  refine pf_113 C m_v0 k_v0 dX8_takeByte_16 hm (fun σ_21 hm => ?_)
  refine rx_aload_n C 0 dX8_takeByte_19 rfl ?_
  refine rx_iconst (v := 3) C dX8_takeByte_20 rfl ?_
  refine pf_110 C m_v0 k_v0 dX8_takeByte_21 hm (fun σ_22 hm => ?_)
  refine rx_iconst (v := 0) C dX8_takeByte_24 rfl ?_
  exact rx_iret C dX8_takeByte_25 hm
def f_Tap_takeNumber (v0 : Nat) (v1 : Int64) (σ : rr_M) : Option (Int32 × rr_M) :=
    rr_jn (fun (_ : Unit) =>
    rr_lt (ms_l σ v0 6 v1) fun σ_1 =>
    rr_lt (ms_i σ_1 v0 4 2) fun σ_2 =>
    if v1 ≤ 100000000 then (some (0, σ_2)) else
    some (2, σ_2)) fun j15 =>
    if (mg_i σ v0 4) = 0 then (j15 ()) else
    if (mg_i σ v0 4) = 1 then (j15 ()) else
    if (mg_i σ v0 4) = 4 then (rr_lt (ms_i σ v0 7 ((rr_mnl v1 8).toInt32)) fun σ_7 =>
    rr_lt (ms_i σ_7 v0 4 5) fun σ_8 =>
    if v1 ≤ 8 then (some (0, σ_8)) else
    some (2, σ_8)) else
    some (1, σ)
theorem c_Tap_takeNumber (l : Launch) (G : rr_G) (hG : G.2.2.1.Nodup) (v0 : Nat) (m_v0 : v0 ∈ G.2.2.1) (k_v0 : G.2.2.2.1 v0 = 6) (v1 : Int64) (σ : rr_M) (r : Int32) (σr : rr_M) (hm : f_Tap_takeNumber v0 v1 σ = some (r, σr)) : rr_Met l G yX8_takeNumber cX8_takeNumber 3 (some .int) 1 23 [.ref v0, .long v1] σ σr (some (.int r)) := by
  refine rr_enter (lv0 := [(0, .ref v0), (1, .long v1)]) hp_Tap_takeNumber hG (Nat.le_of_ble_eq_true rfl) rfl (fun X hll C => ?_)
  replace C : rr_C X G cX8_takeNumber 3 "RootRows$Tape" (some .int) 1 23 := C
  unfold f_Tap_takeNumber at hm
  refine rx_aload_n C 0 dX8_takeNumber_0 rfl ?_
  refine gf_110 C m_v0 k_v0 dX8_takeNumber_1 ?_
  refine rr_jn1 hm (fun j15 ej15 hm => ?_)
  have hj15 : ∀ (uu : Unit), j15 uu = some (r, σr) → rr_J X G 3 (rr_E X G σr (some (.int r))) σ 15 [(0, .ref v0), (1, .long v1)] [] := by
    intro uu hm
    replace hm := ej15 _ hm
    refine rx_aload_n C 0 dX8_takeNumber_15 rfl ?_
    refine rx_lload_n C 1 dX8_takeNumber_16 rfl ?_
    refine pf_112 C m_v0 k_v0 dX8_takeNumber_17 hm (fun σ_1 hm => ?_)
    refine rx_aload_n C 0 dX8_takeNumber_20 rfl ?_
    refine rx_iconst (v := 2) C dX8_takeNumber_21 rfl ?_
    refine pf_110 C m_v0 k_v0 dX8_takeNumber_22 hm (fun σ_2 hm => ?_)
    refine rx_lload_n C 1 dX8_takeNumber_25 rfl ?_
    refine rx_ldc2 C q_409 dX8_takeNumber_26 ?_
    refine rx_lcmp_le (tgt := 37) C dX8_takeNumber_29 dX8_takeNumber_30 (by decide) hm (fun h_3 hm => ?_) (fun h_3 hm => ?_)
    · refine rx_iconst (v := 0) C dX8_takeNumber_37 rfl ?_
      exact rx_iret C dX8_takeNumber_38 hm
    refine rx_iconst (v := 2) C dX8_takeNumber_33 rfl ?_
    refine rx_goto (tgt := 38) C dX8_takeNumber_34 (by decide) ?_
    exact rx_iret C dX8_takeNumber_38 hm
  refine rx_if_eq (tgt := 15) C dX8_takeNumber_4 (by decide) hm (fun h_4 hm => ?_) (fun h_4 hm => ?_)
  · refine rx_lv [0, 1] rfl ?_
    exact hj15 () hm
  refine rx_aload_n C 0 dX8_takeNumber_7 rfl ?_
  refine gf_110 C m_v0 k_v0 dX8_takeNumber_8 ?_
  refine rx_iconst (v := 1) C dX8_takeNumber_11 rfl ?_
  refine rx_icmp_ne (tgt := 39) C dX8_takeNumber_12 (by decide) hm (fun h_5 hm => ?_) (fun h_5 hm => ?_)
  · refine rx_aload_n C 0 dX8_takeNumber_39 rfl ?_
    refine gf_110 C m_v0 k_v0 dX8_takeNumber_40 ?_
    refine rx_iconst (v := 4) C dX8_takeNumber_43 rfl ?_
    refine rx_icmp_ne (tgt := 78) C dX8_takeNumber_44 (by decide) hm (fun h_6 hm => ?_) (fun h_6 hm => ?_)
    · refine rx_iconst (v := 1) C dX8_takeNumber_78 rfl ?_
      exact rx_iret C dX8_takeNumber_79 hm
    refine rx_aload_n C 0 dX8_takeNumber_47 rfl ?_
    refine rx_lload_n C 1 dX8_takeNumber_48 rfl ?_
    refine rx_ldc2 C q_410 dX8_takeNumber_49 ?_
    refine rx_mminl (rest := [.ref v0]) C q_402 (by decide) (by decide) (Nat.le_of_ble_eq_true rfl) dX8_takeNumber_52 ?_
    refine rx_l2i C dX8_takeNumber_55 ?_
    refine pf_113 C m_v0 k_v0 dX8_takeNumber_56 hm (fun σ_7 hm => ?_)
    refine rx_aload_n C 0 dX8_takeNumber_59 rfl ?_
    refine rx_iconst (v := 5) C dX8_takeNumber_60 rfl ?_
    refine pf_110 C m_v0 k_v0 dX8_takeNumber_61 hm (fun σ_8 hm => ?_)
    refine rx_lload_n C 1 dX8_takeNumber_64 rfl ?_
    refine rx_ldc2 C q_410 dX8_takeNumber_65 ?_
    refine rx_lcmp_le (tgt := 76) C dX8_takeNumber_68 dX8_takeNumber_69 (by decide) hm (fun h_9 hm => ?_) (fun h_9 hm => ?_)
    · refine rx_iconst (v := 0) C dX8_takeNumber_76 rfl ?_
      exact rx_iret C dX8_takeNumber_77 hm
    refine rx_iconst (v := 2) C dX8_takeNumber_72 rfl ?_
    refine rx_goto (tgt := 77) C dX8_takeNumber_73 (by decide) ?_
    exact rx_iret C dX8_takeNumber_77 hm
  refine rx_lv [0, 1] rfl ?_
  exact hj15 () hm
def l_Tap_valueOf_5 (fu : Nat) (N : Nat → Nat) (v0 : Nat) (v2 : Int32) (σ : rr_M) : Nat → Int64 → Int32 → (Int64 → Option (Int64)) → Option (Int64)
  | 0, _, _, _ => none
  | n + 1, v3, v5, kk =>
    if v2 ≤ v5 then (kk v3) else
    if 200 ≤ v5 then (kk v3) else
    rr_lt (mg_r σ v0 0) fun p_3 =>
    (if rr_ix v5 (N p_3) then
    rr_lt (rr_mnl (((v3 * 10) + ((mg_i σ p_3 (rr_n v5)).toInt64)) - 48) 100000001) fun v3_4 =>
    rr_lt (v5 + 1) fun v5_5 =>
    l_Tap_valueOf_5 fu N v0 v2 σ n v3_4 v5_5 kk else none)
theorem lw_Tap_valueOf_5 {X : rr_X} {G : rr_G} {l : Launch} {fu : Nat} (hG : G.2.2.1.Nodup) (hll : X.2.1 = l) (C : rr_C X G cX8_valueOf 6 "RootRows$Tape" (some .long) 1 23) {r : Int64}  (σ : rr_M) (v0 : Nat) (m_v0 : v0 ∈ G.2.2.1) (k_v0 : G.2.2.2.1 v0 = 6) (v2 : Int32) : ∀ (n : Nat) (v3 : Int64) (v5 : Int32) (K : Int64 → Option (Int64)), l_Tap_valueOf_5 fu G.2.2.2.2 v0 v2 σ n v3 v5 K = some r → (∀ (w3 : Int64), K w3 = some r → rr_J X G 6 (rr_E X G σ (some (.long r))) σ 50 [(3, .long w3)] []) → rr_J X G 6 (rr_E X G σ (some (.long r))) σ 5 [(0, .ref v0), (2, .int v2), (3, .long v3), (5, .int v5)] [] := by
  intro n
  induction n with
  | zero =>
    intro v3 v5 K hm
    cases hm
  | succ n ih =>
    intro v3 v5 K hm hk
    unfold l_Tap_valueOf_5 at hm
    refine rx_iload C 3 dX8_valueOf_5 rfl ?_
    refine rx_iload_n C 1 dX8_valueOf_7 rfl ?_
    refine rx_icmp_ge (tgt := 50) C dX8_valueOf_8 (by decide) hm (fun h_1 hm => ?_) (fun h_1 hm => ?_)
    · refine rx_lv [2] rfl ?_
      exact hk _ hm
    refine rx_iload C 3 dX8_valueOf_11 rfl ?_
    refine rx_sipush (v := 200) C dX8_valueOf_13 rfl ?_
    refine rx_icmp_ge (tgt := 50) C dX8_valueOf_16 (by decide) hm (fun h_2 hm => ?_) (fun h_2 hm => ?_)
    · refine rx_lv [2] rfl ?_
      exact hk _ hm
    refine rx_lload_n C 2 dX8_valueOf_19 rfl ?_
    refine rx_ldc2 C q_399 dX8_valueOf_20 ?_
    refine rx_lmul C dX8_valueOf_23 ?_
    refine rx_aload_n C 0 dX8_valueOf_24 rfl ?_
    refine gf_103 C m_v0 k_v0 dX8_valueOf_25 hm (fun p_3 m_p_3 k_p_3 hm => ?_)
    refine rx_iload C 3 dX8_valueOf_28 rfl ?_
    refine rx_iald C m_p_3 k_p_3 dX8_valueOf_30 hm (fun hm => ?_)
    refine rx_i2l C dX8_valueOf_31 ?_
    refine rx_ladd C dX8_valueOf_32 ?_
    refine rx_ldc2 C q_400 dX8_valueOf_33 ?_
    refine rx_lsub C dX8_valueOf_36 ?_
    refine rx_ldc2 C q_401 dX8_valueOf_37 ?_
    refine rx_mminl (rest := []) C q_402 (by decide) (by decide) (Nat.le_of_ble_eq_true rfl) dX8_valueOf_40 ?_
    refine rx_nml hm (fun v3_4 ev3_4 hm => ?_)
    refine rx_lstore_n (lv1 := [(3, .long v3_4), (0, .ref v0), (2, .int v2), (5, .int v5)]) C dX8_valueOf_43 (by decide) rfl ?_
    refine rx_iinc (d := 1) (lv1 := fun v => [(5, .int v), (3, .long v3_4), (0, .ref v0), (2, .int v2)]) C 3 dX8_valueOf_44 hm rfl rfl (by decide) (fun _ => rfl) (fun v5_5 hm => ?_)
    refine rx_goto (tgt := 5) C dX8_valueOf_47 (by decide) ?_
    refine rx_lv [2, 3, 1, 0] rfl ?_
    exact ih _ _ _ hm hk
def f_Tap_valueOf (fu : Nat) (N : Nat → Nat) (v0 : Nat) (v1 : Int32) (v2 : Int32) (σ : rr_M) : Option (Int64) :=
    l_Tap_valueOf_5 fu N v0 v2 σ fu 0 v1 (fun v3_6 =>
    some (v3_6))
theorem c_Tap_valueOf (l : Launch) (G : rr_G) (hG : G.2.2.1.Nodup) (fu : Nat) (v0 : Nat) (m_v0 : v0 ∈ G.2.2.1) (k_v0 : G.2.2.2.1 v0 = 6) (v1 : Int32) (v2 : Int32) (σ : rr_M) (r : Int64) (hm : f_Tap_valueOf fu G.2.2.2.2 v0 v1 v2 σ = some r) : rr_Met l G yX8_valueOf cX8_valueOf 6 (some .long) 1 23 [.ref v0, .int v1, .int v2] σ σ (some (.long r)) := by
  refine rr_enter (lv0 := [(0, .ref v0), (1, .int v1), (2, .int v2)]) hp_Tap_valueOf hG (Nat.le_of_ble_eq_true rfl) rfl (fun X hll C => ?_)
  replace C : rr_C X G cX8_valueOf 6 "RootRows$Tape" (some .long) 1 23 := C
  unfold f_Tap_valueOf at hm
  refine rx_lconst (v := 0) C dX8_valueOf_0 rfl ?_
  refine rx_lstore_n (lv1 := [(3, .long 0), (0, .ref v0), (1, .int v1), (2, .int v2)]) C dX8_valueOf_1 (by decide) rfl ?_
  refine rx_iload_n C 2 dX8_valueOf_2 rfl ?_
  refine rx_istore (lv1 := [(5, .int v1), (3, .long 0), (0, .ref v0), (1, .int v1), (2, .int v2)]) C dX8_valueOf_3 (by decide) rfl ?_
  refine rx_lv [2, 4, 1, 0] rfl ?_
  refine lw_Tap_valueOf_5 hG hll C σ v0 m_v0 k_v0 v2 _ _ _ _ hm (fun v3_6 hm => ?_)
  refine rx_lload_n C 0 dX8_valueOf_50 rfl ?_
  exact rx_lretR C dX8_valueOf_51 hm
def l_Tap_parseTokens_4 (fu : Nat) (N : Nat → Nat) (v0 : Nat) : Nat → Int32 → Int32 → rr_M → (rr_M → Option (Int32 × rr_M)) → Option (Int32 × rr_M)
  | 0, _, _, _, _ => none
  | n + 1, v1, v2, σ, kk =>
    if 200 ≤ v2 then (kk σ) else
    if (mg_i σ v0 1) ≤ v1 then (kk σ) else
    if 200 ≤ v1 then (kk σ) else
    rr_lt (mg_r σ v0 0) fun p_4 =>
    (if rr_ix v1 (N p_4) then
    rr_lt (mg_i σ p_4 (rr_n v1)) fun v3_5 =>
    Option.bind (f_Tap_isDigit v3_5) fun r_6 =>
    rr_jn (fun (t_8 : Int32) =>
    Option.bind (f_Tap_isDigit v3_5) fun r_9 =>
    rr_jn (fun (v5_11 : Int32) (σ_12 : rr_M) =>
    if v5_11 = 0 then (rr_lt (v2 + 1) fun v2_14 =>
    l_Tap_parseTokens_4 fu N v0 n t_8 v2_14 σ_12 kk) else
    some (v5_11 + (8 * v1), σ_12)) fun j98 =>
    if r_9 = 0 then (if v3_5 = 32 then (j98 0 σ) else
    if v3_5 = 10 then (j98 0 σ) else
    rr_bd (f_Tap_takeByte N v0 v3_5 σ) fun r_18 σ_19 =>
    j98 r_18 σ_19) else
    Option.bind (f_Tap_valueOf fu N v0 v1 t_8 σ) fun r_21 =>
    rr_bd (f_Tap_takeNumber v0 r_21 σ) fun r_23 σ_24 =>
    j98 r_23 σ_24) fun j51 =>
    if r_6 = 0 then (j51 (v1 + 1)) else
    Option.bind (f_Tap_numberEnd fu N v0 v1 σ) fun r_27 =>
    j51 r_27 else none)
theorem lw_Tap_parseTokens_4 {X : rr_X} {G : rr_G} {l : Launch} {fu : Nat} (hG : G.2.2.1.Nodup) (hll : X.2.1 = l) (C : rr_C X G cX8_parseTokens 6 "RootRows$Tape" (some .int) 2 48) {r : Int32} {σr : rr_M} (v0 : Nat) (m_v0 : v0 ∈ G.2.2.1) (k_v0 : G.2.2.2.1 v0 = 6) : ∀ (n : Nat) (v1 : Int32) (v2 : Int32) (σ : rr_M) (K : rr_M → Option (Int32 × rr_M)), l_Tap_parseTokens_4 fu G.2.2.2.2 v0 n v1 v2 σ K = some (r, σr) → (∀ (σ1 : rr_M), K σ1 = some (r, σr) → rr_J X G 6 (rr_E X G σr (some (.int r))) σ1 120 [(0, .ref v0)] []) → rr_J X G 6 (rr_E X G σr (some (.int r))) σ 4 [(0, .ref v0), (1, .int v1), (2, .int v2)] [] := by
  intro n
  induction n with
  | zero =>
    intro v1 v2 σ K hm
    cases hm
  | succ n ih =>
    intro v1 v2 σ K hm hk
    unfold l_Tap_parseTokens_4 at hm
    refine rx_iload_n C 2 dX8_parseTokens_4 rfl ?_
    refine rx_sipush (v := 200) C dX8_parseTokens_5 rfl ?_
    refine rx_icmp_ge (tgt := 120) C dX8_parseTokens_8 (by decide) hm (fun h_1 hm => ?_) (fun h_1 hm => ?_)
    · refine rx_lv [0] rfl ?_
      exact hk _ hm
    refine rx_iload_n C 1 dX8_parseTokens_11 rfl ?_
    refine rx_aload_n C 0 dX8_parseTokens_12 rfl ?_
    refine gf_104 C m_v0 k_v0 dX8_parseTokens_13 ?_
    refine rx_icmp_ge (tgt := 120) C dX8_parseTokens_16 (by decide) hm (fun h_2 hm => ?_) (fun h_2 hm => ?_)
    · refine rx_lv [0] rfl ?_
      exact hk _ hm
    refine rx_iload_n C 1 dX8_parseTokens_19 rfl ?_
    refine rx_sipush (v := 200) C dX8_parseTokens_20 rfl ?_
    refine rx_icmp_ge (tgt := 120) C dX8_parseTokens_23 (by decide) hm (fun h_3 hm => ?_) (fun h_3 hm => ?_)
    · refine rx_lv [0] rfl ?_
      exact hk _ hm
    refine rx_aload_n C 0 dX8_parseTokens_26 rfl ?_
    refine gf_103 C m_v0 k_v0 dX8_parseTokens_27 hm (fun p_4 m_p_4 k_p_4 hm => ?_)
    refine rx_iload_n C 1 dX8_parseTokens_30 rfl ?_
    refine rx_iald C m_p_4 k_p_4 dX8_parseTokens_31 hm (fun hm => ?_)
    refine rx_nmi hm (fun v3_5 ev3_5 hm => ?_)
    refine rx_istore_n (lv1 := [(3, .int v3_5), (0, .ref v0), (1, .int v1), (2, .int v2)]) C dX8_parseTokens_32 (by decide) rfl ?_
    refine rx_iload_n C 0 dX8_parseTokens_33 rfl ?_
    obtain ⟨r_6, hc_7, hm⟩ := rr_b0_some hm
    refine rr_callS (rest := []) (st1 := [.int r_6]) C hll (c_Tap_isDigit l G hG v3_5 σ _ hc_7) q_388 q_389 q_3 q_390 hd_Tap_isDigit ⟨by decide, by decide⟩ rfl rfl (Nat.le_of_ble_eq_true rfl) rfl dX8_parseTokens_34 ?_
    refine rr_jn1 hm (fun j51 ej51 hm => ?_)
    have hj51 : ∀ (t_8 : Int32), j51 t_8 = some (r, σr) → rr_J X G 6 (rr_E X G σr (some (.int r))) σ 51 [(0, .ref v0), (1, .int v1), (2, .int v2), (3, .int v3_5)] [.int t_8] := by
      intro t_8 hm
      replace hm := ej51 _ hm
      refine rx_istore (lv1 := [(4, .int t_8), (0, .ref v0), (1, .int v1), (2, .int v2), (3, .int v3_5)]) C dX8_parseTokens_51 (by decide) rfl ?_
      refine rx_iconst (v := 0) C dX8_parseTokens_53 rfl ?_
      refine rx_istore (lv1 := [(5, .int 0), (4, .int t_8), (0, .ref v0), (1, .int v1), (2, .int v2), (3, .int v3_5)]) C dX8_parseTokens_54 (by decide) rfl ?_
      refine rx_iload_n C 5 dX8_parseTokens_56 rfl ?_
      obtain ⟨r_9, hc_10, hm⟩ := rr_b0_some hm
      refine rr_callS (rest := []) (st1 := [.int r_9]) C hll (c_Tap_isDigit l G hG v3_5 σ _ hc_10) q_388 q_389 q_3 q_390 hd_Tap_isDigit ⟨by decide, by decide⟩ rfl rfl (Nat.le_of_ble_eq_true rfl) rfl dX8_parseTokens_57 ?_
      refine rr_jn2 hm (fun j98 ej98 hm => ?_)
      have hj98 : ∀ (v5_11 : Int32) (σ_12 : rr_M), j98 v5_11 σ_12 = some (r, σr) → rr_J X G 6 (rr_E X G σr (some (.int r))) σ_12 98 [(0, .ref v0), (1, .int v1), (2, .int v2), (4, .int t_8), (5, .int v5_11)] [] := by
        intro v5_11 σ_12 hm
        replace hm := ej98 _ _ hm
        refine rx_iload C 4 dX8_parseTokens_98 rfl ?_
        refine rx_if_eq (tgt := 111) C dX8_parseTokens_100 (by decide) hm (fun h_13 hm => ?_) (fun h_13 hm => ?_)
        · refine rx_iload C 3 dX8_parseTokens_111 rfl ?_
          refine rx_istore_n (lv1 := [(1, .int t_8), (0, .ref v0), (2, .int v2), (4, .int t_8), (5, .int v5_11)]) C dX8_parseTokens_113 (by decide) rfl ?_
          refine rx_iinc (d := 1) (lv1 := fun v => [(2, .int v), (1, .int t_8), (0, .ref v0), (4, .int t_8), (5, .int v5_11)]) C 2 dX8_parseTokens_114 hm rfl rfl (by decide) (fun _ => rfl) (fun v2_14 hm => ?_)
          refine rx_goto (tgt := 4) C dX8_parseTokens_117 (by decide) ?_
          refine rx_lv [2, 1, 0] rfl ?_
          exact ih _ _ _ _ hm hk
        refine rx_iload C 4 dX8_parseTokens_103 rfl ?_
        refine rx_bipush (v := 8) C dX8_parseTokens_105 rfl ?_
        refine rx_iload_n C 1 dX8_parseTokens_107 rfl ?_
        refine rx_imul C dX8_parseTokens_108 ?_
        refine rx_iadd C dX8_parseTokens_109 ?_
        exact rx_iret C dX8_parseTokens_110 hm
      refine rx_if_eq (tgt := 79) C dX8_parseTokens_60 (by decide) hm (fun h_15 hm => ?_) (fun h_15 hm => ?_)
      · refine rx_iload_n C 5 dX8_parseTokens_79 rfl ?_
        refine rx_bipush (v := 32) C dX8_parseTokens_80 rfl ?_
        refine rx_icmp_eq (tgt := 98) C dX8_parseTokens_82 (by decide) hm (fun h_16 hm => ?_) (fun h_16 hm => ?_)
        · refine rx_lv [2, 3, 4, 1, 0] rfl ?_
          exact hj98 _ _ hm
        refine rx_iload_n C 5 dX8_parseTokens_85 rfl ?_
        refine rx_bipush (v := 10) C dX8_parseTokens_86 rfl ?_
        refine rx_icmp_eq (tgt := 98) C dX8_parseTokens_88 (by decide) hm (fun h_17 hm => ?_) (fun h_17 hm => ?_)
        · refine rx_lv [2, 3, 4, 1, 0] rfl ?_
          exact hj98 _ _ hm
        refine rx_aload_n C 2 dX8_parseTokens_91 rfl ?_
        refine rx_iload_n C 5 dX8_parseTokens_92 rfl ?_
        obtain ⟨r_18, σ_19, hc_20, hm⟩ := rr_bd_some hm
        refine rr_callV (rest := []) (st1 := [.int r_18]) C 6 hll (c_Tap_takeByte l G hG v0 m_v0 k_v0 v3_5 σ _ _ hc_20) q_411 q_413 qs_7 q_3 q_414 hd_Tap_takeByte ⟨_, rfl, rfl⟩ (by decide) m_v0 k_v0 ⟨by decide, by decide⟩ rfl rfl (Nat.le_of_ble_eq_true rfl) rfl dX8_parseTokens_93 ?_
        refine rx_istore (lv1 := [(5, .int r_18), (4, .int t_8), (0, .ref v0), (1, .int v1), (2, .int v2), (3, .int v3_5)]) C dX8_parseTokens_96 (by decide) rfl ?_
        refine rx_lv [2, 3, 4, 1, 0] rfl ?_
        exact hj98 _ _ hm
      refine rx_aload_n C 2 dX8_parseTokens_63 rfl ?_
      refine rx_aload_n C 2 dX8_parseTokens_64 rfl ?_
      refine rx_iload_n C 3 dX8_parseTokens_65 rfl ?_
      refine rx_iload C 1 dX8_parseTokens_66 rfl ?_
      obtain ⟨r_21, hc_22, hm⟩ := rr_b0_some hm
      refine rr_callV (rest := [.ref v0]) (st1 := [.long r_21, .ref v0]) C 6 hll (c_Tap_valueOf l G hG fu v0 m_v0 k_v0 v1 t_8 σ _ hc_22) q_395 q_397 qs_5 q_3 q_398 hd_Tap_valueOf ⟨_, rfl, rfl⟩ (by decide) m_v0 k_v0 ⟨by decide, by decide⟩ rfl rfl (Nat.le_of_ble_eq_true rfl) rfl dX8_parseTokens_68 ?_
      obtain ⟨r_23, σ_24, hc_25, hm⟩ := rr_bd_some hm
      refine rr_callV (rest := []) (st1 := [.int r_23]) C 6 hll (c_Tap_takeNumber l G hG v0 m_v0 k_v0 r_21 σ _ _ hc_25) q_405 q_407 qs_6 q_3 q_408 hd_Tap_takeNumber ⟨_, rfl, rfl⟩ (by decide) m_v0 k_v0 ⟨by decide, by decide⟩ rfl rfl (Nat.le_of_ble_eq_true rfl) rfl dX8_parseTokens_71 ?_
      refine rx_istore (lv1 := [(5, .int r_23), (4, .int t_8), (0, .ref v0), (1, .int v1), (2, .int v2), (3, .int v3_5)]) C dX8_parseTokens_74 (by decide) rfl ?_
      refine rx_goto (tgt := 98) C dX8_parseTokens_76 (by decide) ?_
      refine rx_lv [2, 3, 4, 1, 0] rfl ?_
      exact hj98 _ _ hm
    refine rx_if_eq (tgt := 48) C dX8_parseTokens_37 (by decide) hm (fun h_26 hm => ?_) (fun h_26 hm => ?_)
    · refine rx_iload_n C 2 dX8_parseTokens_48 rfl ?_
      refine rx_iconst (v := 1) C dX8_parseTokens_49 rfl ?_
      refine rx_iadd C dX8_parseTokens_50 ?_
      refine rx_lv [1, 2, 3, 0] rfl ?_
      exact hj51 _ hm
    refine rx_aload_n C 1 dX8_parseTokens_40 rfl ?_
    refine rx_iload_n C 2 dX8_parseTokens_41 rfl ?_
    obtain ⟨r_27, hc_28, hm⟩ := rr_b0_some hm
    refine rr_callV (rest := []) (st1 := [.int r_27]) C 6 hll (c_Tap_numberEnd l G hG fu v0 m_v0 k_v0 v1 σ _ hc_28) q_391 q_393 qs_4 q_3 q_394 hd_Tap_numberEnd ⟨_, rfl, rfl⟩ (by decide) m_v0 k_v0 ⟨by decide, by decide⟩ rfl rfl (Nat.le_of_ble_eq_true rfl) rfl dX8_parseTokens_42 ?_
    refine rx_goto (tgt := 51) C dX8_parseTokens_45 (by decide) ?_
    refine rx_lv [1, 2, 3, 0] rfl ?_
    exact hj51 _ hm
def f_Tap_parseTokens (fu : Nat) (N : Nat → Nat) (v0 : Nat) (σ : rr_M) : Option (Int32 × rr_M) :=
    l_Tap_parseTokens_4 fu N v0 fu 0 0 σ (fun σ_29 =>
    Option.bind (f_Tap_isTermWhole v0 σ_29) fun r_30 =>
    if r_30 = 0 then (some (1 + (8 * (mg_i σ_29 v0 1)), σ_29)) else
    rr_bd (f_Tap_addTerm N v0 σ_29) fun _ σ_33 =>
    some (0, σ_33))
theorem c_Tap_parseTokens (l : Launch) (G : rr_G) (hG : G.2.2.1.Nodup) (fu : Nat) (v0 : Nat) (m_v0 : v0 ∈ G.2.2.1) (k_v0 : G.2.2.2.1 v0 = 6) (σ : rr_M) (r : Int32) (σr : rr_M) (hm : f_Tap_parseTokens fu G.2.2.2.2 v0 σ = some (r, σr)) : rr_Met l G yX8_parseTokens cX8_parseTokens 6 (some .int) 2 48 [.ref v0] σ σr (some (.int r)) := by
  refine rr_enter (lv0 := [(0, .ref v0)]) hp_Tap_parseTokens hG (Nat.le_of_ble_eq_true rfl) rfl (fun X hll C => ?_)
  replace C : rr_C X G cX8_parseTokens 6 "RootRows$Tape" (some .int) 2 48 := C
  unfold f_Tap_parseTokens at hm
  refine rx_iconst (v := 0) C dX8_parseTokens_0 rfl ?_
  refine rx_istore_n (lv1 := [(1, .int 0), (0, .ref v0)]) C dX8_parseTokens_1 (by decide) rfl ?_
  refine rx_iconst (v := 0) C dX8_parseTokens_2 rfl ?_
  refine rx_istore_n (lv1 := [(2, .int 0), (1, .int 0), (0, .ref v0)]) C dX8_parseTokens_3 (by decide) rfl ?_
  refine rx_lv [2, 1, 0] rfl ?_
  refine lw_Tap_parseTokens_4 hG hll C v0 m_v0 k_v0 _ _ _ _ _ hm (fun σ_29 hm => ?_)
  refine rx_aload_n C 0 dX8_parseTokens_120 rfl ?_
  obtain ⟨r_30, hc_31, hm⟩ := rr_b0_some hm
  refine rr_callV (rest := []) (st1 := [.int r_30]) C 6 hll (c_Tap_isTermWhole l G hG v0 m_v0 k_v0 σ_29 _ hc_31) q_415 q_417 qs_8 q_3 q_418 hd_Tap_isTermWhole ⟨_, rfl, rfl⟩ (by decide) m_v0 k_v0 ⟨by decide, by decide⟩ rfl rfl (Nat.le_of_ble_eq_true rfl) rfl dX8_parseTokens_121 ?_
  refine rx_if_ne (tgt := 137) C dX8_parseTokens_124 (by decide) hm (fun h_32 hm => ?_) (fun h_32 hm => ?_)
  · refine rx_aload_n C 0 dX8_parseTokens_137 rfl ?_
    obtain ⟨_, σ_33, hc_34, hm⟩ := rr_bd_some hm
    refine rr_callV (rest := []) (st1 := []) C 6 hll (c_Tap_addTerm l G hG v0 m_v0 k_v0 σ_29 _ hc_34) q_419 q_421 qs_9 q_3 q_422 hd_Tap_addTerm ⟨_, rfl, rfl⟩ (by decide) m_v0 k_v0 ⟨by decide, by decide⟩ rfl rfl (Nat.le_of_ble_eq_true rfl) rfl dX8_parseTokens_138 ?_
    refine rx_iconst (v := 0) C dX8_parseTokens_141 rfl ?_
    exact rx_iret C dX8_parseTokens_142 hm
  refine rx_iconst (v := 1) C dX8_parseTokens_127 rfl ?_
  refine rx_bipush (v := 8) C dX8_parseTokens_128 rfl ?_
  refine rx_aload_n C 0 dX8_parseTokens_130 rfl ?_
  refine gf_104 C m_v0 k_v0 dX8_parseTokens_131 ?_
  refine rx_imul C dX8_parseTokens_134 ?_
  refine rx_iadd C dX8_parseTokens_135 ?_
  exact rx_iret C dX8_parseTokens_136 hm
def l_Tap_startText_2 (fu : Nat) (N : Nat → Nat) (v0 : Nat) : Nat → Int32 → rr_M → (rr_M → Option (Unit × rr_M)) → Option (Unit × rr_M)
  | 0, _, _, _ => none
  | n + 1, v1, σ, kk =>
    if 9 ≤ v1 then (kk σ) else
    rr_lt (mg_r σ v0 3) fun p_2 =>
    (if rr_ix v1 (N p_2) then rr_lt (ms_l σ p_2 (rr_n v1) 0) fun σ_3 =>
    rr_lt (v1 + 1) fun v1_4 =>
    l_Tap_startText_2 fu N v0 n v1_4 σ_3 kk else none)
theorem lw_Tap_startText_2 {X : rr_X} {G : rr_G} {l : Launch} {fu : Nat} (hG : G.2.2.1.Nodup) (hll : X.2.1 = l) (C : rr_C X G cX8_startText 2 "RootRows$Tape" none 1 21) {σr : rr_M} (v0 : Nat) (m_v0 : v0 ∈ G.2.2.1) (k_v0 : G.2.2.2.1 v0 = 6) : ∀ (n : Nat) (v1 : Int32) (σ : rr_M) (K : rr_M → Option (Unit × rr_M)), l_Tap_startText_2 fu G.2.2.2.2 v0 n v1 σ K = some ((), σr) → (∀ (σ1 : rr_M), K σ1 = some ((), σr) → rr_J X G 2 (rr_E X G σr none) σ1 21 [(0, .ref v0)] []) → rr_J X G 2 (rr_E X G σr none) σ 2 [(0, .ref v0), (1, .int v1)] [] := by
  intro n
  induction n with
  | zero =>
    intro v1 σ K hm
    cases hm
  | succ n ih =>
    intro v1 σ K hm hk
    unfold l_Tap_startText_2 at hm
    refine rx_iload_n C 1 dX8_startText_2 rfl ?_
    refine rx_bipush (v := 9) C dX8_startText_3 rfl ?_
    refine rx_icmp_ge (tgt := 21) C dX8_startText_5 (by decide) hm (fun h_1 hm => ?_) (fun h_1 hm => ?_)
    · refine rx_lv [0] rfl ?_
      exact hk _ hm
    refine rx_aload_n C 0 dX8_startText_8 rfl ?_
    refine gf_108 C m_v0 k_v0 dX8_startText_9 hm (fun p_2 m_p_2 k_p_2 hm => ?_)
    refine rx_iload_n C 1 dX8_startText_12 rfl ?_
    refine rx_lconst (v := 0) C dX8_startText_13 rfl ?_
    refine rx_last C m_p_2 k_p_2 dX8_startText_14 hm (fun σ_3 hm => ?_)
    refine rx_iinc (d := 1) (lv1 := fun v => [(1, .int v), (0, .ref v0)]) C 1 dX8_startText_15 hm rfl rfl (by decide) (fun _ => rfl) (fun v1_4 hm => ?_)
    refine rx_goto (tgt := 2) C dX8_startText_18 (by decide) ?_
    refine rx_lv [1, 0] rfl ?_
    exact ih _ _ _ hm hk
def f_Tap_startText (fu : Nat) (N : Nat → Nat) (v0 : Nat) (σ : rr_M) : Option (Unit × rr_M) :=
    l_Tap_startText_2 fu N v0 fu 0 σ (fun σ_5 =>
    rr_bd (f_Tap_startTerm v0 0 σ_5) fun _ σ_6 =>
    rr_lt (ms_i σ_6 v0 4 0) fun σ_8 =>
    some ((), σ_8))
theorem c_Tap_startText (l : Launch) (G : rr_G) (hG : G.2.2.1.Nodup) (fu : Nat) (v0 : Nat) (m_v0 : v0 ∈ G.2.2.1) (k_v0 : G.2.2.2.1 v0 = 6) (σ : rr_M) (σr : rr_M) (hm : f_Tap_startText fu G.2.2.2.2 v0 σ = some ((), σr)) : rr_Met l G yX8_startText cX8_startText 2 none 1 21 [.ref v0] σ σr none := by
  refine rr_enter (lv0 := [(0, .ref v0)]) hp_Tap_startText hG (Nat.le_of_ble_eq_true rfl) rfl (fun X hll C => ?_)
  replace C : rr_C X G cX8_startText 2 "RootRows$Tape" none 1 21 := C
  unfold f_Tap_startText at hm
  refine rx_iconst (v := 0) C dX8_startText_0 rfl ?_
  refine rx_istore_n (lv1 := [(1, .int 0), (0, .ref v0)]) C dX8_startText_1 (by decide) rfl ?_
  refine rx_lv [1, 0] rfl ?_
  refine lw_Tap_startText_2 hG hll C v0 m_v0 k_v0 _ _ _ _ hm (fun σ_5 hm => ?_)
  refine rx_aload_n C 0 dX8_startText_21 rfl ?_
  refine rx_iconst (v := 0) C dX8_startText_22 rfl ?_
  obtain ⟨_, σ_6, hc_7, hm⟩ := rr_bd_some hm
  refine rr_callV (rest := []) (st1 := []) C 6 hll (c_Tap_startTerm l G hG v0 m_v0 k_v0 0 σ_5 _ hc_7) q_380 q_382 qs_2 q_3 q_383 hd_Tap_startTerm ⟨_, rfl, rfl⟩ (by decide) m_v0 k_v0 ⟨by decide, by decide⟩ rfl rfl (Nat.le_of_ble_eq_true rfl) rfl dX8_startText_23 ?_
  refine rx_aload_n C 0 dX8_startText_26 rfl ?_
  refine rx_iconst (v := 0) C dX8_startText_27 rfl ?_
  refine pf_110 C m_v0 k_v0 dX8_startText_28 hm (fun σ_8 hm => ?_)
  exact rx_vret C dX8_startText_31 hm
def f_Tap_parse (fu : Nat) (N : Nat → Nat) (v0 : Nat) (σ : rr_M) : Option (Unit × rr_M) :=
    rr_bd (f_Tap_startText fu N v0 σ) fun _ σ_1 =>
    rr_bd (f_Tap_parseTokens fu N v0 σ_1) fun r_3 σ_4 =>
    rr_lt (ms_i σ_4 v0 2 r_3) fun σ_6 =>
    if (mg_i σ_6 v0 2) = 0 then (rr_lt (mg_r σ_6 v0 3) fun p_8 =>
    Option.bind (f_Num_fits fu N p_8 σ_6) fun r_9 =>
    if r_9 = 0 then (rr_lt (ms_i σ_6 v0 2 (3 + (8 * (mg_i σ_6 v0 1)))) fun σ_12 =>
    some ((), σ_12)) else
    some ((), σ_6)) else
    some ((), σ_6)
theorem c_Tap_parse (l : Launch) (G : rr_G) (hG : G.2.2.1.Nodup) (fu : Nat) (v0 : Nat) (m_v0 : v0 ∈ G.2.2.1) (k_v0 : G.2.2.2.1 v0 = 6) (σ : rr_M) (σr : rr_M) (hm : f_Tap_parse fu G.2.2.2.2 v0 σ = some ((), σr)) : rr_Met l G yX8_parse cX8_parse 1 none 3 73 [.ref v0] σ σr none := by
  refine rr_enter (lv0 := [(0, .ref v0)]) hp_Tap_parse hG (Nat.le_of_ble_eq_true rfl) rfl (fun X hll C => ?_)
  replace C : rr_C X G cX8_parse 1 "RootRows$Tape" none 3 73 := C
  unfold f_Tap_parse at hm
  refine rx_aload_n C 0 dX8_parse_0 rfl ?_
  obtain ⟨_, σ_1, hc_2, hm⟩ := rr_bd_some hm
  refine rr_callV (rest := []) (st1 := []) C 6 hll (c_Tap_startText l G hG fu v0 m_v0 k_v0 σ _ hc_2) q_376 q_378 qs_1 q_3 q_379 hd_Tap_startText ⟨_, rfl, rfl⟩ (by decide) m_v0 k_v0 ⟨by decide, by decide⟩ rfl rfl (Nat.le_of_ble_eq_true rfl) rfl dX8_parse_1 ?_
  refine rx_aload_n C 0 dX8_parse_4 rfl ?_
  refine rx_aload_n C 0 dX8_parse_5 rfl ?_
  obtain ⟨r_3, σ_4, hc_5, hm⟩ := rr_bd_some hm
  refine rr_callV (rest := [.ref v0]) (st1 := [.int r_3, .ref v0]) C 6 hll (c_Tap_parseTokens l G hG fu v0 m_v0 k_v0 σ_1 _ _ hc_5) q_384 q_386 qs_3 q_3 q_387 hd_Tap_parseTokens ⟨_, rfl, rfl⟩ (by decide) m_v0 k_v0 ⟨by decide, by decide⟩ rfl rfl (Nat.le_of_ble_eq_true rfl) rfl dX8_parse_6 ?_
  refine pf_106 C m_v0 k_v0 dX8_parse_9 hm (fun σ_6 hm => ?_)
  refine rx_aload_n C 0 dX8_parse_12 rfl ?_
  refine gf_106 C m_v0 k_v0 dX8_parse_13 ?_
  refine rx_if_ne (tgt := 42) C dX8_parse_16 (by decide) hm (fun h_7 hm => ?_) (fun h_7 hm => ?_)
  · exact rx_vret C dX8_parse_42 hm
  refine rx_aload_n C 0 dX8_parse_19 rfl ?_
  refine gf_108 C m_v0 k_v0 dX8_parse_20 hm (fun p_8 m_p_8 k_p_8 hm => ?_)
  obtain ⟨r_9, hc_10, hm⟩ := rr_b0_some hm
  refine rr_callS (rest := []) (st1 := [.int r_9]) C hll (c_Num_fits l G hG fu p_8 m_p_8 k_p_8 σ_6 _ hc_10) q_423 q_424 q_12 q_425 hd_Num_fits ⟨by decide, by decide⟩ rfl rfl (Nat.le_of_ble_eq_true rfl) rfl dX8_parse_23 ?_
  refine rx_if_ne (tgt := 42) C dX8_parse_26 (by decide) hm (fun h_11 hm => ?_) (fun h_11 hm => ?_)
  · exact rx_vret C dX8_parse_42 hm
  refine rx_aload_n C 0 dX8_parse_29 rfl ?_
  refine rx_iconst (v := 3) C dX8_parse_30 rfl ?_
  refine rx_bipush (v := 8) C dX8_parse_31 rfl ?_
  refine rx_aload_n C 0 dX8_parse_33 rfl ?_
  refine gf_104 C m_v0 k_v0 dX8_parse_34 ?_
  refine rx_imul C dX8_parse_37 ?_
  refine rx_iadd C dX8_parse_38 ?_
  refine pf_106 C m_v0 k_v0 dX8_parse_39 hm (fun σ_12 hm => ?_)
  exact rx_vret C dX8_parse_42 hm
def f_Tra_floorOf (N : Nat → Nat) (v0 : Nat) (v1 : Int32) (σ : rr_M) : Option (Int64) :=
    if v1 < 0 then (some ((-1000000000000000000))) else
    if v1 < 8 then (rr_lt (mg_r σ v0 11) fun p_3 =>
    (if rr_ix v1 (N p_3) then
    if (mg_i σ p_3 (rr_n v1)) = 0 then (rr_lt (mg_r σ v0 10) fun p_5 =>
    (if rr_ix v1 (N p_5) then
    some ((mg_l σ p_5 (rr_n v1)) - 1) else none)) else
    rr_lt (mg_r σ v0 10) fun p_6 =>
    (if rr_ix v1 (N p_6) then
    some (mg_l σ p_6 (rr_n v1)) else none) else none)) else
    some ((-1000000000000000000))
theorem c_Tra_floorOf (l : Launch) (G : rr_G) (hG : G.2.2.1.Nodup) (v0 : Nat) (m_v0 : v0 ∈ G.2.2.1) (k_v0 : G.2.2.2.1 v0 = 7) (v1 : Int32) (σ : rr_M) (r : Int64) (hm : f_Tra_floorOf G.2.2.2.2 v0 v1 σ = some r) : rr_Met l G yX9_floorOf cX9_floorOf 2 (some .long) 0 0 [.ref v0, .int v1] σ σ (some (.long r)) := by
  refine rr_enter (lv0 := [(0, .ref v0), (1, .int v1)]) hp_Tra_floorOf hG (Nat.le_of_ble_eq_true rfl) rfl (fun X hll C => ?_)
  replace C : rr_C X G cX9_floorOf 2 "RootRows$Tray" (some .long) 0 0 := C
  unfold f_Tra_floorOf at hm
  refine rx_iload_n C 1 dX9_floorOf_0 rfl ?_
  refine rx_if_lt (tgt := 10) C dX9_floorOf_1 (by decide) hm (fun h_1 hm => ?_) (fun h_1 hm => ?_)
  · refine rx_ldc2 C q_762 dX9_floorOf_10 ?_
    exact rx_lretR C dX9_floorOf_13 hm
  refine rx_iload_n C 1 dX9_floorOf_4 rfl ?_
  refine rx_bipush (v := 8) C dX9_floorOf_5 rfl ?_
  refine rx_icmp_lt (tgt := 14) C dX9_floorOf_7 (by decide) hm (fun h_2 hm => ?_) (fun h_2 hm => ?_)
  · refine rx_aload_n C 0 dX9_floorOf_14 rfl ?_
    refine gf_62 C m_v0 k_v0 dX9_floorOf_15 hm (fun p_3 m_p_3 k_p_3 hm => ?_)
    refine rx_iload_n C 1 dX9_floorOf_18 rfl ?_
    refine rx_zald C m_p_3 k_p_3 dX9_floorOf_19 hm (fun hm => ?_)
    refine rx_if_eq (tgt := 32) C dX9_floorOf_20 (by decide) hm (fun h_4 hm => ?_) (fun h_4 hm => ?_)
    · refine rx_aload_n C 0 dX9_floorOf_32 rfl ?_
      refine gf_60 C m_v0 k_v0 dX9_floorOf_33 hm (fun p_5 m_p_5 k_p_5 hm => ?_)
      refine rx_iload_n C 1 dX9_floorOf_36 rfl ?_
      refine rx_lald C m_p_5 k_p_5 dX9_floorOf_37 hm (fun hm => ?_)
      refine rx_lconst (v := 1) C dX9_floorOf_38 rfl ?_
      refine rx_lsub C dX9_floorOf_39 ?_
      exact rx_lretR C dX9_floorOf_40 hm
    refine rx_aload_n C 0 dX9_floorOf_23 rfl ?_
    refine gf_60 C m_v0 k_v0 dX9_floorOf_24 hm (fun p_6 m_p_6 k_p_6 hm => ?_)
    refine rx_iload_n C 1 dX9_floorOf_27 rfl ?_
    refine rx_lald C m_p_6 k_p_6 dX9_floorOf_28 hm (fun hm => ?_)
    refine rx_goto (tgt := 40) C dX9_floorOf_29 (by decide) ?_
    exact rx_lretR C dX9_floorOf_40 hm
  refine rx_ldc2 C q_762 dX9_floorOf_10 ?_
  exact rx_lretR C dX9_floorOf_13 hm
def l_Row_firstAgainstNewton_2 (fu : Nat) (N : Nat → Nat) (v0 : Nat) (v1 : Int32) (σ : rr_M) : Nat → Int32 → (Option (Int32)) → Option (Int32)
  | 0, _, _ => none
  | n + 1, v2, kk =>
    if v1 ≤ v2 then (kk) else
    if (nI (N v0)) ≤ (v2 + 1) then (kk) else
    (if rr_ix v2 (N v0) then
    (if rr_ix v2 (N v0) then
    rr_lt ((((mg_l σ v0 (rr_n v2)) * (mg_l σ v0 (rr_n v2))) * v2.toInt64) * ((v1 - v2).toInt64)) fun v3_3 =>
    (if rr_ix (v2 - 1) (N v0) then
    (if rr_ix (v2 + 1) (N v0) then
    if ((((mg_l σ v0 (rr_n (v2 - 1))) * (mg_l σ v0 (rr_n (v2 + 1)))) * ((v2 + 1).toInt64)) * (((v1 - v2) + 1).toInt64)) ≤ v3_3 then (rr_lt (v2 + 1) fun v2_5 =>
    l_Row_firstAgainstNewton_2 fu N v0 v1 σ n v2_5 kk) else
    some (v2) else none) else none) else none) else none)
theorem lw_Row_firstAgainstNewton_2 {X : rr_X} {G : rr_G} {l : Launch} {fu : Nat} (hG : G.2.2.1.Nodup) (hll : X.2.1 = l) (C : rr_C X G cX6_firstAgainstNewton 5 "RootRows$Rows" (some .int) 0 0) {r : Int32}  (σ : rr_M) (v0 : Nat) (m_v0 : v0 ∈ G.2.2.1) (k_v0 : G.2.2.2.1 v0 = 12) (v1 : Int32) : ∀ (n : Nat) (v2 : Int32) (K : Option (Int32)), l_Row_firstAgainstNewton_2 fu G.2.2.2.2 v0 v1 σ n v2 K = some r → (∀ (_ : Unit), K = some r → rr_J X G 5 (rr_E X G σ (some (.int r))) σ 67 [] []) → rr_J X G 5 (rr_E X G σ (some (.int r))) σ 2 [(0, .ref v0), (1, .int v1), (2, .int v2)] [] := by
  intro n
  induction n with
  | zero =>
    intro v2 K hm
    cases hm
  | succ n ih =>
    intro v2 K hm hk
    unfold l_Row_firstAgainstNewton_2 at hm
    refine rx_iload_n C 2 dX6_firstAgainstNewton_2 rfl ?_
    refine rx_iload_n C 1 dX6_firstAgainstNewton_3 rfl ?_
    refine rx_icmp_ge (tgt := 67) C dX6_firstAgainstNewton_4 (by decide) hm (fun h_1 hm => ?_) (fun h_1 hm => ?_)
    · refine rx_lv [] rfl ?_
      exact hk () hm
    refine rx_iload_n C 2 dX6_firstAgainstNewton_7 rfl ?_
    refine rx_iconst (v := 1) C dX6_firstAgainstNewton_8 rfl ?_
    refine rx_iadd C dX6_firstAgainstNewton_9 ?_
    refine rx_aload_n C 0 dX6_firstAgainstNewton_10 rfl ?_
    refine rx_alen C m_v0 k_v0 (by decide) dX6_firstAgainstNewton_11 ?_
    refine rx_icmp_ge (tgt := 67) C dX6_firstAgainstNewton_12 (by decide) hm (fun h_2 hm => ?_) (fun h_2 hm => ?_)
    · refine rx_lv [] rfl ?_
      exact hk () hm
    refine rx_aload_n C 0 dX6_firstAgainstNewton_15 rfl ?_
    refine rx_iload_n C 2 dX6_firstAgainstNewton_16 rfl ?_
    refine rx_lald C m_v0 k_v0 dX6_firstAgainstNewton_17 hm (fun hm => ?_)
    refine rx_aload_n C 0 dX6_firstAgainstNewton_18 rfl ?_
    refine rx_iload_n C 2 dX6_firstAgainstNewton_19 rfl ?_
    refine rx_lald C m_v0 k_v0 dX6_firstAgainstNewton_20 hm (fun hm => ?_)
    refine rx_lmul C dX6_firstAgainstNewton_21 ?_
    refine rx_iload_n C 2 dX6_firstAgainstNewton_22 rfl ?_
    refine rx_i2l C dX6_firstAgainstNewton_23 ?_
    refine rx_lmul C dX6_firstAgainstNewton_24 ?_
    refine rx_iload_n C 1 dX6_firstAgainstNewton_25 rfl ?_
    refine rx_iload_n C 2 dX6_firstAgainstNewton_26 rfl ?_
    refine rx_isub C dX6_firstAgainstNewton_27 ?_
    refine rx_i2l C dX6_firstAgainstNewton_28 ?_
    refine rx_lmul C dX6_firstAgainstNewton_29 ?_
    refine rx_nml hm (fun v3_3 ev3_3 hm => ?_)
    refine rx_lstore_n (lv1 := [(3, .long v3_3), (0, .ref v0), (1, .int v1), (2, .int v2)]) C dX6_firstAgainstNewton_30 (by decide) rfl ?_
    refine rx_lload_n C 0 dX6_firstAgainstNewton_31 rfl ?_
    refine rx_aload_n C 1 dX6_firstAgainstNewton_32 rfl ?_
    refine rx_iload_n C 3 dX6_firstAgainstNewton_33 rfl ?_
    refine rx_iconst (v := 1) C dX6_firstAgainstNewton_34 rfl ?_
    refine rx_isub C dX6_firstAgainstNewton_35 ?_
    refine rx_lald C m_v0 k_v0 dX6_firstAgainstNewton_36 hm (fun hm => ?_)
    refine rx_aload_n C 1 dX6_firstAgainstNewton_37 rfl ?_
    refine rx_iload_n C 3 dX6_firstAgainstNewton_38 rfl ?_
    refine rx_iconst (v := 1) C dX6_firstAgainstNewton_39 rfl ?_
    refine rx_iadd C dX6_firstAgainstNewton_40 ?_
    refine rx_lald C m_v0 k_v0 dX6_firstAgainstNewton_41 hm (fun hm => ?_)
    refine rx_lmul C dX6_firstAgainstNewton_42 ?_
    refine rx_iload_n C 3 dX6_firstAgainstNewton_43 rfl ?_
    refine rx_iconst (v := 1) C dX6_firstAgainstNewton_44 rfl ?_
    refine rx_iadd C dX6_firstAgainstNewton_45 ?_
    refine rx_i2l C dX6_firstAgainstNewton_46 ?_
    refine rx_lmul C dX6_firstAgainstNewton_47 ?_
    refine rx_iload_n C 2 dX6_firstAgainstNewton_48 rfl ?_
    refine rx_iload_n C 3 dX6_firstAgainstNewton_49 rfl ?_
    refine rx_isub C dX6_firstAgainstNewton_50 ?_
    refine rx_iconst (v := 1) C dX6_firstAgainstNewton_51 rfl ?_
    refine rx_iadd C dX6_firstAgainstNewton_52 ?_
    refine rx_i2l C dX6_firstAgainstNewton_53 ?_
    refine rx_lmul C dX6_firstAgainstNewton_54 ?_
    refine rx_lcmp_ge (tgt := 61) C dX6_firstAgainstNewton_55 dX6_firstAgainstNewton_56 (by decide) hm (fun h_4 hm => ?_) (fun h_4 hm => ?_)
    · refine rx_iinc (d := 1) (lv1 := fun v => [(2, .int v), (3, .long v3_3), (0, .ref v0), (1, .int v1)]) C 3 dX6_firstAgainstNewton_61 hm rfl rfl (by decide) (fun _ => rfl) (fun v2_5 hm => ?_)
      refine rx_goto (tgt := 2) C dX6_firstAgainstNewton_64 (by decide) ?_
      refine rx_lv [2, 3, 0] rfl ?_
      exact ih _ _ hm hk
    refine rx_iload_n C 3 dX6_firstAgainstNewton_59 rfl ?_
    exact rx_iretR C dX6_firstAgainstNewton_60 hm
def f_Row_firstAgainstNewton (fu : Nat) (N : Nat → Nat) (v0 : Nat) (v1 : Int32) (σ : rr_M) : Option (Int32) :=
    l_Row_firstAgainstNewton_2 fu N v0 v1 σ fu 1 (some (0))
theorem c_Row_firstAgainstNewton (l : Launch) (G : rr_G) (hG : G.2.2.1.Nodup) (fu : Nat) (v0 : Nat) (m_v0 : v0 ∈ G.2.2.1) (k_v0 : G.2.2.2.1 v0 = 12) (v1 : Int32) (σ : rr_M) (r : Int32) (hm : f_Row_firstAgainstNewton fu G.2.2.2.2 v0 v1 σ = some r) : rr_Met l G yX6_firstAgainstNewton cX6_firstAgainstNewton 5 (some .int) 0 0 [.ref v0, .int v1] σ σ (some (.int r)) := by
  refine rr_enter (lv0 := [(0, .ref v0), (1, .int v1)]) hp_Row_firstAgainstNewton hG (Nat.le_of_ble_eq_true rfl) rfl (fun X hll C => ?_)
  replace C : rr_C X G cX6_firstAgainstNewton 5 "RootRows$Rows" (some .int) 0 0 := C
  unfold f_Row_firstAgainstNewton at hm
  refine rx_iconst (v := 1) C dX6_firstAgainstNewton_0 rfl ?_
  refine rx_istore_n (lv1 := [(2, .int 1), (0, .ref v0), (1, .int v1)]) C dX6_firstAgainstNewton_1 (by decide) rfl ?_
  refine rx_lv [1, 2, 0] rfl ?_
  refine lw_Row_firstAgainstNewton_2 hG hll C σ v0 m_v0 k_v0 v1 _ _ _ hm (fun _ hm => ?_)
  refine rx_iconst (v := 0) C dX6_firstAgainstNewton_67 rfl ?_
  exact rx_iretR C dX6_firstAgainstNewton_68 hm
def l_Row_firstNotConcave_2 (fu : Nat) (N : Nat → Nat) (v0 : Nat) (v1 : Int32) (σ : rr_M) : Nat → Int32 → (Option (Int32)) → Option (Int32)
  | 0, _, _ => none
  | n + 1, v2, kk =>
    if v1 ≤ v2 then (kk) else
    if (nI (N v0)) ≤ (v2 + 1) then (kk) else
    (if rr_ix v2 (N v0) then
    (if rr_ix v2 (N v0) then
    (if rr_ix (v2 - 1) (N v0) then
    (if rr_ix (v2 + 1) (N v0) then
    if ((mg_l σ v0 (rr_n (v2 - 1))) * (mg_l σ v0 (rr_n (v2 + 1)))) ≤ ((mg_l σ v0 (rr_n v2)) * (mg_l σ v0 (rr_n v2))) then (rr_lt (v2 + 1) fun v2_4 =>
    l_Row_firstNotConcave_2 fu N v0 v1 σ n v2_4 kk) else
    some (v2) else none) else none) else none) else none)
theorem lw_Row_firstNotConcave_2 {X : rr_X} {G : rr_G} {l : Launch} {fu : Nat} (hG : G.2.2.1.Nodup) (hll : X.2.1 = l) (C : rr_C X G cX6_firstNotConcave 3 "RootRows$Rows" (some .int) 0 0) {r : Int32}  (σ : rr_M) (v0 : Nat) (m_v0 : v0 ∈ G.2.2.1) (k_v0 : G.2.2.2.1 v0 = 12) (v1 : Int32) : ∀ (n : Nat) (v2 : Int32) (K : Option (Int32)), l_Row_firstNotConcave_2 fu G.2.2.2.2 v0 v1 σ n v2 K = some r → (∀ (_ : Unit), K = some r → rr_J X G 3 (rr_E X G σ (some (.int r))) σ 45 [] []) → rr_J X G 3 (rr_E X G σ (some (.int r))) σ 2 [(0, .ref v0), (1, .int v1), (2, .int v2)] [] := by
  intro n
  induction n with
  | zero =>
    intro v2 K hm
    cases hm
  | succ n ih =>
    intro v2 K hm hk
    unfold l_Row_firstNotConcave_2 at hm
    refine rx_iload_n C 2 dX6_firstNotConcave_2 rfl ?_
    refine rx_iload_n C 1 dX6_firstNotConcave_3 rfl ?_
    refine rx_icmp_ge (tgt := 45) C dX6_firstNotConcave_4 (by decide) hm (fun h_1 hm => ?_) (fun h_1 hm => ?_)
    · refine rx_lv [] rfl ?_
      exact hk () hm
    refine rx_iload_n C 2 dX6_firstNotConcave_7 rfl ?_
    refine rx_iconst (v := 1) C dX6_firstNotConcave_8 rfl ?_
    refine rx_iadd C dX6_firstNotConcave_9 ?_
    refine rx_aload_n C 0 dX6_firstNotConcave_10 rfl ?_
    refine rx_alen C m_v0 k_v0 (by decide) dX6_firstNotConcave_11 ?_
    refine rx_icmp_ge (tgt := 45) C dX6_firstNotConcave_12 (by decide) hm (fun h_2 hm => ?_) (fun h_2 hm => ?_)
    · refine rx_lv [] rfl ?_
      exact hk () hm
    refine rx_aload_n C 0 dX6_firstNotConcave_15 rfl ?_
    refine rx_iload_n C 2 dX6_firstNotConcave_16 rfl ?_
    refine rx_lald C m_v0 k_v0 dX6_firstNotConcave_17 hm (fun hm => ?_)
    refine rx_aload_n C 0 dX6_firstNotConcave_18 rfl ?_
    refine rx_iload_n C 2 dX6_firstNotConcave_19 rfl ?_
    refine rx_lald C m_v0 k_v0 dX6_firstNotConcave_20 hm (fun hm => ?_)
    refine rx_lmul C dX6_firstNotConcave_21 ?_
    refine rx_aload_n C 0 dX6_firstNotConcave_22 rfl ?_
    refine rx_iload_n C 2 dX6_firstNotConcave_23 rfl ?_
    refine rx_iconst (v := 1) C dX6_firstNotConcave_24 rfl ?_
    refine rx_isub C dX6_firstNotConcave_25 ?_
    refine rx_lald C m_v0 k_v0 dX6_firstNotConcave_26 hm (fun hm => ?_)
    refine rx_aload_n C 0 dX6_firstNotConcave_27 rfl ?_
    refine rx_iload_n C 2 dX6_firstNotConcave_28 rfl ?_
    refine rx_iconst (v := 1) C dX6_firstNotConcave_29 rfl ?_
    refine rx_iadd C dX6_firstNotConcave_30 ?_
    refine rx_lald C m_v0 k_v0 dX6_firstNotConcave_31 hm (fun hm => ?_)
    refine rx_lmul C dX6_firstNotConcave_32 ?_
    refine rx_lcmp_ge (tgt := 39) C dX6_firstNotConcave_33 dX6_firstNotConcave_34 (by decide) hm (fun h_3 hm => ?_) (fun h_3 hm => ?_)
    · refine rx_iinc (d := 1) (lv1 := fun v => [(2, .int v), (0, .ref v0), (1, .int v1)]) C 2 dX6_firstNotConcave_39 hm rfl rfl (by decide) (fun _ => rfl) (fun v2_4 hm => ?_)
      refine rx_goto (tgt := 2) C dX6_firstNotConcave_42 (by decide) ?_
      refine rx_lv [1, 2, 0] rfl ?_
      exact ih _ _ hm hk
    refine rx_iload_n C 2 dX6_firstNotConcave_37 rfl ?_
    exact rx_iretR C dX6_firstNotConcave_38 hm
def f_Row_firstNotConcave (fu : Nat) (N : Nat → Nat) (v0 : Nat) (v1 : Int32) (σ : rr_M) : Option (Int32) :=
    l_Row_firstNotConcave_2 fu N v0 v1 σ fu 1 (some (0))
theorem c_Row_firstNotConcave (l : Launch) (G : rr_G) (hG : G.2.2.1.Nodup) (fu : Nat) (v0 : Nat) (m_v0 : v0 ∈ G.2.2.1) (k_v0 : G.2.2.2.1 v0 = 12) (v1 : Int32) (σ : rr_M) (r : Int32) (hm : f_Row_firstNotConcave fu G.2.2.2.2 v0 v1 σ = some r) : rr_Met l G yX6_firstNotConcave cX6_firstNotConcave 3 (some .int) 0 0 [.ref v0, .int v1] σ σ (some (.int r)) := by
  refine rr_enter (lv0 := [(0, .ref v0), (1, .int v1)]) hp_Row_firstNotConcave hG (Nat.le_of_ble_eq_true rfl) rfl (fun X hll C => ?_)
  replace C : rr_C X G cX6_firstNotConcave 3 "RootRows$Rows" (some .int) 0 0 := C
  unfold f_Row_firstNotConcave at hm
  refine rx_iconst (v := 1) C dX6_firstNotConcave_0 rfl ?_
  refine rx_istore_n (lv1 := [(2, .int 1), (0, .ref v0), (1, .int v1)]) C dX6_firstNotConcave_1 (by decide) rfl ?_
  refine rx_lv [1, 2, 0] rfl ?_
  refine lw_Row_firstNotConcave_2 hG hll C σ v0 m_v0 k_v0 v1 _ _ _ hm (fun _ hm => ?_)
  refine rx_iconst (v := 0) C dX6_firstNotConcave_45 rfl ?_
  exact rx_iretR C dX6_firstNotConcave_46 hm
def l_Row_hasHump_4 (fu : Nat) (N : Nat → Nat) (v0 : Nat) (v1 : Int32) (σ : rr_M) : Nat → Int32 → Int32 → (Option (Int32)) → Option (Int32)
  | 0, _, _, _ => none
  | n + 1, v2, v3, kk =>
    if v1 < v3 then (kk) else
    if (nI (N v0)) ≤ v3 then (kk) else
    (if rr_ix v3 (N v0) then
    (if rr_ix (v3 - 1) (N v0) then
    rr_jn (fun (v2_3 : Int32) =>
    rr_lt (v3 + 1) fun v3_4 =>
    l_Row_hasHump_4 fu N v0 v1 σ n v2_3 v3_4 kk) fun j50 =>
    if (mg_l σ v0 (rr_n (v3 - 1))) ≤ (mg_l σ v0 (rr_n v3)) then (if v2 = 0 then (j50 v2) else
    (if rr_ix v3 (N v0) then
    (if rr_ix (v3 - 1) (N v0) then
    if (mg_l σ v0 (rr_n v3)) ≤ (mg_l σ v0 (rr_n (v3 - 1))) then (j50 v2) else
    if rr_b1 0 then some (0) else none else none) else none)) else
    j50 1 else none) else none)
theorem lw_Row_hasHump_4 {X : rr_X} {G : rr_G} {l : Launch} {fu : Nat} (hG : G.2.2.1.Nodup) (hll : X.2.1 = l) (C : rr_C X G cX6_hasHump 4 "RootRows$Rows" (some .boolean) 0 0) {r : Int32}  (σ : rr_M) (v0 : Nat) (m_v0 : v0 ∈ G.2.2.1) (k_v0 : G.2.2.2.1 v0 = 12) (v1 : Int32) : ∀ (n : Nat) (v2 : Int32) (v3 : Int32) (K : Option (Int32)), l_Row_hasHump_4 fu G.2.2.2.2 v0 v1 σ n v2 v3 K = some r → (∀ (_ : Unit), K = some r → rr_J X G 4 (rr_E X G σ (some (.int r))) σ 56 [] []) → rr_J X G 4 (rr_E X G σ (some (.int r))) σ 4 [(0, .ref v0), (1, .int v1), (2, .int v2), (3, .int v3)] [] := by
  intro n
  induction n with
  | zero =>
    intro v2 v3 K hm
    cases hm
  | succ n ih =>
    intro v2 v3 K hm hk
    unfold l_Row_hasHump_4 at hm
    refine rx_iload_n C 3 dX6_hasHump_4 rfl ?_
    refine rx_iload_n C 1 dX6_hasHump_5 rfl ?_
    refine rx_icmp_gt (tgt := 56) C dX6_hasHump_6 (by decide) hm (fun h_1 hm => ?_) (fun h_1 hm => ?_)
    · refine rx_lv [] rfl ?_
      exact hk () hm
    refine rx_iload_n C 3 dX6_hasHump_9 rfl ?_
    refine rx_aload_n C 0 dX6_hasHump_10 rfl ?_
    refine rx_alen C m_v0 k_v0 (by decide) dX6_hasHump_11 ?_
    refine rx_icmp_ge (tgt := 56) C dX6_hasHump_12 (by decide) hm (fun h_2 hm => ?_) (fun h_2 hm => ?_)
    · refine rx_lv [] rfl ?_
      exact hk () hm
    refine rx_aload_n C 0 dX6_hasHump_15 rfl ?_
    refine rx_iload_n C 3 dX6_hasHump_16 rfl ?_
    refine rx_lald C m_v0 k_v0 dX6_hasHump_17 hm (fun hm => ?_)
    refine rx_aload_n C 0 dX6_hasHump_18 rfl ?_
    refine rx_iload_n C 3 dX6_hasHump_19 rfl ?_
    refine rx_iconst (v := 1) C dX6_hasHump_20 rfl ?_
    refine rx_isub C dX6_hasHump_21 ?_
    refine rx_lald C m_v0 k_v0 dX6_hasHump_22 hm (fun hm => ?_)
    refine rr_jn1 hm (fun j50 ej50 hm => ?_)
    have hj50 : ∀ (v2_3 : Int32), j50 v2_3 = some r → rr_J X G 4 (rr_E X G σ (some (.int r))) σ 50 [(0, .ref v0), (1, .int v1), (2, .int v2_3), (3, .int v3)] [] := by
      intro v2_3 hm
      replace hm := ej50 _ hm
      refine rx_iinc (d := 1) (lv1 := fun v => [(3, .int v), (0, .ref v0), (1, .int v1), (2, .int v2_3)]) C 3 dX6_hasHump_50 hm rfl rfl (by decide) (fun _ => rfl) (fun v3_4 hm => ?_)
      refine rx_goto (tgt := 4) C dX6_hasHump_53 (by decide) ?_
      refine rx_lv [1, 2, 3, 0] rfl ?_
      exact ih _ _ _ hm hk
    refine rx_lcmp_ge (tgt := 32) C dX6_hasHump_23 dX6_hasHump_24 (by decide) hm (fun h_5 hm => ?_) (fun h_5 hm => ?_)
    · refine rx_iload_n C 2 dX6_hasHump_32 rfl ?_
      refine rx_if_eq (tgt := 50) C dX6_hasHump_33 (by decide) hm (fun h_6 hm => ?_) (fun h_6 hm => ?_)
      · refine rx_lv [0, 1, 2, 3] rfl ?_
        exact hj50 _ hm
      refine rx_aload_n C 0 dX6_hasHump_36 rfl ?_
      refine rx_iload_n C 3 dX6_hasHump_37 rfl ?_
      refine rx_lald C m_v0 k_v0 dX6_hasHump_38 hm (fun hm => ?_)
      refine rx_aload_n C 0 dX6_hasHump_39 rfl ?_
      refine rx_iload_n C 3 dX6_hasHump_40 rfl ?_
      refine rx_iconst (v := 1) C dX6_hasHump_41 rfl ?_
      refine rx_isub C dX6_hasHump_42 ?_
      refine rx_lald C m_v0 k_v0 dX6_hasHump_43 hm (fun hm => ?_)
      refine rx_lcmp_le (tgt := 50) C dX6_hasHump_44 dX6_hasHump_45 (by decide) hm (fun h_7 hm => ?_) (fun h_7 hm => ?_)
      · refine rx_lv [0, 1, 2, 3] rfl ?_
        exact hj50 _ hm
      refine rx_iconst (v := 0) C dX6_hasHump_48 rfl ?_
      exact rx_zretR C dX6_hasHump_49 hm
    refine rx_iconst (v := 1) C dX6_hasHump_27 rfl ?_
    refine rx_istore_n (lv1 := [(2, .int 1), (0, .ref v0), (1, .int v1), (3, .int v3)]) C dX6_hasHump_28 (by decide) rfl ?_
    refine rx_goto (tgt := 50) C dX6_hasHump_29 (by decide) ?_
    refine rx_lv [1, 2, 0, 3] rfl ?_
    exact hj50 _ hm
def f_Row_hasHump (fu : Nat) (N : Nat → Nat) (v0 : Nat) (v1 : Int32) (σ : rr_M) : Option (Int32) :=
    l_Row_hasHump_4 fu N v0 v1 σ fu 0 1 (if rr_b1 1 then some (1) else none)
theorem c_Row_hasHump (l : Launch) (G : rr_G) (hG : G.2.2.1.Nodup) (fu : Nat) (v0 : Nat) (m_v0 : v0 ∈ G.2.2.1) (k_v0 : G.2.2.2.1 v0 = 12) (v1 : Int32) (σ : rr_M) (r : Int32) (hm : f_Row_hasHump fu G.2.2.2.2 v0 v1 σ = some r) : rr_Met l G yX6_hasHump cX6_hasHump 4 (some .boolean) 0 0 [.ref v0, .int v1] σ σ (some (.int r)) := by
  refine rr_enter (lv0 := [(0, .ref v0), (1, .int v1)]) hp_Row_hasHump hG (Nat.le_of_ble_eq_true rfl) rfl (fun X hll C => ?_)
  replace C : rr_C X G cX6_hasHump 4 "RootRows$Rows" (some .boolean) 0 0 := C
  unfold f_Row_hasHump at hm
  refine rx_iconst (v := 0) C dX6_hasHump_0 rfl ?_
  refine rx_istore_n (lv1 := [(2, .int 0), (0, .ref v0), (1, .int v1)]) C dX6_hasHump_1 (by decide) rfl ?_
  refine rx_iconst (v := 1) C dX6_hasHump_2 rfl ?_
  refine rx_istore_n (lv1 := [(3, .int 1), (2, .int 0), (0, .ref v0), (1, .int v1)]) C dX6_hasHump_3 (by decide) rfl ?_
  refine rx_lv [2, 3, 1, 0] rfl ?_
  refine lw_Row_hasHump_4 hG hll C σ v0 m_v0 k_v0 v1 _ _ _ _ hm (fun _ hm => ?_)
  refine rx_iconst (v := 1) C dX6_hasHump_56 rfl ?_
  exact rx_zretR C dX6_hasHump_57 hm
def l_Row_holes_7 (fu : Nat) (N : Nat → Nat) (v0 : Nat) (v1 : Int32) (σ : rr_M) : Nat → Int32 → Int32 → Int32 → (Int32 → Option (Int32)) → Option (Int32)
  | 0, _, _, _, _ => none
  | n + 1, v2, v3, v4, kk =>
    if v1 ≤ v4 then (kk v2) else
    if (nI (N v0)) ≤ v4 then (kk v2) else
    (if rr_ix v4 (N v0) then
    rr_jn (fun (v2_3 : Int32) (v3_4 : Int32) =>
    rr_lt (v4 + 1) fun v4_5 =>
    l_Row_holes_7 fu N v0 v1 σ n v2_3 v3_4 v4_5 kk) fun j45 =>
    if (mg_l σ v0 (rr_n v4)) = 0 then (if v3 = 0 then (j45 v2 v3) else
    rr_lt (v2 ||| (1 <<< (v4 &&& 31))) fun v2_8 =>
    j45 v2_8 v3) else
    j45 v2 1 else none)
theorem lw_Row_holes_7 {X : rr_X} {G : rr_G} {l : Launch} {fu : Nat} (hG : G.2.2.1.Nodup) (hll : X.2.1 = l) (C : rr_C X G cX6_holes 5 "RootRows$Rows" (some .int) 0 0) {r : Int32}  (σ : rr_M) (v0 : Nat) (m_v0 : v0 ∈ G.2.2.1) (k_v0 : G.2.2.2.1 v0 = 12) (v1 : Int32) : ∀ (n : Nat) (v2 : Int32) (v3 : Int32) (v4 : Int32) (K : Int32 → Option (Int32)), l_Row_holes_7 fu G.2.2.2.2 v0 v1 σ n v2 v3 v4 K = some r → (∀ (w2 : Int32), K w2 = some r → rr_J X G 5 (rr_E X G σ (some (.int r))) σ 51 [(2, .int w2)] []) → rr_J X G 5 (rr_E X G σ (some (.int r))) σ 7 [(0, .ref v0), (1, .int v1), (2, .int v2), (3, .int v3), (4, .int v4)] [] := by
  intro n
  induction n with
  | zero =>
    intro v2 v3 v4 K hm
    cases hm
  | succ n ih =>
    intro v2 v3 v4 K hm hk
    unfold l_Row_holes_7 at hm
    refine rx_iload C 4 dX6_holes_7 rfl ?_
    refine rx_iload_n C 1 dX6_holes_9 rfl ?_
    refine rx_icmp_ge (tgt := 51) C dX6_holes_10 (by decide) hm (fun h_1 hm => ?_) (fun h_1 hm => ?_)
    · refine rx_lv [2] rfl ?_
      exact hk _ hm
    refine rx_iload C 4 dX6_holes_13 rfl ?_
    refine rx_aload_n C 0 dX6_holes_15 rfl ?_
    refine rx_alen C m_v0 k_v0 (by decide) dX6_holes_16 ?_
    refine rx_icmp_ge (tgt := 51) C dX6_holes_17 (by decide) hm (fun h_2 hm => ?_) (fun h_2 hm => ?_)
    · refine rx_lv [2] rfl ?_
      exact hk _ hm
    refine rx_aload_n C 0 dX6_holes_20 rfl ?_
    refine rx_iload C 4 dX6_holes_21 rfl ?_
    refine rx_lald C m_v0 k_v0 dX6_holes_23 hm (fun hm => ?_)
    refine rx_lconst (v := 0) C dX6_holes_24 rfl ?_
    refine rr_jn2 hm (fun j45 ej45 hm => ?_)
    have hj45 : ∀ (v2_3 : Int32) (v3_4 : Int32), j45 v2_3 v3_4 = some r → rr_J X G 5 (rr_E X G σ (some (.int r))) σ 45 [(0, .ref v0), (1, .int v1), (2, .int v2_3), (3, .int v3_4), (4, .int v4)] [] := by
      intro v2_3 v3_4 hm
      replace hm := ej45 _ _ hm
      refine rx_iinc (d := 1) (lv1 := fun v => [(4, .int v), (0, .ref v0), (1, .int v1), (2, .int v2_3), (3, .int v3_4)]) C 4 dX6_holes_45 hm rfl rfl (by decide) (fun _ => rfl) (fun v4_5 hm => ?_)
      refine rx_goto (tgt := 7) C dX6_holes_48 (by decide) ?_
      refine rx_lv [1, 2, 3, 4, 0] rfl ?_
      exact ih _ _ _ _ hm hk
    refine rx_lcmp_eq (tgt := 34) C dX6_holes_25 dX6_holes_26 (by decide) hm (fun h_6 hm => ?_) (fun h_6 hm => ?_)
    · refine rx_iload_n C 3 dX6_holes_34 rfl ?_
      refine rx_if_eq (tgt := 45) C dX6_holes_35 (by decide) hm (fun h_7 hm => ?_) (fun h_7 hm => ?_)
      · refine rx_lv [0, 1, 2, 3, 4] rfl ?_
        exact hj45 _ _ hm
      refine rx_iload_n C 2 dX6_holes_38 rfl ?_
      refine rx_iconst (v := 1) C dX6_holes_39 rfl ?_
      refine rx_iload C 4 dX6_holes_40 rfl ?_
      refine rx_ishl C dX6_holes_42 ?_
      refine rx_ior C dX6_holes_43 ?_
      refine rx_nmi hm (fun v2_8 ev2_8 hm => ?_)
      refine rx_istore_n (lv1 := [(2, .int v2_8), (0, .ref v0), (1, .int v1), (3, .int v3), (4, .int v4)]) C dX6_holes_44 (by decide) rfl ?_
      refine rx_lv [1, 2, 0, 3, 4] rfl ?_
      exact hj45 _ _ hm
    refine rx_iconst (v := 1) C dX6_holes_29 rfl ?_
    refine rx_istore_n (lv1 := [(3, .int 1), (0, .ref v0), (1, .int v1), (2, .int v2), (4, .int v4)]) C dX6_holes_30 (by decide) rfl ?_
    refine rx_goto (tgt := 45) C dX6_holes_31 (by decide) ?_
    refine rx_lv [1, 2, 3, 0, 4] rfl ?_
    exact hj45 _ _ hm
def f_Row_holes (fu : Nat) (N : Nat → Nat) (v0 : Nat) (v1 : Int32) (σ : rr_M) : Option (Int32) :=
    l_Row_holes_7 fu N v0 v1 σ fu 0 0 0 (fun v2_9 =>
    some (v2_9))
theorem c_Row_holes (l : Launch) (G : rr_G) (hG : G.2.2.1.Nodup) (fu : Nat) (v0 : Nat) (m_v0 : v0 ∈ G.2.2.1) (k_v0 : G.2.2.2.1 v0 = 12) (v1 : Int32) (σ : rr_M) (r : Int32) (hm : f_Row_holes fu G.2.2.2.2 v0 v1 σ = some r) : rr_Met l G yX6_holes cX6_holes 5 (some .int) 0 0 [.ref v0, .int v1] σ σ (some (.int r)) := by
  refine rr_enter (lv0 := [(0, .ref v0), (1, .int v1)]) hp_Row_holes hG (Nat.le_of_ble_eq_true rfl) rfl (fun X hll C => ?_)
  replace C : rr_C X G cX6_holes 5 "RootRows$Rows" (some .int) 0 0 := C
  unfold f_Row_holes at hm
  refine rx_iconst (v := 0) C dX6_holes_0 rfl ?_
  refine rx_istore_n (lv1 := [(2, .int 0), (0, .ref v0), (1, .int v1)]) C dX6_holes_1 (by decide) rfl ?_
  refine rx_iconst (v := 0) C dX6_holes_2 rfl ?_
  refine rx_istore_n (lv1 := [(3, .int 0), (2, .int 0), (0, .ref v0), (1, .int v1)]) C dX6_holes_3 (by decide) rfl ?_
  refine rx_iconst (v := 0) C dX6_holes_4 rfl ?_
  refine rx_istore (lv1 := [(4, .int 0), (3, .int 0), (2, .int 0), (0, .ref v0), (1, .int v1)]) C dX6_holes_5 (by decide) rfl ?_
  refine rx_lv [3, 4, 2, 1, 0] rfl ?_
  refine lw_Row_holes_7 hG hll C σ v0 m_v0 k_v0 v1 _ _ _ _ _ hm (fun v2_9 hm => ?_)
  refine rx_iload_n C 0 dX6_holes_51 rfl ?_
  exact rx_iretR C dX6_holes_52 hm
def l_Row_modes_9 (fu : Nat) (N : Nat → Nat) (v0 : Nat) (v1 : Int32) (σ : rr_M) : Nat → Int32 → Int64 → Int32 → (Int32 → Option (Int32)) → Option (Int32)
  | 0, _, _, _, _ => none
  | n + 1, v2, v3, v5, kk =>
    if v1 < v5 then (kk v2) else
    if (nI (N v0)) ≤ v5 then (kk v2) else
    (if rr_ix v5 (N v0) then
    rr_jn (fun (v2_3 : Int32) (v3_4 : Int64) =>
    (if rr_ix v5 (N v0) then
    rr_jn (fun (v2_5 : Int32) =>
    rr_lt (v5 + 1) fun v5_6 =>
    l_Row_modes_9 fu N v0 v1 σ n v2_5 v3_4 v5_6 kk) fun j54 =>
    if (mg_l σ v0 (rr_n v5)) = v3_4 then (rr_lt (v2_3 ||| (1 <<< (v5 &&& 31))) fun v2_8 =>
    j54 v2_8) else
    j54 v2_3 else none)) fun j38 =>
    if (mg_l σ v0 (rr_n v5)) ≤ v3 then (j38 v2 v3) else
    (if rr_ix v5 (N v0) then
    rr_lt (mg_l σ v0 (rr_n v5)) fun v3_10 =>
    j38 0 v3_10 else none) else none)
theorem lw_Row_modes_9 {X : rr_X} {G : rr_G} {l : Launch} {fu : Nat} (hG : G.2.2.1.Nodup) (hll : X.2.1 = l) (C : rr_C X G cX6_modes 6 "RootRows$Rows" (some .int) 0 0) {r : Int32}  (σ : rr_M) (v0 : Nat) (m_v0 : v0 ∈ G.2.2.1) (k_v0 : G.2.2.2.1 v0 = 12) (v1 : Int32) : ∀ (n : Nat) (v2 : Int32) (v3 : Int64) (v5 : Int32) (K : Int32 → Option (Int32)), l_Row_modes_9 fu G.2.2.2.2 v0 v1 σ n v2 v3 v5 K = some r → (∀ (w2 : Int32), K w2 = some r → rr_J X G 6 (rr_E X G σ (some (.int r))) σ 60 [(2, .int w2)] []) → rr_J X G 6 (rr_E X G σ (some (.int r))) σ 9 [(0, .ref v0), (1, .int v1), (2, .int v2), (3, .long v3), (5, .int v5)] [] := by
  intro n
  induction n with
  | zero =>
    intro v2 v3 v5 K hm
    cases hm
  | succ n ih =>
    intro v2 v3 v5 K hm hk
    unfold l_Row_modes_9 at hm
    refine rx_iload C 4 dX6_modes_9 rfl ?_
    refine rx_iload_n C 1 dX6_modes_11 rfl ?_
    refine rx_icmp_gt (tgt := 60) C dX6_modes_12 (by decide) hm (fun h_1 hm => ?_) (fun h_1 hm => ?_)
    · refine rx_lv [2] rfl ?_
      exact hk _ hm
    refine rx_iload C 4 dX6_modes_15 rfl ?_
    refine rx_aload_n C 0 dX6_modes_17 rfl ?_
    refine rx_alen C m_v0 k_v0 (by decide) dX6_modes_18 ?_
    refine rx_icmp_ge (tgt := 60) C dX6_modes_19 (by decide) hm (fun h_2 hm => ?_) (fun h_2 hm => ?_)
    · refine rx_lv [2] rfl ?_
      exact hk _ hm
    refine rx_aload_n C 0 dX6_modes_22 rfl ?_
    refine rx_iload C 4 dX6_modes_23 rfl ?_
    refine rx_lald C m_v0 k_v0 dX6_modes_25 hm (fun hm => ?_)
    refine rx_lload_n C 3 dX6_modes_26 rfl ?_
    refine rr_jn2 hm (fun j38 ej38 hm => ?_)
    have hj38 : ∀ (v2_3 : Int32) (v3_4 : Int64), j38 v2_3 v3_4 = some r → rr_J X G 6 (rr_E X G σ (some (.int r))) σ 38 [(0, .ref v0), (1, .int v1), (2, .int v2_3), (3, .long v3_4), (5, .int v5)] [] := by
      intro v2_3 v3_4 hm
      replace hm := ej38 _ _ hm
      refine rx_aload_n C 0 dX6_modes_38 rfl ?_
      refine rx_iload C 4 dX6_modes_39 rfl ?_
      refine rx_lald C m_v0 k_v0 dX6_modes_41 hm (fun hm => ?_)
      refine rx_lload_n C 3 dX6_modes_42 rfl ?_
      refine rr_jn1 hm (fun j54 ej54 hm => ?_)
      have hj54 : ∀ (v2_5 : Int32), j54 v2_5 = some r → rr_J X G 6 (rr_E X G σ (some (.int r))) σ 54 [(0, .ref v0), (1, .int v1), (2, .int v2_5), (3, .long v3_4), (5, .int v5)] [] := by
        intro v2_5 hm
        replace hm := ej54 _ hm
        refine rx_iinc (d := 1) (lv1 := fun v => [(5, .int v), (0, .ref v0), (1, .int v1), (2, .int v2_5), (3, .long v3_4)]) C 4 dX6_modes_54 hm rfl rfl (by decide) (fun _ => rfl) (fun v5_6 hm => ?_)
        refine rx_goto (tgt := 9) C dX6_modes_57 (by decide) ?_
        refine rx_lv [1, 2, 3, 4, 0] rfl ?_
        exact ih _ _ _ _ hm hk
      refine rx_lcmp_ne (tgt := 54) C dX6_modes_43 dX6_modes_44 (by decide) hm (fun h_7 hm => ?_) (fun h_7 hm => ?_)
      · refine rx_lv [0, 1, 2, 3, 4] rfl ?_
        exact hj54 _ hm
      refine rx_iload_n C 2 dX6_modes_47 rfl ?_
      refine rx_iconst (v := 1) C dX6_modes_48 rfl ?_
      refine rx_iload C 4 dX6_modes_49 rfl ?_
      refine rx_ishl C dX6_modes_51 ?_
      refine rx_ior C dX6_modes_52 ?_
      refine rx_nmi hm (fun v2_8 ev2_8 hm => ?_)
      refine rx_istore_n (lv1 := [(2, .int v2_8), (0, .ref v0), (1, .int v1), (3, .long v3_4), (5, .int v5)]) C dX6_modes_53 (by decide) rfl ?_
      refine rx_lv [1, 2, 0, 3, 4] rfl ?_
      exact hj54 _ hm
    refine rx_lcmp_le (tgt := 38) C dX6_modes_27 dX6_modes_28 (by decide) hm (fun h_9 hm => ?_) (fun h_9 hm => ?_)
    · refine rx_lv [0, 1, 2, 3, 4] rfl ?_
      exact hj38 _ _ hm
    refine rx_aload_n C 0 dX6_modes_31 rfl ?_
    refine rx_iload C 4 dX6_modes_32 rfl ?_
    refine rx_lald C m_v0 k_v0 dX6_modes_34 hm (fun hm => ?_)
    refine rx_nml hm (fun v3_10 ev3_10 hm => ?_)
    refine rx_lstore_n (lv1 := [(3, .long v3_10), (0, .ref v0), (1, .int v1), (2, .int v2), (5, .int v5)]) C dX6_modes_35 (by decide) rfl ?_
    refine rx_iconst (v := 0) C dX6_modes_36 rfl ?_
    refine rx_istore_n (lv1 := [(2, .int 0), (3, .long v3_10), (0, .ref v0), (1, .int v1), (5, .int v5)]) C dX6_modes_37 (by decide) rfl ?_
    refine rx_lv [2, 3, 0, 1, 4] rfl ?_
    exact hj38 _ _ hm
def f_Row_modes (fu : Nat) (N : Nat → Nat) (v0 : Nat) (v1 : Int32) (σ : rr_M) : Option (Int32) :=
    l_Row_modes_9 fu N v0 v1 σ fu 0 (-100000000) 0 (fun v2_11 =>
    some (v2_11))
theorem c_Row_modes (l : Launch) (G : rr_G) (hG : G.2.2.1.Nodup) (fu : Nat) (v0 : Nat) (m_v0 : v0 ∈ G.2.2.1) (k_v0 : G.2.2.2.1 v0 = 12) (v1 : Int32) (σ : rr_M) (r : Int32) (hm : f_Row_modes fu G.2.2.2.2 v0 v1 σ = some r) : rr_Met l G yX6_modes cX6_modes 6 (some .int) 0 0 [.ref v0, .int v1] σ σ (some (.int r)) := by
  refine rr_enter (lv0 := [(0, .ref v0), (1, .int v1)]) hp_Row_modes hG (Nat.le_of_ble_eq_true rfl) rfl (fun X hll C => ?_)
  replace C : rr_C X G cX6_modes 6 "RootRows$Rows" (some .int) 0 0 := C
  unfold f_Row_modes at hm
  refine rx_iconst (v := 0) C dX6_modes_0 rfl ?_
  refine rx_istore_n (lv1 := [(2, .int 0), (0, .ref v0), (1, .int v1)]) C dX6_modes_1 (by decide) rfl ?_
  refine rx_ldc2 C q_828 dX6_modes_2 ?_
  refine rx_lstore_n (lv1 := [(3, .long (-100000000)), (2, .int 0), (0, .ref v0), (1, .int v1)]) C dX6_modes_5 (by decide) rfl ?_
  refine rx_iconst (v := 0) C dX6_modes_6 rfl ?_
  refine rx_istore (lv1 := [(5, .int 0), (3, .long (-100000000)), (2, .int 0), (0, .ref v0), (1, .int v1)]) C dX6_modes_7 (by decide) rfl ?_
  refine rx_lv [3, 4, 2, 1, 0] rfl ?_
  refine lw_Row_modes_9 hG hll C σ v0 m_v0 k_v0 v1 _ _ _ _ _ hm (fun v2_11 hm => ?_)
  refine rx_iload_n C 0 dX6_modes_60 rfl ?_
  exact rx_iretR C dX6_modes_61 hm
def l_Mak_product_6 (fu : Nat) (N : Nat → Nat) (v0 : Nat) (v1 : Nat) (v2 : Nat) : Nat → Int32 → rr_M → (rr_M → Option (Int32 × rr_M)) → Option (Int32 × rr_M)
  | 0, _, _, _ => none
  | n + 1, v3, σ, kk =>
    if (nI (N v1)) ≤ v3 then (kk σ) else
    (if rr_ix v3 (N v1) then
    rr_bd (f_Mak_addNumbers fu N v0 v2 v3 (mg_l σ v1 (rr_n v3)) σ) fun _ σ_4 =>
    rr_lt (v3 + 1) fun v3_6 =>
    l_Mak_product_6 fu N v0 v1 v2 n v3_6 σ_4 kk else none)
theorem lw_Mak_product_6 {X : rr_X} {G : rr_G} {l : Launch} {fu : Nat} (hG : G.2.2.1.Nodup) (hll : X.2.1 = l) (C : rr_C X G cX2_product 4 "RootRows$Maker" (some .boolean) 1 25) {r : Int32} {σr : rr_M} (v0 : Nat) (m_v0 : v0 ∈ G.2.2.1) (k_v0 : G.2.2.2.1 v0 = 2) (v1 : Nat) (m_v1 : v1 ∈ G.2.2.1) (k_v1 : G.2.2.2.1 v1 = 12) (v2 : Nat) (m_v2 : v2 ∈ G.2.2.1) (k_v2 : G.2.2.2.1 v2 = 12) : ∀ (n : Nat) (v3 : Int32) (σ : rr_M) (K : rr_M → Option (Int32 × rr_M)), l_Mak_product_6 fu G.2.2.2.2 v0 v1 v2 n v3 σ K = some (r, σr) → (∀ (σ1 : rr_M), K σ1 = some (r, σr) → rr_J X G 4 (rr_E X G σr (some (.int r))) σ1 27 [(0, .ref v0)] []) → rr_J X G 4 (rr_E X G σr (some (.int r))) σ 6 [(0, .ref v0), (1, .ref v1), (2, .ref v2), (3, .int v3)] [] := by
  intro n
  induction n with
  | zero =>
    intro v3 σ K hm
    cases hm
  | succ n ih =>
    intro v3 σ K hm hk
    unfold l_Mak_product_6 at hm
    refine rx_iload_n C 3 dX2_product_6 rfl ?_
    refine rx_aload_n C 1 dX2_product_7 rfl ?_
    refine rx_alen C m_v1 k_v1 (by decide) dX2_product_8 ?_
    refine rx_icmp_ge (tgt := 27) C dX2_product_9 (by decide) hm (fun h_3 hm => ?_) (fun h_3 hm => ?_)
    · refine rx_lv [0] rfl ?_
      exact hk _ hm
    refine rx_aload_n C 0 dX2_product_12 rfl ?_
    refine rx_aload_n C 2 dX2_product_13 rfl ?_
    refine rx_iload_n C 3 dX2_product_14 rfl ?_
    refine rx_aload_n C 1 dX2_product_15 rfl ?_
    refine rx_iload_n C 3 dX2_product_16 rfl ?_
    refine rx_lald C m_v1 k_v1 dX2_product_17 hm (fun hm => ?_)
    obtain ⟨_, σ_4, hc_5, hm⟩ := rr_bd_some hm
    refine rr_callV (rest := []) (st1 := []) C 2 hll (c_Mak_addNumbers l G hG fu v0 m_v0 k_v0 v2 m_v2 k_v2 v3 (mg_l σ v1 (rr_n v3)) σ _ hc_5) q_471 q_473 qs_12 q_4 q_474 hd_Mak_addNumbers ⟨_, rfl, rfl⟩ (by decide) m_v0 k_v0 ⟨by decide, by decide⟩ rfl rfl (Nat.le_of_ble_eq_true rfl) rfl dX2_product_18 ?_
    refine rx_iinc (d := 1) (lv1 := fun v => [(3, .int v), (0, .ref v0), (1, .ref v1), (2, .ref v2)]) C 3 dX2_product_21 hm rfl rfl (by decide) (fun _ => rfl) (fun v3_6 hm => ?_)
    refine rx_goto (tgt := 6) C dX2_product_24 (by decide) ?_
    refine rx_lv [1, 2, 3, 0] rfl ?_
    exact ih _ _ _ hm hk
def f_Mak_product (fu : Nat) (N : Nat → Nat) (v0 : Nat) (v1 : Nat) (v2 : Nat) (σ : rr_M) : Option (Int32 × rr_M) :=
    rr_bd (f_Mak_clear fu N v0 σ) fun _ σ_1 =>
    l_Mak_product_6 fu N v0 v1 v2 fu 0 σ_1 (fun σ_7 =>
    rr_lt (mg_r σ_7 v0 0) fun p_8 =>
    Option.bind (f_Num_fits fu N p_8 σ_7) fun r_9 =>
    if rr_b1 r_9 then some (r_9, σ_7) else none)
theorem c_Mak_product (l : Launch) (G : rr_G) (hG : G.2.2.1.Nodup) (fu : Nat) (v0 : Nat) (m_v0 : v0 ∈ G.2.2.1) (k_v0 : G.2.2.2.1 v0 = 2) (v1 : Nat) (m_v1 : v1 ∈ G.2.2.1) (k_v1 : G.2.2.2.1 v1 = 12) (v2 : Nat) (m_v2 : v2 ∈ G.2.2.1) (k_v2 : G.2.2.2.1 v2 = 12) (σ : rr_M) (r : Int32) (σr : rr_M) (hm : f_Mak_product fu G.2.2.2.2 v0 v1 v2 σ = some (r, σr)) : rr_Met l G yX2_product cX2_product 4 (some .boolean) 1 25 [.ref v0, .ref v1, .ref v2] σ σr (some (.int r)) := by
  refine rr_enter (lv0 := [(0, .ref v0), (1, .ref v1), (2, .ref v2)]) hp_Mak_product hG (Nat.le_of_ble_eq_true rfl) rfl (fun X hll C => ?_)
  replace C : rr_C X G cX2_product 4 "RootRows$Maker" (some .boolean) 1 25 := C
  unfold f_Mak_product at hm
  refine rx_aload_n C 0 dX2_product_0 rfl ?_
  obtain ⟨_, σ_1, hc_2, hm⟩ := rr_bd_some hm
  refine rr_callV (rest := []) (st1 := []) C 2 hll (c_Mak_clear l G hG fu v0 m_v0 k_v0 σ _ hc_2) q_463 q_465 qs_10 q_4 q_466 hd_Mak_clear ⟨_, rfl, rfl⟩ (by decide) m_v0 k_v0 ⟨by decide, by decide⟩ rfl rfl (Nat.le_of_ble_eq_true rfl) rfl dX2_product_1 ?_
  refine rx_iconst (v := 0) C dX2_product_4 rfl ?_
  refine rx_istore_n (lv1 := [(3, .int 0), (0, .ref v0), (1, .ref v1), (2, .ref v2)]) C dX2_product_5 (by decide) rfl ?_
  refine rx_lv [1, 2, 3, 0] rfl ?_
  refine lw_Mak_product_6 hG hll C v0 m_v0 k_v0 v1 m_v1 k_v1 v2 m_v2 k_v2 _ _ _ _ hm (fun σ_7 hm => ?_)
  refine rx_aload_n C 0 dX2_product_27 rfl ?_
  refine gf_137 C m_v0 k_v0 dX2_product_28 hm (fun p_8 m_p_8 k_p_8 hm => ?_)
  obtain ⟨r_9, hc_10, hm⟩ := rr_b0_some hm
  refine rr_callS (rest := []) (st1 := [.int r_9]) C hll (c_Num_fits l G hG fu p_8 m_p_8 k_p_8 σ_7 _ hc_10) q_481 q_424 q_12 q_425 hd_Num_fits ⟨by decide, by decide⟩ rfl rfl (Nat.le_of_ble_eq_true rfl) rfl dX2_product_31 ?_
  exact rx_zret C dX2_product_34 hm
