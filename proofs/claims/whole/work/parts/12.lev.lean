def l_Lev_keepProof_13 (fu : Nat) (N : Nat → Nat) (v0 : Nat) (v1 : Nat) : Nat → Int32 → rr_M → (rr_M → Option (Unit × rr_M)) → Option (Unit × rr_M)
  | 0, _, _, _ => none
  | n + 1, v2, σ, kk =>
    rr_lt (mg_r σ v0 3) fun p_3 =>
    if (mg_i σ p_3 3) ≤ v2 then (kk σ) else
    if 10 ≤ v2 then (kk σ) else
    rr_lt (mg_r σ v1 7) fun p_6 =>
    rr_lt (mg_r σ v0 3) fun p_7 =>
    rr_lt (mg_r σ p_7 1) fun p_8 =>
    (if rr_ix v2 (N p_8) then
    (if rr_ix v2 (N p_6) then rr_lt (ms_i σ p_6 (rr_n v2) (mg_i σ p_8 (rr_n v2))) fun σ_9 =>
    rr_lt (mg_r σ_9 v1 8) fun p_10 =>
    rr_lt (mg_r σ_9 v0 3) fun p_11 =>
    rr_lt (mg_r σ_9 p_11 2) fun p_12 =>
    (if rr_ix v2 (N p_12) then
    (if rr_ix v2 (N p_10) then rr_lt (ms_i σ_9 p_10 (rr_n v2) (mg_i σ_9 p_12 (rr_n v2))) fun σ_13 =>
    rr_lt (v2 + 1) fun v2_14 =>
    l_Lev_keepProof_13 fu N v0 v1 n v2_14 σ_13 kk else none) else none) else none) else none)
theorem lw_Lev_keepProof_13 {X : rr_X} {G : rr_G} {l : Launch} {fu : Nat} (hG : G.2.2.1.Nodup) (hll : X.2.1 = l) (C : rr_C X G cX1_keepProof 3 "RootRows$Levels" none 0 0) {σr : rr_M} (v0 : Nat) (m_v0 : v0 ∈ G.2.2.1) (k_v0 : G.2.2.2.1 v0 = 1) (v1 : Nat) (m_v1 : v1 ∈ G.2.2.1) (k_v1 : G.2.2.2.1 v1 = 7) : ∀ (n : Nat) (v2 : Int32) (σ : rr_M) (K : rr_M → Option (Unit × rr_M)), l_Lev_keepProof_13 fu G.2.2.2.2 v0 v1 n v2 σ K = some ((), σr) → (∀ (σ1 : rr_M), K σ1 = some ((), σr) → rr_J X G 3 (rr_E X G σr none) σ1 66 [] []) → rr_J X G 3 (rr_E X G σr none) σ 13 [(0, .ref v0), (1, .ref v1), (2, .int v2)] [] := by
  intro n
  induction n with
  | zero =>
    intro v2 σ K hm
    cases hm
  | succ n ih =>
    intro v2 σ K hm hk
    unfold l_Lev_keepProof_13 at hm
    refine rx_iload_n C 2 dX1_keepProof_13 rfl ?_
    refine rx_aload_n C 0 dX1_keepProof_14 rfl ?_
    refine gf_248 C m_v0 k_v0 dX1_keepProof_15 hm (fun p_3 m_p_3 k_p_3 hm => ?_)
    refine gf_175 C m_p_3 k_p_3 dX1_keepProof_18 ?_
    refine rx_icmp_ge (tgt := 66) C dX1_keepProof_21 (by decide) hm (fun h_4 hm => ?_) (fun h_4 hm => ?_)
    · refine rx_lv [] rfl ?_
      exact hk _ hm
    refine rx_iload_n C 2 dX1_keepProof_24 rfl ?_
    refine rx_bipush (v := 10) C dX1_keepProof_25 rfl ?_
    refine rx_icmp_ge (tgt := 66) C dX1_keepProof_27 (by decide) hm (fun h_5 hm => ?_) (fun h_5 hm => ?_)
    · refine rx_lv [] rfl ?_
      exact hk _ hm
    refine rx_aload_n C 1 dX1_keepProof_30 rfl ?_
    refine gf_53 C m_v1 k_v1 dX1_keepProof_31 hm (fun p_6 m_p_6 k_p_6 hm => ?_)
    refine rx_iload_n C 2 dX1_keepProof_34 rfl ?_
    refine rx_aload_n C 0 dX1_keepProof_35 rfl ?_
    refine gf_248 C m_v0 k_v0 dX1_keepProof_36 hm (fun p_7 m_p_7 k_p_7 hm => ?_)
    refine gf_168 C m_p_7 k_p_7 dX1_keepProof_39 hm (fun p_8 m_p_8 k_p_8 hm => ?_)
    refine rx_iload_n C 2 dX1_keepProof_42 rfl ?_
    refine rx_iald C m_p_8 k_p_8 dX1_keepProof_43 hm (fun hm => ?_)
    refine rx_iast C m_p_6 k_p_6 dX1_keepProof_44 hm (fun σ_9 hm => ?_)
    refine rx_aload_n C 1 dX1_keepProof_45 rfl ?_
    refine gf_56 C m_v1 k_v1 dX1_keepProof_46 hm (fun p_10 m_p_10 k_p_10 hm => ?_)
    refine rx_iload_n C 2 dX1_keepProof_49 rfl ?_
    refine rx_aload_n C 0 dX1_keepProof_50 rfl ?_
    refine gf_248 C m_v0 k_v0 dX1_keepProof_51 hm (fun p_11 m_p_11 k_p_11 hm => ?_)
    refine gf_171 C m_p_11 k_p_11 dX1_keepProof_54 hm (fun p_12 m_p_12 k_p_12 hm => ?_)
    refine rx_iload_n C 2 dX1_keepProof_57 rfl ?_
    refine rx_iald C m_p_12 k_p_12 dX1_keepProof_58 hm (fun hm => ?_)
    refine rx_iast C m_p_10 k_p_10 dX1_keepProof_59 hm (fun σ_13 hm => ?_)
    refine rx_iinc (d := 1) (lv1 := fun v => [(2, .int v), (0, .ref v0), (1, .ref v1)]) C 2 dX1_keepProof_60 hm rfl rfl (by decide) (fun _ => rfl) (fun v2_14 hm => ?_)
    refine rx_goto (tgt := 13) C dX1_keepProof_63 (by decide) ?_
    refine rx_lv [1, 2, 0] rfl ?_
    exact ih _ _ _ hm hk
def f_Lev_keepProof (fu : Nat) (N : Nat → Nat) (v0 : Nat) (v1 : Nat) (σ : rr_M) : Option (Unit × rr_M) :=
    rr_lt (mg_r σ v0 3) fun p_1 =>
    rr_lt (ms_i σ v1 6 (mg_i σ p_1 3)) fun σ_2 =>
    l_Lev_keepProof_13 fu N v0 v1 fu 0 σ_2 (fun σ_15 =>
    some ((), σ_15))
theorem c_Lev_keepProof (l : Launch) (G : rr_G) (hG : G.2.2.1.Nodup) (fu : Nat) (v0 : Nat) (m_v0 : v0 ∈ G.2.2.1) (k_v0 : G.2.2.2.1 v0 = 1) (v1 : Nat) (m_v1 : v1 ∈ G.2.2.1) (k_v1 : G.2.2.2.1 v1 = 7) (σ : rr_M) (σr : rr_M) (hm : f_Lev_keepProof fu G.2.2.2.2 v0 v1 σ = some ((), σr)) : rr_Met l G yX1_keepProof cX1_keepProof 3 none 0 0 [.ref v0, .ref v1] σ σr none := by
  refine rr_enter (lv0 := [(0, .ref v0), (1, .ref v1)]) hp_Lev_keepProof hG (Nat.le_of_ble_eq_true rfl) rfl (fun X hll C => ?_)
  replace C : rr_C X G cX1_keepProof 3 "RootRows$Levels" none 0 0 := C
  unfold f_Lev_keepProof at hm
  refine rx_aload_n C 1 dX1_keepProof_0 rfl ?_
  refine rx_aload_n C 0 dX1_keepProof_1 rfl ?_
  refine gf_248 C m_v0 k_v0 dX1_keepProof_2 hm (fun p_1 m_p_1 k_p_1 hm => ?_)
  refine gf_175 C m_p_1 k_p_1 dX1_keepProof_5 ?_
  refine pf_49 C m_v1 k_v1 dX1_keepProof_8 hm (fun σ_2 hm => ?_)
  refine rx_iconst (v := 0) C dX1_keepProof_11 rfl ?_
  refine rx_istore_n (lv1 := [(2, .int 0), (0, .ref v0), (1, .ref v1)]) C dX1_keepProof_12 (by decide) rfl ?_
  refine rx_lv [1, 2, 0] rfl ?_
  refine lw_Lev_keepProof_13 hG hll C v0 m_v0 k_v0 v1 m_v1 k_v1 _ _ _ _ hm (fun σ_15 hm => ?_)
  exact rx_vret C dX1_keepProof_66 hm
def l_Lev_build_19 (fu : Nat) (N : Nat → Nat) (v0 : Nat) (v2 : Nat) : Nat → rr_M → (rr_M → Option (Unit × rr_M)) → Option (Unit × rr_M)
  | 0, _, _ => none
  | n + 1, σ, kk =>
    if 8 ≤ (mg_i σ v0 2) then (kk σ) else
    rr_lt (mg_r σ v0 0) fun p_6 =>
    (if rr_ix (mg_i σ v0 2) (N p_6) then rr_lt (mg_r σ p_6 (rr_n (mg_i σ v0 2))) fun p_7 =>
    Option.bind (f_Num_degreeOf fu N p_7 σ) fun r_8 =>
    if r_8 ≤ 0 then (kk σ) else
    rr_lt (mg_r σ v0 4) fun p_11 =>
    rr_lt (mg_r σ v0 0) fun p_12 =>
    (if rr_ix (mg_i σ v0 2) (N p_12) then rr_lt (mg_r σ p_12 (rr_n (mg_i σ v0 2))) fun p_13 =>
    rr_bd (f_Num_setSlope fu N p_11 p_13 σ) fun _ σ_14 =>
    rr_lt (mg_r σ_14 v0 3) fun p_16 =>
    rr_lt (mg_r σ_14 v0 0) fun p_17 =>
    (if rr_ix (mg_i σ_14 v0 2) (N p_17) then rr_lt (mg_r σ_14 p_17 (rr_n (mg_i σ_14 v0 2))) fun p_18 =>
    rr_lt (mg_r σ_14 v0 4) fun p_19 =>
    rr_bd (f_Seq_run fu N p_16 p_18 p_19 σ_14) fun _ σ_20 =>
    rr_jn (fun (σ_22 : rr_M) =>
    rr_lt (mg_r σ_22 v0 1) fun p_23 =>
    rr_lt (mg_r σ_22 v0 3) fun p_24 =>
    Option.bind (f_Seq_jumps fu N p_24 σ_22) fun r_25 =>
    (if rr_ix (mg_i σ_22 v0 2) (N p_23) then rr_lt (ms_i σ_22 p_23 (rr_n (mg_i σ_22 v0 2)) r_25) fun σ_27 =>
    rr_lt (ms_i σ_27 v0 2 ((mg_i σ_27 v0 2) + 1)) fun σ_28 =>
    rr_lt (mg_r σ_28 v0 3) fun p_29 =>
    rr_lt (mg_r σ_28 v0 0) fun p_30 =>
    (if rr_ix (mg_i σ_28 v0 2) (N p_30) then rr_lt (mg_r σ_28 p_30 (rr_n (mg_i σ_28 v0 2))) fun p_31 =>
    rr_bd (f_Seq_copyDivisor fu N p_29 p_31 σ_28) fun _ σ_32 =>
    l_Lev_build_19 fu N v0 v2 n σ_32 kk else none) else none)) fun j91 =>
    if (mg_i σ_20 v0 2) = 0 then (rr_bd (f_Lev_keepProof fu N v0 v2 σ_20) fun _ σ_35 =>
    j91 σ_35) else
    j91 σ_20 else none) else none) else none)
theorem lw_Lev_build_19 {X : rr_X} {G : rr_G} {l : Launch} {fu : Nat} (hG : G.2.2.1.Nodup) (hll : X.2.1 = l) (C : rr_C X G cX1_build 3 "RootRows$Levels" none 5 141) {σr : rr_M} (v0 : Nat) (m_v0 : v0 ∈ G.2.2.1) (k_v0 : G.2.2.2.1 v0 = 1) (v2 : Nat) (m_v2 : v2 ∈ G.2.2.1) (k_v2 : G.2.2.2.1 v2 = 7) : ∀ (n : Nat) (σ : rr_M) (K : rr_M → Option (Unit × rr_M)), l_Lev_build_19 fu G.2.2.2.2 v0 v2 n σ K = some ((), σr) → (∀ (σ1 : rr_M), K σ1 = some ((), σr) → rr_J X G 3 (rr_E X G σr none) σ1 136 [] []) → rr_J X G 3 (rr_E X G σr none) σ 19 [(0, .ref v0), (2, .ref v2)] [] := by
  intro n
  induction n with
  | zero =>
    intro σ K hm
    cases hm
  | succ n ih =>
    intro σ K hm hk
    unfold l_Lev_build_19 at hm
    refine rx_aload_n C 0 dX1_build_19 rfl ?_
    refine gf_246 C m_v0 k_v0 dX1_build_20 ?_
    refine rx_bipush (v := 8) C dX1_build_23 rfl ?_
    refine rx_icmp_ge (tgt := 136) C dX1_build_25 (by decide) hm (fun h_5 hm => ?_) (fun h_5 hm => ?_)
    · refine rx_lv [] rfl ?_
      exact hk _ hm
    refine rx_aload_n C 0 dX1_build_28 rfl ?_
    refine gf_242 C m_v0 k_v0 dX1_build_29 hm (fun p_6 m_p_6 k_p_6 hm => ?_)
    refine rx_aload_n C 0 dX1_build_32 rfl ?_
    refine gf_246 C m_v0 k_v0 dX1_build_33 ?_
    refine rx_ald16 C m_p_6 k_p_6 dX1_build_36 hm (fun p_7 m_p_7 k_p_7 hm => ?_)
    obtain ⟨r_8, hc_9, hm⟩ := rr_b0_some hm
    refine rr_callS (rest := []) (st1 := [.int r_8]) C hll (c_Num_degreeOf l G hG fu p_7 m_p_7 k_p_7 σ _ hc_9) q_541 q_487 q_12 q_488 hd_Num_degreeOf ⟨by decide, by decide⟩ rfl rfl (Nat.le_of_ble_eq_true rfl) rfl dX1_build_37 ?_
    refine rx_if_le (tgt := 136) C dX1_build_40 (by decide) hm (fun h_10 hm => ?_) (fun h_10 hm => ?_)
    · refine rx_lv [] rfl ?_
      exact hk _ hm
    refine rx_aload_n C 0 dX1_build_43 rfl ?_
    refine gf_249 C m_v0 k_v0 dX1_build_44 hm (fun p_11 m_p_11 k_p_11 hm => ?_)
    refine rx_aload_n C 0 dX1_build_47 rfl ?_
    refine gf_242 C m_v0 k_v0 dX1_build_48 hm (fun p_12 m_p_12 k_p_12 hm => ?_)
    refine rx_aload_n C 0 dX1_build_51 rfl ?_
    refine gf_246 C m_v0 k_v0 dX1_build_52 ?_
    refine rx_ald16 C m_p_12 k_p_12 dX1_build_55 hm (fun p_13 m_p_13 k_p_13 hm => ?_)
    obtain ⟨_, σ_14, hc_15, hm⟩ := rr_bd_some hm
    refine rr_callS (rest := []) (st1 := []) C hll (c_Num_setSlope l G hG fu p_11 m_p_11 k_p_11 p_13 m_p_13 k_p_13 σ _ hc_15) q_542 q_543 q_12 q_544 hd_Num_setSlope ⟨by decide, by decide⟩ rfl rfl (Nat.le_of_ble_eq_true rfl) rfl dX1_build_56 ?_
    refine rx_aload_n C 0 dX1_build_59 rfl ?_
    refine gf_248 C m_v0 k_v0 dX1_build_60 hm (fun p_16 m_p_16 k_p_16 hm => ?_)
    refine rx_aload_n C 0 dX1_build_63 rfl ?_
    refine gf_242 C m_v0 k_v0 dX1_build_64 hm (fun p_17 m_p_17 k_p_17 hm => ?_)
    refine rx_aload_n C 0 dX1_build_67 rfl ?_
    refine gf_246 C m_v0 k_v0 dX1_build_68 ?_
    refine rx_ald16 C m_p_17 k_p_17 dX1_build_71 hm (fun p_18 m_p_18 k_p_18 hm => ?_)
    refine rx_aload_n C 0 dX1_build_72 rfl ?_
    refine gf_249 C m_v0 k_v0 dX1_build_73 hm (fun p_19 m_p_19 k_p_19 hm => ?_)
    obtain ⟨_, σ_20, hc_21, hm⟩ := rr_bd_some hm
    refine rr_callV (rest := []) (st1 := []) C 5 hll (c_Seq_run l G hG fu p_16 m_p_16 k_p_16 p_18 m_p_18 k_p_18 p_19 m_p_19 k_p_19 σ_14 _ hc_21) q_545 q_546 q_547 q_5 q_548 hd_Seq_run ⟨_, rfl, rfl⟩ (by decide) m_p_16 k_p_16 ⟨by decide, by decide⟩ rfl rfl (Nat.le_of_ble_eq_true rfl) rfl dX1_build_76 ?_
    refine rx_aload_n C 0 dX1_build_79 rfl ?_
    refine gf_246 C m_v0 k_v0 dX1_build_80 ?_
    refine rr_jn1 hm (fun j91 ej91 hm => ?_)
    have hj91 : ∀ (σ_22 : rr_M), j91 σ_22 = some ((), σr) → rr_J X G 3 (rr_E X G σr none) σ_22 91 [(0, .ref v0), (2, .ref v2)] [] := by
      intro σ_22 hm
      replace hm := ej91 _ hm
      refine rx_aload_n C 0 dX1_build_91 rfl ?_
      refine gf_244 C m_v0 k_v0 dX1_build_92 hm (fun p_23 m_p_23 k_p_23 hm => ?_)
      refine rx_aload_n C 0 dX1_build_95 rfl ?_
      refine gf_246 C m_v0 k_v0 dX1_build_96 ?_
      refine rx_aload_n C 0 dX1_build_99 rfl ?_
      refine gf_248 C m_v0 k_v0 dX1_build_100 hm (fun p_24 m_p_24 k_p_24 hm => ?_)
      obtain ⟨r_25, hc_26, hm⟩ := rr_b0_some hm
      refine rr_callV (rest := [.int (mg_i σ_22 v0 2), .ref p_23]) (st1 := [.int r_25, .int (mg_i σ_22 v0 2), .ref p_23]) C 5 hll (c_Seq_jumps l G hG fu p_24 m_p_24 k_p_24 σ_22 _ hc_26) q_632 q_633 q_634 q_5 q_635 hd_Seq_jumps ⟨_, rfl, rfl⟩ (by decide) m_p_24 k_p_24 ⟨by decide, by decide⟩ rfl rfl (Nat.le_of_ble_eq_true rfl) rfl dX1_build_103 ?_
      refine rx_iast C m_p_23 k_p_23 dX1_build_106 hm (fun σ_27 hm => ?_)
      refine rx_aload_n C 0 dX1_build_107 rfl ?_
      refine rx_dup C dX1_build_108 rfl ?_
      refine gf_246 C m_v0 k_v0 dX1_build_109 ?_
      refine rx_iconst (v := 1) C dX1_build_112 rfl ?_
      refine rx_iadd C dX1_build_113 ?_
      refine pf_246 C m_v0 k_v0 dX1_build_114 hm (fun σ_28 hm => ?_)
      refine rx_aload_n C 0 dX1_build_117 rfl ?_
      refine gf_248 C m_v0 k_v0 dX1_build_118 hm (fun p_29 m_p_29 k_p_29 hm => ?_)
      refine rx_aload_n C 0 dX1_build_121 rfl ?_
      refine gf_242 C m_v0 k_v0 dX1_build_122 hm (fun p_30 m_p_30 k_p_30 hm => ?_)
      refine rx_aload_n C 0 dX1_build_125 rfl ?_
      refine gf_246 C m_v0 k_v0 dX1_build_126 ?_
      refine rx_ald16 C m_p_30 k_p_30 dX1_build_129 hm (fun p_31 m_p_31 k_p_31 hm => ?_)
      obtain ⟨_, σ_32, hc_33, hm⟩ := rr_bd_some hm
      refine rr_callV (rest := []) (st1 := []) C 5 hll (c_Seq_copyDivisor l G hG fu p_29 m_p_29 k_p_29 p_31 m_p_31 k_p_31 σ_28 _ hc_33) q_640 q_641 q_642 q_5 q_643 hd_Seq_copyDivisor ⟨_, rfl, rfl⟩ (by decide) m_p_29 k_p_29 ⟨by decide, by decide⟩ rfl rfl (Nat.le_of_ble_eq_true rfl) rfl dX1_build_130 ?_
      refine rx_goto (tgt := 19) C dX1_build_133 (by decide) ?_
      refine rx_lv [0, 1] rfl ?_
      exact ih _ _ hm hk
    refine rx_if_ne (tgt := 91) C dX1_build_83 (by decide) hm (fun h_34 hm => ?_) (fun h_34 hm => ?_)
    · refine rx_lv [0, 1] rfl ?_
      exact hj91 _ hm
    refine rx_aload_n C 0 dX1_build_86 rfl ?_
    refine rx_aload_n C 1 dX1_build_87 rfl ?_
    obtain ⟨_, σ_35, hc_36, hm⟩ := rr_bd_some hm
    refine rr_callV (rest := []) (st1 := []) C 1 hll (c_Lev_keepProof l G hG fu v0 m_v0 k_v0 v2 m_v2 k_v2 σ_20 _ hc_36) q_628 q_630 qs_24 q_9 q_631 hd_Lev_keepProof ⟨_, rfl, rfl⟩ (by decide) m_v0 k_v0 ⟨by decide, by decide⟩ rfl rfl (Nat.le_of_ble_eq_true rfl) rfl dX1_build_88 ?_
    refine rx_lv [0, 1] rfl ?_
    exact hj91 _ hm
def f_Lev_build (fu : Nat) (N : Nat → Nat) (v0 : Nat) (v1 : Nat) (v2 : Nat) (σ : rr_M) : Option (Unit × rr_M) :=
    rr_lt (mg_r σ v0 0) fun p_1 =>
    (if rr_ix 0 (N p_1) then rr_lt (mg_r σ p_1 (rr_n 0)) fun p_2 =>
    (if rr_cp 0 0 9 (N v1) (N p_2) then rr_lt (mc_l σ v1 p_2 (rr_n 0) (rr_n 0) (rr_n 9)) fun σ_3 =>
    rr_lt (ms_i σ_3 v0 2 0) fun σ_4 =>
    l_Lev_build_19 fu N v0 v2 fu σ_4 (fun σ_37 =>
    some ((), σ_37)) else none) else none)
theorem c_Lev_build (l : Launch) (G : rr_G) (hG : G.2.2.1.Nodup) (fu : Nat) (v0 : Nat) (m_v0 : v0 ∈ G.2.2.1) (k_v0 : G.2.2.2.1 v0 = 1) (v1 : Nat) (m_v1 : v1 ∈ G.2.2.1) (k_v1 : G.2.2.2.1 v1 = 12) (v2 : Nat) (m_v2 : v2 ∈ G.2.2.1) (k_v2 : G.2.2.2.1 v2 = 7) (σ : rr_M) (σr : rr_M) (hm : f_Lev_build fu G.2.2.2.2 v0 v1 v2 σ = some ((), σr)) : rr_Met l G yX1_build cX1_build 3 none 5 141 [.ref v0, .ref v1, .ref v2] σ σr none := by
  refine rr_enter (lv0 := [(0, .ref v0), (1, .ref v1), (2, .ref v2)]) hp_Lev_build hG (Nat.le_of_ble_eq_true rfl) rfl (fun X hll C => ?_)
  replace C : rr_C X G cX1_build 3 "RootRows$Levels" none 5 141 := C
  unfold f_Lev_build at hm
  refine rx_aload_n C 1 dX1_build_0 rfl ?_
  refine rx_iconst (v := 0) C dX1_build_1 rfl ?_
  refine rx_aload_n C 0 dX1_build_2 rfl ?_
  refine gf_242 C m_v0 k_v0 dX1_build_3 hm (fun p_1 m_p_1 k_p_1 hm => ?_)
  refine rx_iconst (v := 0) C dX1_build_6 rfl ?_
  refine rx_ald16 C m_p_1 k_p_1 dX1_build_7 hm (fun p_2 m_p_2 k_p_2 hm => ?_)
  refine rx_iconst (v := 0) C dX1_build_8 rfl ?_
  refine rx_bipush (v := 9) C dX1_build_9 rfl ?_
  refine rx_copyl (rest := []) C q_538 q_540 q_539 q_14 m_v1 k_v1 m_p_2 k_p_2 (Nat.le_of_ble_eq_true rfl) (Nat.le_of_ble_eq_true rfl) (by decide) dX1_build_11 hm (fun σ_3 hm => ?_)
  refine rx_aload_n C 0 dX1_build_14 rfl ?_
  refine rx_iconst (v := 0) C dX1_build_15 rfl ?_
  refine pf_246 C m_v0 k_v0 dX1_build_16 hm (fun σ_4 hm => ?_)
  refine rx_lv [0, 2] rfl ?_
  refine lw_Lev_build_19 hG hll C v0 m_v0 k_v0 v2 m_v2 k_v2 _ _ _ hm (fun σ_37 hm => ?_)
  exact rx_vret C dX1_build_136 hm
def l_Lev_prove_39 (fu : Nat) (N : Nat → Nat) (v0 : Nat) (v1 : Nat) : Nat → Int32 → rr_M → (rr_M → Option (Unit × rr_M)) → Option (Unit × rr_M)
  | 0, _, _, _ => none
  | n + 1, v2, σ, kk =>
    if (mg_i σ v0 2) ≤ v2 then (kk σ) else
    rr_lt (mg_r σ v0 1) fun p_10 =>
    (if rr_ix v2 (N p_10) then
    rr_lt (ms_i σ v1 3 ((mg_i σ v1 3) + (mg_i σ p_10 (rr_n v2)))) fun σ_11 =>
    rr_lt (mg_r σ_11 v0 1) fun p_12 =>
    (if rr_ix v2 (N p_12) then
    rr_jn (fun (t_13 : Int32) =>
    rr_lt (ms_i σ_11 v1 5 ((mg_i σ_11 v1 5) + t_13)) fun σ_14 =>
    rr_lt (v2 + 1) fun v2_15 =>
    l_Lev_prove_39 fu N v0 v1 n v2_15 σ_14 kk) fun j81 =>
    if (mg_i σ_11 p_12 (rr_n v2)) ≤ 0 then (j81 0) else
    j81 1 else none) else none)
theorem lw_Lev_prove_39 {X : rr_X} {G : rr_G} {l : Launch} {fu : Nat} (hG : G.2.2.1.Nodup) (hll : X.2.1 = l) (C : rr_C X G cX1_prove 3 "RootRows$Levels" none 6 163) {σr : rr_M} (v0 : Nat) (m_v0 : v0 ∈ G.2.2.1) (k_v0 : G.2.2.2.1 v0 = 1) (v1 : Nat) (m_v1 : v1 ∈ G.2.2.1) (k_v1 : G.2.2.2.1 v1 = 7) : ∀ (n : Nat) (v2 : Int32) (σ : rr_M) (K : rr_M → Option (Unit × rr_M)), l_Lev_prove_39 fu G.2.2.2.2 v0 v1 n v2 σ K = some ((), σr) → (∀ (σ1 : rr_M), K σ1 = some ((), σr) → rr_J X G 3 (rr_E X G σr none) σ1 91 [(0, .ref v0), (1, .ref v1)] []) → rr_J X G 3 (rr_E X G σr none) σ 39 [(0, .ref v0), (1, .ref v1), (2, .int v2)] [] := by
  intro n
  induction n with
  | zero =>
    intro v2 σ K hm
    cases hm
  | succ n ih =>
    intro v2 σ K hm hk
    unfold l_Lev_prove_39 at hm
    refine rx_iload_n C 2 dX1_prove_39 rfl ?_
    refine rx_aload_n C 0 dX1_prove_40 rfl ?_
    refine gf_246 C m_v0 k_v0 dX1_prove_41 ?_
    refine rx_icmp_ge (tgt := 91) C dX1_prove_44 (by decide) hm (fun h_9 hm => ?_) (fun h_9 hm => ?_)
    · refine rx_lv [0, 1] rfl ?_
      exact hk _ hm
    refine rx_aload_n C 1 dX1_prove_47 rfl ?_
    refine rx_dup C dX1_prove_48 rfl ?_
    refine gf_40 C m_v1 k_v1 dX1_prove_49 ?_
    refine rx_aload_n C 0 dX1_prove_52 rfl ?_
    refine gf_244 C m_v0 k_v0 dX1_prove_53 hm (fun p_10 m_p_10 k_p_10 hm => ?_)
    refine rx_iload_n C 2 dX1_prove_56 rfl ?_
    refine rx_iald C m_p_10 k_p_10 dX1_prove_57 hm (fun hm => ?_)
    refine rx_iadd C dX1_prove_58 ?_
    refine pf_40 C m_v1 k_v1 dX1_prove_59 hm (fun σ_11 hm => ?_)
    refine rx_aload_n C 1 dX1_prove_62 rfl ?_
    refine rx_dup C dX1_prove_63 rfl ?_
    refine gf_46 C m_v1 k_v1 dX1_prove_64 ?_
    refine rx_aload_n C 0 dX1_prove_67 rfl ?_
    refine gf_244 C m_v0 k_v0 dX1_prove_68 hm (fun p_12 m_p_12 k_p_12 hm => ?_)
    refine rx_iload_n C 2 dX1_prove_71 rfl ?_
    refine rx_iald C m_p_12 k_p_12 dX1_prove_72 hm (fun hm => ?_)
    refine rr_jn1 hm (fun j81 ej81 hm => ?_)
    have hj81 : ∀ (t_13 : Int32), j81 t_13 = some ((), σr) → rr_J X G 3 (rr_E X G σr none) σ_11 81 [(0, .ref v0), (1, .ref v1), (2, .int v2)] [.int t_13, .int (mg_i σ_11 v1 5), .ref v1] := by
      intro t_13 hm
      replace hm := ej81 _ hm
      refine rx_iadd C dX1_prove_81 ?_
      refine pf_46 C m_v1 k_v1 dX1_prove_82 hm (fun σ_14 hm => ?_)
      refine rx_iinc (d := 1) (lv1 := fun v => [(2, .int v), (0, .ref v0), (1, .ref v1)]) C 2 dX1_prove_85 hm rfl rfl (by decide) (fun _ => rfl) (fun v2_15 hm => ?_)
      refine rx_goto (tgt := 39) C dX1_prove_88 (by decide) ?_
      refine rx_lv [1, 2, 0] rfl ?_
      exact ih _ _ _ hm hk
    refine rx_if_le (tgt := 80) C dX1_prove_73 (by decide) hm (fun h_16 hm => ?_) (fun h_16 hm => ?_)
    · refine rx_iconst (v := 0) C dX1_prove_80 rfl ?_
      refine rx_lv [0, 1, 2] rfl ?_
      exact hj81 _ hm
    refine rx_iconst (v := 1) C dX1_prove_76 rfl ?_
    refine rx_goto (tgt := 81) C dX1_prove_77 (by decide) ?_
    refine rx_lv [0, 1, 2] rfl ?_
    exact hj81 _ hm
def f_Lev_prove (fu : Nat) (N : Nat → Nat) (v0 : Nat) (v1 : Nat) (σ : rr_M) : Option (Unit × rr_M) :=
    if (mg_i σ v1 1) = 0 then (rr_lt (ms_i σ v1 6 0) fun σ_2 =>
    rr_lt (ms_i σ_2 v1 3 0) fun σ_3 =>
    rr_lt (ms_i σ_3 v1 4 0) fun σ_4 =>
    rr_lt (ms_i σ_4 v1 5 0) fun σ_5 =>
    rr_lt (mg_r σ_5 v1 0) fun p_6 =>
    rr_bd (f_Lev_build fu N v0 p_6 v1 σ_5) fun _ σ_7 =>
    l_Lev_prove_39 fu N v0 v1 fu 0 σ_7 (fun σ_17 =>
    rr_jn (fun (t_18 : Int32) =>
    rr_lt (ms_i σ_17 v1 4 t_18) fun σ_19 =>
    rr_lt (mg_r σ_19 v1 0) fun p_20 =>
    Option.bind (f_Num_degreeOf fu N p_20 σ_19) fun r_21 =>
    rr_jn (fun (t_23 : Int32) =>
    (if rr_b1 t_23 then rr_lt (ms_i σ_19 v1 2 t_23) fun σ_24 =>
    (if rr_b1 1 then rr_lt (ms_i σ_24 v1 1 1) fun σ_25 =>
    some ((), σ_25) else none) else none)) fun j138 =>
    rr_jn (fun (_ : Unit) =>
    j138 0) fun j137 =>
    if r_21 < 0 then (j137 ()) else
    if (mg_i σ_19 v1 3) = r_21 then (j138 1) else
    j137 ()) fun j109 =>
    if (mg_i σ_17 v0 2) ≤ 0 then (j109 0) else
    rr_lt (mg_r σ_17 v0 1) fun p_29 =>
    (if rr_ix 0 (N p_29) then
    j109 (mg_i σ_17 p_29 (rr_n 0)) else none))) else
    some ((), σ)
theorem c_Lev_prove (l : Launch) (G : rr_G) (hG : G.2.2.1.Nodup) (fu : Nat) (v0 : Nat) (m_v0 : v0 ∈ G.2.2.1) (k_v0 : G.2.2.2.1 v0 = 1) (v1 : Nat) (m_v1 : v1 ∈ G.2.2.1) (k_v1 : G.2.2.2.1 v1 = 7) (σ : rr_M) (σr : rr_M) (hm : f_Lev_prove fu G.2.2.2.2 v0 v1 σ = some ((), σr)) : rr_Met l G yX1_prove cX1_prove 3 none 6 163 [.ref v0, .ref v1] σ σr none := by
  refine rr_enter (lv0 := [(0, .ref v0), (1, .ref v1)]) hp_Lev_prove hG (Nat.le_of_ble_eq_true rfl) rfl (fun X hll C => ?_)
  replace C : rr_C X G cX1_prove 3 "RootRows$Levels" none 6 163 := C
  unfold f_Lev_prove at hm
  refine rx_aload_n C 1 dX1_prove_0 rfl ?_
  refine gf_36 C m_v1 k_v1 dX1_prove_1 ?_
  refine rx_if_eq (tgt := 8) C dX1_prove_4 (by decide) hm (fun h_1 hm => ?_) (fun h_1 hm => ?_)
  · refine rx_aload_n C 1 dX1_prove_8 rfl ?_
    refine rx_iconst (v := 0) C dX1_prove_9 rfl ?_
    refine pf_49 C m_v1 k_v1 dX1_prove_10 hm (fun σ_2 hm => ?_)
    refine rx_aload_n C 1 dX1_prove_13 rfl ?_
    refine rx_iconst (v := 0) C dX1_prove_14 rfl ?_
    refine pf_40 C m_v1 k_v1 dX1_prove_15 hm (fun σ_3 hm => ?_)
    refine rx_aload_n C 1 dX1_prove_18 rfl ?_
    refine rx_iconst (v := 0) C dX1_prove_19 rfl ?_
    refine pf_43 C m_v1 k_v1 dX1_prove_20 hm (fun σ_4 hm => ?_)
    refine rx_aload_n C 1 dX1_prove_23 rfl ?_
    refine rx_iconst (v := 0) C dX1_prove_24 rfl ?_
    refine pf_46 C m_v1 k_v1 dX1_prove_25 hm (fun σ_5 hm => ?_)
    refine rx_aload_n C 0 dX1_prove_28 rfl ?_
    refine rx_aload_n C 1 dX1_prove_29 rfl ?_
    refine gf_33 C m_v1 k_v1 dX1_prove_30 hm (fun p_6 m_p_6 k_p_6 hm => ?_)
    refine rx_aload_n C 1 dX1_prove_33 rfl ?_
    obtain ⟨_, σ_7, hc_8, hm⟩ := rr_bd_some hm
    refine rr_callV (rest := []) (st1 := []) C 1 hll (c_Lev_build l G hG fu v0 m_v0 k_v0 p_6 m_p_6 k_p_6 v1 m_v1 k_v1 σ_5 _ hc_8) q_534 q_535 q_536 q_9 q_537 hd_Lev_build ⟨_, rfl, rfl⟩ (by decide) m_v0 k_v0 ⟨by decide, by decide⟩ rfl rfl (Nat.le_of_ble_eq_true rfl) rfl dX1_prove_34 ?_
    refine rx_iconst (v := 0) C dX1_prove_37 rfl ?_
    refine rx_istore_n (lv1 := [(2, .int 0), (0, .ref v0), (1, .ref v1)]) C dX1_prove_38 (by decide) rfl ?_
    refine rx_lv [1, 2, 0] rfl ?_
    refine lw_Lev_prove_39 hG hll C v0 m_v0 k_v0 v1 m_v1 k_v1 _ _ _ _ hm (fun σ_17 hm => ?_)
    refine rx_aload_n C 1 dX1_prove_91 rfl ?_
    refine rx_aload_n C 0 dX1_prove_92 rfl ?_
    refine gf_246 C m_v0 k_v0 dX1_prove_93 ?_
    refine rr_jn1 hm (fun j109 ej109 hm => ?_)
    have hj109 : ∀ (t_18 : Int32), j109 t_18 = some ((), σr) → rr_J X G 3 (rr_E X G σr none) σ_17 109 [(1, .ref v1)] [.int t_18, .ref v1] := by
      intro t_18 hm
      replace hm := ej109 _ hm
      refine pf_43 C m_v1 k_v1 dX1_prove_109 hm (fun σ_19 hm => ?_)
      refine rx_aload_n C 0 dX1_prove_112 rfl ?_
      refine gf_33 C m_v1 k_v1 dX1_prove_113 hm (fun p_20 m_p_20 k_p_20 hm => ?_)
      obtain ⟨r_21, hc_22, hm⟩ := rr_b0_some hm
      refine rr_callS (rest := []) (st1 := [.int r_21]) C hll (c_Num_degreeOf l G hG fu p_20 m_p_20 k_p_20 σ_19 _ hc_22) q_541 q_487 q_12 q_488 hd_Num_degreeOf ⟨by decide, by decide⟩ rfl rfl (Nat.le_of_ble_eq_true rfl) rfl dX1_prove_116 ?_
      refine rx_istore_n (lv1 := [(2, .int r_21), (1, .ref v1)]) C dX1_prove_119 (by decide) rfl ?_
      refine rx_aload_n C 1 dX1_prove_120 rfl ?_
      refine rx_iload_n C 0 dX1_prove_121 rfl ?_
      refine rr_jn1 hm (fun j138 ej138 hm => ?_)
      have hj138 : ∀ (t_23 : Int32), j138 t_23 = some ((), σr) → rr_J X G 3 (rr_E X G σr none) σ_19 138 [(1, .ref v1)] [.int t_23, .ref v1] := by
        intro t_23 hm
        replace hm := ej138 _ hm
        refine pf_38 C m_v1 k_v1 dX1_prove_138 hm (fun σ_24 hm => ?_)
        refine rx_aload_n C 0 dX1_prove_141 rfl ?_
        refine rx_iconst (v := 1) C dX1_prove_142 rfl ?_
        refine pf_36 C m_v1 k_v1 dX1_prove_143 hm (fun σ_25 hm => ?_)
        exact rx_vret C dX1_prove_146 hm
      refine rr_jn1 hm (fun j137 ej137 hm => ?_)
      have hj137 : ∀ (uu : Unit), j137 uu = some ((), σr) → rr_J X G 3 (rr_E X G σr none) σ_19 137 [(1, .ref v1)] [.ref v1] := by
        intro uu hm
        replace hm := ej137 _ hm
        refine rx_iconst (v := 0) C dX1_prove_137 rfl ?_
        refine rx_lv [0] rfl ?_
        exact hj138 _ hm
      refine rx_if_lt (tgt := 137) C dX1_prove_122 (by decide) hm (fun h_26 hm => ?_) (fun h_26 hm => ?_)
      · refine rx_lv [1] rfl ?_
        exact hj137 () hm
      refine rx_aload_n C 1 dX1_prove_125 rfl ?_
      refine gf_40 C m_v1 k_v1 dX1_prove_126 ?_
      refine rx_iload_n C 0 dX1_prove_129 rfl ?_
      refine rx_icmp_ne (tgt := 137) C dX1_prove_130 (by decide) hm (fun h_27 hm => ?_) (fun h_27 hm => ?_)
      · refine rx_lv [1] rfl ?_
        exact hj137 () hm
      refine rx_iconst (v := 1) C dX1_prove_133 rfl ?_
      refine rx_goto (tgt := 138) C dX1_prove_134 (by decide) ?_
      refine rx_lv [1] rfl ?_
      exact hj138 _ hm
    refine rx_if_le (tgt := 108) C dX1_prove_96 (by decide) hm (fun h_28 hm => ?_) (fun h_28 hm => ?_)
    · refine rx_iconst (v := 0) C dX1_prove_108 rfl ?_
      refine rx_lv [1] rfl ?_
      exact hj109 _ hm
    refine rx_aload_n C 0 dX1_prove_99 rfl ?_
    refine gf_244 C m_v0 k_v0 dX1_prove_100 hm (fun p_29 m_p_29 k_p_29 hm => ?_)
    refine rx_iconst (v := 0) C dX1_prove_103 rfl ?_
    refine rx_iald C m_p_29 k_p_29 dX1_prove_104 hm (fun hm => ?_)
    refine rx_goto (tgt := 109) C dX1_prove_105 (by decide) ?_
    refine rx_lv [1] rfl ?_
    exact hj109 _ hm
  exact rx_vret C dX1_prove_7 hm
def l_Pla_makeSimple_2 (fu : Nat) (N : Nat → Nat) (v0 : Nat) : Nat → Int32 → rr_M → (rr_M → Option (Unit × rr_M)) → Option (Unit × rr_M)
  | 0, _, _, _ => none
  | n + 1, v1, σ, kk =>
    rr_lt (mg_r σ v0 0) fun p_1 =>
    if (mg_i σ p_1 2) ≤ v1 then (kk σ) else
    if 8 ≤ v1 then (kk σ) else
    rr_lt (mg_r σ v0 0) fun p_4 =>
    rr_lt (mg_r σ p_4 0) fun p_5 =>
    (if rr_ix v1 (N p_5) then rr_lt (mg_r σ p_5 (rr_n v1)) fun p_6 =>
    rr_lt (mg_r σ v0 4) fun p_7 =>
    (if rr_cp 0 0 9 (N p_6) (N p_7) then rr_lt (mc_l σ p_6 p_7 (rr_n 0) (rr_n 0) (rr_n 9)) fun σ_8 =>
    rr_lt (mg_r σ_8 v0 3) fun p_9 =>
    (if rr_ix v1 (N p_9) then rr_lt (mg_r σ_8 p_9 (rr_n v1)) fun p_10 =>
    rr_lt (mg_r σ_8 v0 4) fun p_11 =>
    rr_lt (mg_r σ_8 v0 0) fun p_12 =>
    rr_lt (mg_r σ_8 p_12 0) fun p_13 =>
    (if rr_ix (v1 + 1) (N p_13) then rr_lt (mg_r σ_8 p_13 (rr_n (v1 + 1))) fun p_14 =>
    rr_bd (f_Num_setQuotient fu N p_10 p_11 p_14 σ_8) fun _ σ_15 =>
    rr_lt (v1 + 1) fun v1_17 =>
    l_Pla_makeSimple_2 fu N v0 n v1_17 σ_15 kk else none) else none) else none) else none)
theorem lw_Pla_makeSimple_2 {X : rr_X} {G : rr_G} {l : Launch} {fu : Nat} (hG : G.2.2.1.Nodup) (hll : X.2.1 = l) (C : rr_C X G cX4_makeSimple 2 "RootRows$Placer" none 5 141) {σr : rr_M} (v0 : Nat) (m_v0 : v0 ∈ G.2.2.1) (k_v0 : G.2.2.2.1 v0 = 3) : ∀ (n : Nat) (v1 : Int32) (σ : rr_M) (K : rr_M → Option (Unit × rr_M)), l_Pla_makeSimple_2 fu G.2.2.2.2 v0 n v1 σ K = some ((), σr) → (∀ (σ1 : rr_M), K σ1 = some ((), σr) → rr_J X G 2 (rr_E X G σr none) σ1 69 [(0, .ref v0)] []) → rr_J X G 2 (rr_E X G σr none) σ 2 [(0, .ref v0), (1, .int v1)] [] := by
  intro n
  induction n with
  | zero =>
    intro v1 σ K hm
    cases hm
  | succ n ih =>
    intro v1 σ K hm hk
    unfold l_Pla_makeSimple_2 at hm
    refine rx_iload_n C 1 dX4_makeSimple_2 rfl ?_
    refine rx_aload_n C 0 dX4_makeSimple_3 rfl ?_
    refine gf_281 C m_v0 k_v0 dX4_makeSimple_4 hm (fun p_1 m_p_1 k_p_1 hm => ?_)
    refine gf_247 C m_p_1 k_p_1 dX4_makeSimple_7 ?_
    refine rx_icmp_ge (tgt := 69) C dX4_makeSimple_10 (by decide) hm (fun h_2 hm => ?_) (fun h_2 hm => ?_)
    · refine rx_lv [0] rfl ?_
      exact hk _ hm
    refine rx_iload_n C 1 dX4_makeSimple_13 rfl ?_
    refine rx_bipush (v := 8) C dX4_makeSimple_14 rfl ?_
    refine rx_icmp_ge (tgt := 69) C dX4_makeSimple_16 (by decide) hm (fun h_3 hm => ?_) (fun h_3 hm => ?_)
    · refine rx_lv [0] rfl ?_
      exact hk _ hm
    refine rx_aload_n C 0 dX4_makeSimple_19 rfl ?_
    refine gf_281 C m_v0 k_v0 dX4_makeSimple_20 hm (fun p_4 m_p_4 k_p_4 hm => ?_)
    refine gf_243 C m_p_4 k_p_4 dX4_makeSimple_23 hm (fun p_5 m_p_5 k_p_5 hm => ?_)
    refine rx_iload_n C 1 dX4_makeSimple_26 rfl ?_
    refine rx_ald16 C m_p_5 k_p_5 dX4_makeSimple_27 hm (fun p_6 m_p_6 k_p_6 hm => ?_)
    refine rx_iconst (v := 0) C dX4_makeSimple_28 rfl ?_
    refine rx_aload_n C 0 dX4_makeSimple_29 rfl ?_
    refine gf_285 C m_v0 k_v0 dX4_makeSimple_30 hm (fun p_7 m_p_7 k_p_7 hm => ?_)
    refine rx_iconst (v := 0) C dX4_makeSimple_33 rfl ?_
    refine rx_bipush (v := 9) C dX4_makeSimple_34 rfl ?_
    refine rx_copyl (rest := []) C q_680 q_540 q_539 q_14 m_p_6 k_p_6 m_p_7 k_p_7 (Nat.le_of_ble_eq_true rfl) (Nat.le_of_ble_eq_true rfl) (by decide) dX4_makeSimple_36 hm (fun σ_8 hm => ?_)
    refine rx_aload_n C 0 dX4_makeSimple_39 rfl ?_
    refine gf_284 C m_v0 k_v0 dX4_makeSimple_40 hm (fun p_9 m_p_9 k_p_9 hm => ?_)
    refine rx_iload_n C 1 dX4_makeSimple_43 rfl ?_
    refine rx_ald16 C m_p_9 k_p_9 dX4_makeSimple_44 hm (fun p_10 m_p_10 k_p_10 hm => ?_)
    refine rx_aload_n C 0 dX4_makeSimple_45 rfl ?_
    refine gf_285 C m_v0 k_v0 dX4_makeSimple_46 hm (fun p_11 m_p_11 k_p_11 hm => ?_)
    refine rx_aload_n C 0 dX4_makeSimple_49 rfl ?_
    refine gf_281 C m_v0 k_v0 dX4_makeSimple_50 hm (fun p_12 m_p_12 k_p_12 hm => ?_)
    refine gf_243 C m_p_12 k_p_12 dX4_makeSimple_53 hm (fun p_13 m_p_13 k_p_13 hm => ?_)
    refine rx_iload_n C 1 dX4_makeSimple_56 rfl ?_
    refine rx_iconst (v := 1) C dX4_makeSimple_57 rfl ?_
    refine rx_iadd C dX4_makeSimple_58 ?_
    refine rx_ald16 C m_p_13 k_p_13 dX4_makeSimple_59 hm (fun p_14 m_p_14 k_p_14 hm => ?_)
    obtain ⟨_, σ_15, hc_16, hm⟩ := rr_bd_some hm
    refine rr_callS (rest := []) (st1 := []) C hll (c_Num_setQuotient l G hG fu p_10 m_p_10 k_p_10 p_11 m_p_11 k_p_11 p_14 m_p_14 k_p_14 σ_8 _ hc_16) q_681 q_682 q_12 q_683 hd_Num_setQuotient ⟨by decide, by decide⟩ rfl rfl (Nat.le_of_ble_eq_true rfl) rfl dX4_makeSimple_60 ?_
    refine rx_iinc (d := 1) (lv1 := fun v => [(1, .int v), (0, .ref v0)]) C 1 dX4_makeSimple_63 hm rfl rfl (by decide) (fun _ => rfl) (fun v1_17 hm => ?_)
    refine rx_goto (tgt := 2) C dX4_makeSimple_66 (by decide) ?_
    refine rx_lv [1, 0] rfl ?_
    exact ih _ _ _ hm hk
def f_Pla_makeSimple (fu : Nat) (N : Nat → Nat) (v0 : Nat) (σ : rr_M) : Option (Unit × rr_M) :=
    l_Pla_makeSimple_2 fu N v0 fu 0 σ (fun σ_18 =>
    rr_lt (mg_r σ_18 v0 4) fun p_19 =>
    rr_lt (mg_r σ_18 v0 3) fun p_20 =>
    (if rr_ix 0 (N p_20) then rr_lt (mg_r σ_18 p_20 (rr_n 0)) fun p_21 =>
    rr_bd (f_Num_setSlope fu N p_19 p_21 σ_18) fun _ σ_22 =>
    rr_lt (mg_r σ_22 v0 1) fun p_24 =>
    rr_lt (mg_r σ_22 v0 3) fun p_25 =>
    (if rr_ix 0 (N p_25) then rr_lt (mg_r σ_22 p_25 (rr_n 0)) fun p_26 =>
    rr_lt (mg_r σ_22 v0 4) fun p_27 =>
    rr_bd (f_Seq_run fu N p_24 p_26 p_27 σ_22) fun _ σ_28 =>
    rr_lt (mg_r σ_28 v0 1) fun p_30 =>
    Option.bind (f_Seq_changesBelow fu N p_30 σ_28) fun r_31 =>
    rr_lt (ms_i σ_28 v0 6 r_31) fun σ_33 =>
    some ((), σ_33) else none) else none))
theorem c_Pla_makeSimple (l : Launch) (G : rr_G) (hG : G.2.2.1.Nodup) (fu : Nat) (v0 : Nat) (m_v0 : v0 ∈ G.2.2.1) (k_v0 : G.2.2.2.1 v0 = 3) (σ : rr_M) (σr : rr_M) (hm : f_Pla_makeSimple fu G.2.2.2.2 v0 σ = some ((), σr)) : rr_Met l G yX4_makeSimple cX4_makeSimple 2 none 5 141 [.ref v0] σ σr none := by
  refine rr_enter (lv0 := [(0, .ref v0)]) hp_Pla_makeSimple hG (Nat.le_of_ble_eq_true rfl) rfl (fun X hll C => ?_)
  replace C : rr_C X G cX4_makeSimple 2 "RootRows$Placer" none 5 141 := C
  unfold f_Pla_makeSimple at hm
  refine rx_iconst (v := 0) C dX4_makeSimple_0 rfl ?_
  refine rx_istore_n (lv1 := [(1, .int 0), (0, .ref v0)]) C dX4_makeSimple_1 (by decide) rfl ?_
  refine rx_lv [1, 0] rfl ?_
  refine lw_Pla_makeSimple_2 hG hll C v0 m_v0 k_v0 _ _ _ _ hm (fun σ_18 hm => ?_)
  refine rx_aload_n C 0 dX4_makeSimple_69 rfl ?_
  refine gf_285 C m_v0 k_v0 dX4_makeSimple_70 hm (fun p_19 m_p_19 k_p_19 hm => ?_)
  refine rx_aload_n C 0 dX4_makeSimple_73 rfl ?_
  refine gf_284 C m_v0 k_v0 dX4_makeSimple_74 hm (fun p_20 m_p_20 k_p_20 hm => ?_)
  refine rx_iconst (v := 0) C dX4_makeSimple_77 rfl ?_
  refine rx_ald16 C m_p_20 k_p_20 dX4_makeSimple_78 hm (fun p_21 m_p_21 k_p_21 hm => ?_)
  obtain ⟨_, σ_22, hc_23, hm⟩ := rr_bd_some hm
  refine rr_callS (rest := []) (st1 := []) C hll (c_Num_setSlope l G hG fu p_19 m_p_19 k_p_19 p_21 m_p_21 k_p_21 σ_18 _ hc_23) q_685 q_543 q_12 q_544 hd_Num_setSlope ⟨by decide, by decide⟩ rfl rfl (Nat.le_of_ble_eq_true rfl) rfl dX4_makeSimple_79 ?_
  refine rx_aload_n C 0 dX4_makeSimple_82 rfl ?_
  refine gf_282 C m_v0 k_v0 dX4_makeSimple_83 hm (fun p_24 m_p_24 k_p_24 hm => ?_)
  refine rx_aload_n C 0 dX4_makeSimple_86 rfl ?_
  refine gf_284 C m_v0 k_v0 dX4_makeSimple_87 hm (fun p_25 m_p_25 k_p_25 hm => ?_)
  refine rx_iconst (v := 0) C dX4_makeSimple_90 rfl ?_
  refine rx_ald16 C m_p_25 k_p_25 dX4_makeSimple_91 hm (fun p_26 m_p_26 k_p_26 hm => ?_)
  refine rx_aload_n C 0 dX4_makeSimple_92 rfl ?_
  refine gf_285 C m_v0 k_v0 dX4_makeSimple_93 hm (fun p_27 m_p_27 k_p_27 hm => ?_)
  obtain ⟨_, σ_28, hc_29, hm⟩ := rr_bd_some hm
  refine rr_callV (rest := []) (st1 := []) C 5 hll (c_Seq_run l G hG fu p_24 m_p_24 k_p_24 p_26 m_p_26 k_p_26 p_27 m_p_27 k_p_27 σ_22 _ hc_29) q_686 q_546 q_547 q_5 q_548 hd_Seq_run ⟨_, rfl, rfl⟩ (by decide) m_p_24 k_p_24 ⟨by decide, by decide⟩ rfl rfl (Nat.le_of_ble_eq_true rfl) rfl dX4_makeSimple_96 ?_
  refine rx_aload_n C 0 dX4_makeSimple_99 rfl ?_
  refine rx_aload_n C 0 dX4_makeSimple_100 rfl ?_
  refine gf_282 C m_v0 k_v0 dX4_makeSimple_101 hm (fun p_30 m_p_30 k_p_30 hm => ?_)
  obtain ⟨r_31, hc_32, hm⟩ := rr_b0_some hm
  refine rr_callV (rest := [.ref v0]) (st1 := [.int r_31, .ref v0]) C 5 hll (c_Seq_changesBelow l G hG fu p_30 m_p_30 k_p_30 σ_28 _ hc_32) q_687 q_637 q_638 q_5 q_639 hd_Seq_changesBelow ⟨_, rfl, rfl⟩ (by decide) m_p_30 k_p_30 ⟨by decide, by decide⟩ rfl rfl (Nat.le_of_ble_eq_true rfl) rfl dX4_makeSimple_104 ?_
  refine pf_287 C m_v0 k_v0 dX4_makeSimple_107 hm (fun σ_33 hm => ?_)
  exact rx_vret C dX4_makeSimple_110 hm
def f_Pla_signOfAll (fu : Nat) (N : Nat → Nat) (v0 : Nat) (σ : rr_M) : Option (Int32 × rr_M) :=
    rr_lt (mg_r σ v0 2) fun p_1 =>
    rr_lt (mg_r σ v0 1) fun p_2 =>
    rr_lt (mg_r σ p_2 0) fun p_3 =>
    rr_lt (mg_r σ v0 1) fun p_4 =>
    rr_lt (mg_r σ p_4 1) fun p_5 =>
    (if rr_ix 0 (N p_5) then
    rr_bd (f_Poi_signAmong fu N p_1 p_3 0 (mg_i σ p_5 (rr_n 0)) σ) fun r_6 σ_7 =>
    some (r_6, σ_7) else none)
theorem c_Pla_signOfAll (l : Launch) (G : rr_G) (hG : G.2.2.1.Nodup) (fu : Nat) (v0 : Nat) (m_v0 : v0 ∈ G.2.2.1) (k_v0 : G.2.2.2.1 v0 = 3) (σ : rr_M) (r : Int32) (σr : rr_M) (hm : f_Pla_signOfAll fu G.2.2.2.2 v0 σ = some (r, σr)) : rr_Met l G yX4_signOfAll cX4_signOfAll 1 (some .int) 3 115 [.ref v0] σ σr (some (.int r)) := by
  refine rr_enter (lv0 := [(0, .ref v0)]) hp_Pla_signOfAll hG (Nat.le_of_ble_eq_true rfl) rfl (fun X hll C => ?_)
  replace C : rr_C X G cX4_signOfAll 1 "RootRows$Placer" (some .int) 3 115 := C
  unfold f_Pla_signOfAll at hm
  refine rx_aload_n C 0 dX4_signOfAll_0 rfl ?_
  refine gf_283 C m_v0 k_v0 dX4_signOfAll_1 hm (fun p_1 m_p_1 k_p_1 hm => ?_)
  refine rx_aload_n C 0 dX4_signOfAll_4 rfl ?_
  refine gf_282 C m_v0 k_v0 dX4_signOfAll_5 hm (fun p_2 m_p_2 k_p_2 hm => ?_)
  refine gf_166 C m_p_2 k_p_2 dX4_signOfAll_8 hm (fun p_3 m_p_3 k_p_3 hm => ?_)
  refine rx_iconst (v := 0) C dX4_signOfAll_11 rfl ?_
  refine rx_aload_n C 0 dX4_signOfAll_12 rfl ?_
  refine gf_282 C m_v0 k_v0 dX4_signOfAll_13 hm (fun p_4 m_p_4 k_p_4 hm => ?_)
  refine gf_169 C m_p_4 k_p_4 dX4_signOfAll_16 hm (fun p_5 m_p_5 k_p_5 hm => ?_)
  refine rx_iconst (v := 0) C dX4_signOfAll_19 rfl ?_
  refine rx_iald C m_p_5 k_p_5 dX4_signOfAll_20 hm (fun hm => ?_)
  obtain ⟨r_6, σ_7, hc_8, hm⟩ := rr_bd_some hm
  refine rr_callV (rest := []) (st1 := [.int r_6]) C 4 hll (c_Poi_signAmong l G hG fu p_1 m_p_1 k_p_1 p_3 m_p_3 k_p_3 0 (mg_i σ p_5 (rr_n 0)) σ _ _ hc_8) q_710 q_711 q_712 q_8 q_713 hd_Poi_signAmong ⟨_, rfl, rfl⟩ (by decide) m_p_1 k_p_1 ⟨by decide, by decide⟩ rfl rfl (Nat.le_of_ble_eq_true rfl) rfl dX4_signOfAll_21 ?_
  exact rx_iret C dX4_signOfAll_24 hm
def l_Pla_narrow_44 (fu : Nat) (N : Nat → Nat) (v0 : Nat) (v1 : Int32) (v3 : Int32) : Nat → Int32 → rr_M → (rr_M → Option (Unit × rr_M)) → Option (Unit × rr_M)
  | 0, _, _, _ => none
  | n + 1, v4, σ, kk =>
    if 40 < v4 then (kk σ) else
    rr_lt (mg_r σ v0 8) fun p_5 =>
    (if rr_ix v1 (N p_5) then
    rr_lt (mg_r σ v0 7) fun p_6 =>
    (if rr_ix v1 (N p_6) then
    if 1 < ((mg_l σ p_5 (rr_n v1)) - (mg_l σ p_6 (rr_n v1))) then (rr_lt (mg_r σ v0 7) fun p_8 =>
    (if rr_ix v1 (N p_8) then
    rr_lt (mg_r σ v0 8) fun p_9 =>
    (if rr_ix v1 (N p_9) then
    rr_lt (((mg_l σ p_8 (rr_n v1)) + (mg_l σ p_9 (rr_n v1))) >>> ((1 : Int32).toInt64 &&& 63)) fun v5_10 =>
    rr_lt (mg_r σ v0 2) fun p_11 =>
    rr_bd (f_Poi_move fu N p_11 v5_10 12 σ) fun _ σ_12 =>
    rr_bd (f_Pla_signOfAll fu N v0 σ_12) fun r_14 σ_15 =>
    rr_jn (fun (σ_17 : rr_M) =>
    rr_lt (v4 + 1) fun v4_18 =>
    l_Pla_narrow_44 fu N v0 v1 v3 n v4_18 σ_17 kk) fun j125 =>
    if r_14 = v3 then (rr_lt (mg_r σ_15 v0 7) fun p_22 =>
    (if rr_ix v1 (N p_22) then rr_lt (ms_l σ_15 p_22 (rr_n v1) v5_10) fun σ_23 =>
    j125 σ_23 else none)) else
    rr_lt (mg_r σ_15 v0 8) fun p_20 =>
    (if rr_ix v1 (N p_20) then rr_lt (ms_l σ_15 p_20 (rr_n v1) v5_10) fun σ_21 =>
    j125 σ_21 else none) else none) else none)) else
    some ((), σ) else none) else none)
theorem lw_Pla_narrow_44 {X : rr_X} {G : rr_G} {l : Launch} {fu : Nat} (hG : G.2.2.1.Nodup) (hll : X.2.1 = l) (C : rr_C X G cX4_narrow 7 "RootRows$Placer" none 5 135) {σr : rr_M} (v0 : Nat) (m_v0 : v0 ∈ G.2.2.1) (k_v0 : G.2.2.2.1 v0 = 3) (v1 : Int32) (v3 : Int32) : ∀ (n : Nat) (v4 : Int32) (σ : rr_M) (K : rr_M → Option (Unit × rr_M)), l_Pla_narrow_44 fu G.2.2.2.2 v0 v1 v3 n v4 σ K = some ((), σr) → (∀ (σ1 : rr_M), K σ1 = some ((), σr) → rr_J X G 7 (rr_E X G σr none) σ1 131 [] []) → rr_J X G 7 (rr_E X G σr none) σ 44 [(0, .ref v0), (1, .int v1), (3, .int v3), (4, .int v4)] [] := by
  intro n
  induction n with
  | zero =>
    intro v4 σ K hm
    cases hm
  | succ n ih =>
    intro v4 σ K hm hk
    unfold l_Pla_narrow_44 at hm
    refine rx_iload C 3 dX4_narrow_44 rfl ?_
    refine rx_bipush (v := 40) C dX4_narrow_46 rfl ?_
    refine rx_icmp_gt (tgt := 131) C dX4_narrow_48 (by decide) hm (fun h_4 hm => ?_) (fun h_4 hm => ?_)
    · refine rx_lv [] rfl ?_
      exact hk _ hm
    refine rx_aload_n C 0 dX4_narrow_51 rfl ?_
    refine gf_289 C m_v0 k_v0 dX4_narrow_52 hm (fun p_5 m_p_5 k_p_5 hm => ?_)
    refine rx_iload_n C 1 dX4_narrow_55 rfl ?_
    refine rx_lald C m_p_5 k_p_5 dX4_narrow_56 hm (fun hm => ?_)
    refine rx_aload_n C 0 dX4_narrow_57 rfl ?_
    refine gf_288 C m_v0 k_v0 dX4_narrow_58 hm (fun p_6 m_p_6 k_p_6 hm => ?_)
    refine rx_iload_n C 1 dX4_narrow_61 rfl ?_
    refine rx_lald C m_p_6 k_p_6 dX4_narrow_62 hm (fun hm => ?_)
    refine rx_lsub C dX4_narrow_63 ?_
    refine rx_lconst (v := 1) C dX4_narrow_64 rfl ?_
    refine rx_lcmp_gt (tgt := 70) C dX4_narrow_65 dX4_narrow_66 (by decide) hm (fun h_7 hm => ?_) (fun h_7 hm => ?_)
    · refine rx_aload_n C 0 dX4_narrow_70 rfl ?_
      refine gf_288 C m_v0 k_v0 dX4_narrow_71 hm (fun p_8 m_p_8 k_p_8 hm => ?_)
      refine rx_iload_n C 1 dX4_narrow_74 rfl ?_
      refine rx_lald C m_p_8 k_p_8 dX4_narrow_75 hm (fun hm => ?_)
      refine rx_aload_n C 0 dX4_narrow_76 rfl ?_
      refine gf_289 C m_v0 k_v0 dX4_narrow_77 hm (fun p_9 m_p_9 k_p_9 hm => ?_)
      refine rx_iload_n C 1 dX4_narrow_80 rfl ?_
      refine rx_lald C m_p_9 k_p_9 dX4_narrow_81 hm (fun hm => ?_)
      refine rx_ladd C dX4_narrow_82 ?_
      refine rx_iconst (v := 1) C dX4_narrow_83 rfl ?_
      refine rx_lshr C dX4_narrow_84 ?_
      refine rx_nml hm (fun v5_10 ev5_10 hm => ?_)
      refine rx_lstore (lv1 := [(5, .long v5_10), (0, .ref v0), (1, .int v1), (3, .int v3), (4, .int v4)]) C dX4_narrow_85 (by decide) rfl ?_
      refine rx_aload_n C 1 dX4_narrow_87 rfl ?_
      refine gf_283 C m_v0 k_v0 dX4_narrow_88 hm (fun p_11 m_p_11 k_p_11 hm => ?_)
      refine rx_lload C 0 dX4_narrow_91 rfl ?_
      refine rx_bipush (v := 12) C dX4_narrow_93 rfl ?_
      obtain ⟨_, σ_12, hc_13, hm⟩ := rr_bd_some hm
      refine rr_callV (rest := []) (st1 := []) C 4 hll (c_Poi_move l G hG fu p_11 m_p_11 k_p_11 v5_10 12 σ _ hc_13) q_693 q_694 q_695 q_8 q_696 hd_Poi_move ⟨_, rfl, rfl⟩ (by decide) m_p_11 k_p_11 ⟨by decide, by decide⟩ rfl rfl (Nat.le_of_ble_eq_true rfl) rfl dX4_narrow_95 ?_
      refine rx_aload_n C 1 dX4_narrow_98 rfl ?_
      obtain ⟨r_14, σ_15, hc_16, hm⟩ := rr_bd_some hm
      refine rr_callV (rest := []) (st1 := [.int r_14]) C 3 hll (c_Pla_signOfAll l G hG fu v0 m_v0 k_v0 σ_12 _ _ hc_16) q_725 q_727 qs_31 q_10 q_728 hd_Pla_signOfAll ⟨_, rfl, rfl⟩ (by decide) m_v0 k_v0 ⟨by decide, by decide⟩ rfl rfl (Nat.le_of_ble_eq_true rfl) rfl dX4_narrow_99 ?_
      refine rx_iload_n C 3 dX4_narrow_102 rfl ?_
      refine rr_jn1 hm (fun j125 ej125 hm => ?_)
      have hj125 : ∀ (σ_17 : rr_M), j125 σ_17 = some ((), σr) → rr_J X G 7 (rr_E X G σr none) σ_17 125 [(0, .ref v0), (1, .int v1), (3, .int v3), (4, .int v4)] [] := by
        intro σ_17 hm
        replace hm := ej125 _ hm
        refine rx_iinc (d := 1) (lv1 := fun v => [(4, .int v), (0, .ref v0), (1, .int v1), (3, .int v3)]) C 3 dX4_narrow_125 hm rfl rfl (by decide) (fun _ => rfl) (fun v4_18 hm => ?_)
        refine rx_goto (tgt := 44) C dX4_narrow_128 (by decide) ?_
        refine rx_lv [1, 2, 3, 0] rfl ?_
        exact ih _ _ _ hm hk
      refine rx_icmp_ne (tgt := 117) C dX4_narrow_103 (by decide) hm (fun h_19 hm => ?_) (fun h_19 hm => ?_)
      · refine rx_aload_n C 1 dX4_narrow_117 rfl ?_
        refine gf_289 C m_v0 k_v0 dX4_narrow_118 hm (fun p_20 m_p_20 k_p_20 hm => ?_)
        refine rx_iload_n C 2 dX4_narrow_121 rfl ?_
        refine rx_lload C 0 dX4_narrow_122 rfl ?_
        refine rx_last C m_p_20 k_p_20 dX4_narrow_124 hm (fun σ_21 hm => ?_)
        refine rx_lv [1, 2, 3, 4] rfl ?_
        exact hj125 _ hm
      refine rx_aload_n C 1 dX4_narrow_106 rfl ?_
      refine gf_288 C m_v0 k_v0 dX4_narrow_107 hm (fun p_22 m_p_22 k_p_22 hm => ?_)
      refine rx_iload_n C 2 dX4_narrow_110 rfl ?_
      refine rx_lload C 0 dX4_narrow_111 rfl ?_
      refine rx_last C m_p_22 k_p_22 dX4_narrow_113 hm (fun σ_23 hm => ?_)
      refine rx_goto (tgt := 125) C dX4_narrow_114 (by decide) ?_
      refine rx_lv [1, 2, 3, 4] rfl ?_
      exact hj125 _ hm
    exact rx_vret C dX4_narrow_69 hm
def f_Pla_narrow (fu : Nat) (N : Nat → Nat) (v0 : Nat) (v1 : Int32) (σ : rr_M) : Option (Unit × rr_M) :=
    rr_lt (mg_r σ v0 9) fun p_1 =>
    (if rr_ix v1 (N p_1) then
    rr_lt ((mg_i σ v0 5) - (mg_i σ p_1 (rr_n v1))) fun v2_2 =>
    rr_jn (fun (t_3 : Int32) =>
    l_Pla_narrow_44 fu N v0 v1 t_3 fu 0 σ (fun σ_24 =>
    some ((), σ_24))) fun j40 =>
    if (v2_2 &&& 1) = 0 then (rr_lt (mg_r σ v0 1) fun p_28 =>
    rr_lt (mg_r σ p_28 2) fun p_29 =>
    (if rr_ix 0 (N p_29) then
    j40 (mg_i σ p_29 (rr_n 0)) else none)) else
    rr_lt (mg_r σ v0 1) fun p_26 =>
    rr_lt (mg_r σ p_26 2) fun p_27 =>
    (if rr_ix 0 (N p_27) then
    j40 (-(mg_i σ p_27 (rr_n 0))) else none) else none)
theorem c_Pla_narrow (l : Launch) (G : rr_G) (hG : G.2.2.1.Nodup) (fu : Nat) (v0 : Nat) (m_v0 : v0 ∈ G.2.2.1) (k_v0 : G.2.2.2.1 v0 = 3) (v1 : Int32) (σ : rr_M) (σr : rr_M) (hm : f_Pla_narrow fu G.2.2.2.2 v0 v1 σ = some ((), σr)) : rr_Met l G yX4_narrow cX4_narrow 7 none 5 135 [.ref v0, .int v1] σ σr none := by
  refine rr_enter (lv0 := [(0, .ref v0), (1, .int v1)]) hp_Pla_narrow hG (Nat.le_of_ble_eq_true rfl) rfl (fun X hll C => ?_)
  replace C : rr_C X G cX4_narrow 7 "RootRows$Placer" none 5 135 := C
  unfold f_Pla_narrow at hm
  refine rx_aload_n C 0 dX4_narrow_0 rfl ?_
  refine gf_286 C m_v0 k_v0 dX4_narrow_1 ?_
  refine rx_aload_n C 0 dX4_narrow_4 rfl ?_
  refine gf_290 C m_v0 k_v0 dX4_narrow_5 hm (fun p_1 m_p_1 k_p_1 hm => ?_)
  refine rx_iload_n C 1 dX4_narrow_8 rfl ?_
  refine rx_iald C m_p_1 k_p_1 dX4_narrow_9 hm (fun hm => ?_)
  refine rx_isub C dX4_narrow_10 ?_
  refine rx_nmi hm (fun v2_2 ev2_2 hm => ?_)
  refine rx_istore_n (lv1 := [(2, .int v2_2), (0, .ref v0), (1, .int v1)]) C dX4_narrow_11 (by decide) rfl ?_
  refine rx_iload_n C 0 dX4_narrow_12 rfl ?_
  refine rx_iconst (v := 1) C dX4_narrow_13 rfl ?_
  refine rx_iand C dX4_narrow_14 ?_
  refine rr_jn1 hm (fun j40 ej40 hm => ?_)
  have hj40 : ∀ (t_3 : Int32), j40 t_3 = some ((), σr) → rr_J X G 7 (rr_E X G σr none) σ 40 [(0, .ref v0), (1, .int v1)] [.int t_3] := by
    intro t_3 hm
    replace hm := ej40 _ hm
    refine rx_istore_n (lv1 := [(3, .int t_3), (0, .ref v0), (1, .int v1)]) C dX4_narrow_40 (by decide) rfl ?_
    refine rx_iconst (v := 0) C dX4_narrow_41 rfl ?_
    refine rx_istore (lv1 := [(4, .int 0), (3, .int t_3), (0, .ref v0), (1, .int v1)]) C dX4_narrow_42 (by decide) rfl ?_
    refine rx_lv [2, 3, 1, 0] rfl ?_
    refine lw_Pla_narrow_44 hG hll C v0 m_v0 k_v0 v1 t_3 _ _ _ _ hm (fun σ_24 hm => ?_)
    exact rx_vret C dX4_narrow_131 hm
  refine rx_if_ne (tgt := 30) C dX4_narrow_15 (by decide) hm (fun h_25 hm => ?_) (fun h_25 hm => ?_)
  · refine rx_aload_n C 1 dX4_narrow_30 rfl ?_
    refine gf_282 C m_v0 k_v0 dX4_narrow_31 hm (fun p_26 m_p_26 k_p_26 hm => ?_)
    refine gf_172 C m_p_26 k_p_26 dX4_narrow_34 hm (fun p_27 m_p_27 k_p_27 hm => ?_)
    refine rx_iconst (v := 0) C dX4_narrow_37 rfl ?_
    refine rx_iald C m_p_27 k_p_27 dX4_narrow_38 hm (fun hm => ?_)
    refine rx_ineg C dX4_narrow_39 ?_
    refine rx_lv [1, 2] rfl ?_
    exact hj40 _ hm
  refine rx_aload_n C 1 dX4_narrow_18 rfl ?_
  refine gf_282 C m_v0 k_v0 dX4_narrow_19 hm (fun p_28 m_p_28 k_p_28 hm => ?_)
  refine gf_172 C m_p_28 k_p_28 dX4_narrow_22 hm (fun p_29 m_p_29 k_p_29 hm => ?_)
  refine rx_iconst (v := 0) C dX4_narrow_25 rfl ?_
  refine rx_iald C m_p_29 k_p_29 dX4_narrow_26 hm (fun hm => ?_)
  refine rx_goto (tgt := 40) C dX4_narrow_27 (by decide) ?_
  refine rx_lv [1, 2] rfl ?_
  exact hj40 _ hm
def l_Pla_rootsUpToPoint_6 (fu : Nat) (N : Nat → Nat) (v0 : Nat) : Nat → Int32 → Int32 → Int32 → rr_M → (Int32 → rr_M → Option (Int32 × rr_M)) → Option (Int32 × rr_M)
  | 0, _, _, _, _, _ => none
  | n + 1, v1, v2, v3, σ, kk =>
    rr_lt (mg_r σ v0 1) fun p_1 =>
    if (mg_i σ p_1 3) ≤ v3 then (kk v1 σ) else
    if 10 ≤ v3 then (kk v1 σ) else
    rr_lt (mg_r σ v0 2) fun p_4 =>
    rr_lt (mg_r σ v0 1) fun p_5 =>
    rr_lt (mg_r σ p_5 0) fun p_6 =>
    rr_lt (mg_r σ v0 1) fun p_7 =>
    rr_lt (mg_r σ p_7 1) fun p_8 =>
    (if rr_ix v3 (N p_8) then
    rr_bd (f_Poi_signAmong fu N p_4 p_6 (v3 * 9) (mg_i σ p_8 (rr_n v3)) σ) fun r_9 σ_10 =>
    rr_jn (fun (v1_12 : Int32) (v2_13 : Int32) =>
    rr_lt (v3 + 1) fun v3_14 =>
    l_Pla_rootsUpToPoint_6 fu N v0 n v1_12 v2_13 v3_14 σ_10 kk) fun j70 =>
    if r_9 = 0 then (j70 v1 v2) else
    rr_jn (fun (v1_16 : Int32) =>
    j70 v1_16 r_9) fun j67 =>
    if r_9 = (-v2) then (rr_lt (v1 + 1) fun v1_18 =>
    j67 v1_18) else
    j67 v1 else none)
theorem lw_Pla_rootsUpToPoint_6 {X : rr_X} {G : rr_G} {l : Launch} {fu : Nat} (hG : G.2.2.1.Nodup) (hll : X.2.1 = l) (C : rr_C X G cX4_rootsUpToPoint 5 "RootRows$Placer" (some .int) 3 115) {r : Int32} {σr : rr_M} (v0 : Nat) (m_v0 : v0 ∈ G.2.2.1) (k_v0 : G.2.2.2.1 v0 = 3) : ∀ (n : Nat) (v1 : Int32) (v2 : Int32) (v3 : Int32) (σ : rr_M) (K : Int32 → rr_M → Option (Int32 × rr_M)), l_Pla_rootsUpToPoint_6 fu G.2.2.2.2 v0 n v1 v2 v3 σ K = some (r, σr) → (∀ (w1 : Int32) (σ1 : rr_M), K w1 σ1 = some (r, σr) → rr_J X G 5 (rr_E X G σr (some (.int r))) σ1 76 [(0, .ref v0), (1, .int w1)] []) → rr_J X G 5 (rr_E X G σr (some (.int r))) σ 6 [(0, .ref v0), (1, .int v1), (2, .int v2), (3, .int v3)] [] := by
  intro n
  induction n with
  | zero =>
    intro v1 v2 v3 σ K hm
    cases hm
  | succ n ih =>
    intro v1 v2 v3 σ K hm hk
    unfold l_Pla_rootsUpToPoint_6 at hm
    refine rx_iload_n C 3 dX4_rootsUpToPoint_6 rfl ?_
    refine rx_aload_n C 0 dX4_rootsUpToPoint_7 rfl ?_
    refine gf_282 C m_v0 k_v0 dX4_rootsUpToPoint_8 hm (fun p_1 m_p_1 k_p_1 hm => ?_)
    refine gf_176 C m_p_1 k_p_1 dX4_rootsUpToPoint_11 ?_
    refine rx_icmp_ge (tgt := 76) C dX4_rootsUpToPoint_14 (by decide) hm (fun h_2 hm => ?_) (fun h_2 hm => ?_)
    · refine rx_lv [0, 1] rfl ?_
      exact hk _ _ hm
    refine rx_iload_n C 3 dX4_rootsUpToPoint_17 rfl ?_
    refine rx_bipush (v := 10) C dX4_rootsUpToPoint_18 rfl ?_
    refine rx_icmp_ge (tgt := 76) C dX4_rootsUpToPoint_20 (by decide) hm (fun h_3 hm => ?_) (fun h_3 hm => ?_)
    · refine rx_lv [0, 1] rfl ?_
      exact hk _ _ hm
    refine rx_aload_n C 0 dX4_rootsUpToPoint_23 rfl ?_
    refine gf_283 C m_v0 k_v0 dX4_rootsUpToPoint_24 hm (fun p_4 m_p_4 k_p_4 hm => ?_)
    refine rx_aload_n C 0 dX4_rootsUpToPoint_27 rfl ?_
    refine gf_282 C m_v0 k_v0 dX4_rootsUpToPoint_28 hm (fun p_5 m_p_5 k_p_5 hm => ?_)
    refine gf_166 C m_p_5 k_p_5 dX4_rootsUpToPoint_31 hm (fun p_6 m_p_6 k_p_6 hm => ?_)
    refine rx_iload_n C 3 dX4_rootsUpToPoint_34 rfl ?_
    refine rx_bipush (v := 9) C dX4_rootsUpToPoint_35 rfl ?_
    refine rx_imul C dX4_rootsUpToPoint_37 ?_
    refine rx_aload_n C 0 dX4_rootsUpToPoint_38 rfl ?_
    refine gf_282 C m_v0 k_v0 dX4_rootsUpToPoint_39 hm (fun p_7 m_p_7 k_p_7 hm => ?_)
    refine gf_169 C m_p_7 k_p_7 dX4_rootsUpToPoint_42 hm (fun p_8 m_p_8 k_p_8 hm => ?_)
    refine rx_iload_n C 3 dX4_rootsUpToPoint_45 rfl ?_
    refine rx_iald C m_p_8 k_p_8 dX4_rootsUpToPoint_46 hm (fun hm => ?_)
    obtain ⟨r_9, σ_10, hc_11, hm⟩ := rr_bd_some hm
    refine rr_callV (rest := []) (st1 := [.int r_9]) C 4 hll (c_Poi_signAmong l G hG fu p_4 m_p_4 k_p_4 p_6 m_p_6 k_p_6 (v3 * 9) (mg_i σ p_8 (rr_n v3)) σ _ _ hc_11) q_710 q_711 q_712 q_8 q_713 hd_Poi_signAmong ⟨_, rfl, rfl⟩ (by decide) m_p_4 k_p_4 ⟨by decide, by decide⟩ rfl rfl (Nat.le_of_ble_eq_true rfl) rfl dX4_rootsUpToPoint_47 ?_
    refine rx_istore (lv1 := [(4, .int r_9), (0, .ref v0), (1, .int v1), (2, .int v2), (3, .int v3)]) C dX4_rootsUpToPoint_50 (by decide) rfl ?_
    refine rx_iload C 0 dX4_rootsUpToPoint_52 rfl ?_
    refine rr_jn2 hm (fun j70 ej70 hm => ?_)
    have hj70 : ∀ (v1_12 : Int32) (v2_13 : Int32), j70 v1_12 v2_13 = some (r, σr) → rr_J X G 5 (rr_E X G σr (some (.int r))) σ_10 70 [(0, .ref v0), (1, .int v1_12), (2, .int v2_13), (3, .int v3)] [] := by
      intro v1_12 v2_13 hm
      replace hm := ej70 _ _ hm
      refine rx_iinc (d := 1) (lv1 := fun v => [(3, .int v), (0, .ref v0), (1, .int v1_12), (2, .int v2_13)]) C 3 dX4_rootsUpToPoint_70 hm rfl rfl (by decide) (fun _ => rfl) (fun v3_14 hm => ?_)
      refine rx_goto (tgt := 6) C dX4_rootsUpToPoint_73 (by decide) ?_
      refine rx_lv [1, 2, 3, 0] rfl ?_
      exact ih _ _ _ _ _ hm hk
    refine rx_if_eq (tgt := 70) C dX4_rootsUpToPoint_54 (by decide) hm (fun h_15 hm => ?_) (fun h_15 hm => ?_)
    · refine rx_lv [1, 2, 3, 4] rfl ?_
      exact hj70 _ _ hm
    refine rx_iload C 0 dX4_rootsUpToPoint_57 rfl ?_
    refine rx_iload_n C 3 dX4_rootsUpToPoint_59 rfl ?_
    refine rx_ineg C dX4_rootsUpToPoint_60 ?_
    refine rr_jn1 hm (fun j67 ej67 hm => ?_)
    have hj67 : ∀ (v1_16 : Int32), j67 v1_16 = some (r, σr) → rr_J X G 5 (rr_E X G σr (some (.int r))) σ_10 67 [(0, .ref v0), (1, .int v1_16), (2, .int v2), (3, .int v3), (4, .int r_9)] [] := by
      intro v1_16 hm
      replace hm := ej67 _ hm
      refine rx_iload C 4 dX4_rootsUpToPoint_67 rfl ?_
      refine rx_istore_n (lv1 := [(2, .int r_9), (0, .ref v0), (1, .int v1_16), (3, .int v3), (4, .int r_9)]) C dX4_rootsUpToPoint_69 (by decide) rfl ?_
      refine rx_lv [1, 2, 0, 3] rfl ?_
      exact hj70 _ _ hm
    refine rx_icmp_ne (tgt := 67) C dX4_rootsUpToPoint_61 (by decide) hm (fun h_17 hm => ?_) (fun h_17 hm => ?_)
    · refine rx_lv [1, 2, 3, 4, 0] rfl ?_
      exact hj67 _ hm
    refine rx_iinc (d := 1) (lv1 := fun v => [(1, .int v), (4, .int r_9), (0, .ref v0), (2, .int v2), (3, .int v3)]) C 2 dX4_rootsUpToPoint_64 hm rfl rfl (by decide) (fun _ => rfl) (fun v1_18 hm => ?_)
    refine rx_lv [2, 0, 3, 4, 1] rfl ?_
    exact hj67 _ hm
def f_Pla_rootsUpToPoint (fu : Nat) (N : Nat → Nat) (v0 : Nat) (σ : rr_M) : Option (Int32 × rr_M) :=
    l_Pla_rootsUpToPoint_6 fu N v0 fu 0 0 0 σ (fun v1_19 σ_20 =>
    some ((mg_i σ_20 v0 6) - v1_19, σ_20))
theorem c_Pla_rootsUpToPoint (l : Launch) (G : rr_G) (hG : G.2.2.1.Nodup) (fu : Nat) (v0 : Nat) (m_v0 : v0 ∈ G.2.2.1) (k_v0 : G.2.2.2.1 v0 = 3) (σ : rr_M) (r : Int32) (σr : rr_M) (hm : f_Pla_rootsUpToPoint fu G.2.2.2.2 v0 σ = some (r, σr)) : rr_Met l G yX4_rootsUpToPoint cX4_rootsUpToPoint 5 (some .int) 3 115 [.ref v0] σ σr (some (.int r)) := by
  refine rr_enter (lv0 := [(0, .ref v0)]) hp_Pla_rootsUpToPoint hG (Nat.le_of_ble_eq_true rfl) rfl (fun X hll C => ?_)
  replace C : rr_C X G cX4_rootsUpToPoint 5 "RootRows$Placer" (some .int) 3 115 := C
  unfold f_Pla_rootsUpToPoint at hm
  refine rx_iconst (v := 0) C dX4_rootsUpToPoint_0 rfl ?_
  refine rx_istore_n (lv1 := [(1, .int 0), (0, .ref v0)]) C dX4_rootsUpToPoint_1 (by decide) rfl ?_
  refine rx_iconst (v := 0) C dX4_rootsUpToPoint_2 rfl ?_
  refine rx_istore_n (lv1 := [(2, .int 0), (1, .int 0), (0, .ref v0)]) C dX4_rootsUpToPoint_3 (by decide) rfl ?_
  refine rx_iconst (v := 0) C dX4_rootsUpToPoint_4 rfl ?_
  refine rx_istore_n (lv1 := [(3, .int 0), (2, .int 0), (1, .int 0), (0, .ref v0)]) C dX4_rootsUpToPoint_5 (by decide) rfl ?_
  refine rx_lv [3, 2, 1, 0] rfl ?_
  refine lw_Pla_rootsUpToPoint_6 hG hll C v0 m_v0 k_v0 _ _ _ _ _ _ hm (fun v1_19 σ_20 hm => ?_)
  refine rx_aload_n C 0 dX4_rootsUpToPoint_76 rfl ?_
  refine gf_287 C m_v0 k_v0 dX4_rootsUpToPoint_77 ?_
  refine rx_iload_n C 1 dX4_rootsUpToPoint_80 rfl ?_
  refine rx_isub C dX4_rootsUpToPoint_81 ?_
  exact rx_iret C dX4_rootsUpToPoint_82 hm
def l_Pla_part_79 (fu : Nat) (N : Nat → Nat) (v0 : Nat) (v3 : Int64) (v5 : Int32) : Nat → Int32 → rr_M → (rr_M → Option (Unit × rr_M)) → Option (Unit × rr_M)
  | 0, _, _, _ => none
  | n + 1, v6, σ, kk =>
    if (mg_i σ v0 5) ≤ v6 then (kk σ) else
    rr_jn (fun (σ_18 : rr_M) =>
    rr_jn (fun (σ_19 : rr_M) =>
    rr_lt (v6 + 1) fun v6_20 =>
    l_Pla_part_79 fu N v0 v3 v5 n v6_20 σ_19 kk) fun j160 =>
    if v6 < v5 then (j160 σ_18) else
    rr_lt (mg_r σ_18 v0 7) fun p_22 =>
    (if rr_ix v6 (N p_22) then
    if v3 ≤ (mg_l σ_18 p_22 (rr_n v6)) then (j160 σ_18) else
    rr_lt (mg_r σ_18 v0 7) fun p_24 =>
    (if rr_ix v6 (N p_24) then rr_lt (ms_l σ_18 p_24 (rr_n v6) v3) fun σ_25 =>
    rr_lt (mg_r σ_25 v0 9) fun p_26 =>
    (if rr_ix v6 (N p_26) then rr_lt (ms_i σ_25 p_26 (rr_n v6) v5) fun σ_27 =>
    j160 σ_27 else none) else none) else none)) fun j124 =>
    if v5 ≤ v6 then (j124 σ) else
    rr_lt (mg_r σ v0 8) fun p_29 =>
    (if rr_ix v6 (N p_29) then
    if (mg_l σ p_29 (rr_n v6)) ≤ v3 then (j124 σ) else
    rr_lt (mg_r σ v0 8) fun p_31 =>
    (if rr_ix v6 (N p_31) then rr_lt (ms_l σ p_31 (rr_n v6) v3) fun σ_32 =>
    rr_lt (mg_r σ_32 v0 10) fun p_33 =>
    (if rr_ix v6 (N p_33) then rr_lt (ms_i σ_32 p_33 (rr_n v6) v5) fun σ_34 =>
    j124 σ_34 else none) else none) else none)
theorem lw_Pla_part_79 {X : rr_X} {G : rr_G} {l : Launch} {fu : Nat} (hG : G.2.2.1.Nodup) (hll : X.2.1 = l) (C : rr_C X G cX4_part 7 "RootRows$Placer" none 5 139) {σr : rr_M} (v0 : Nat) (m_v0 : v0 ∈ G.2.2.1) (k_v0 : G.2.2.2.1 v0 = 3) (v1 : Int32) (v2 : Int32) (v3 : Int64) (v5 : Int32) : ∀ (n : Nat) (v6 : Int32) (σ : rr_M) (K : rr_M → Option (Unit × rr_M)), l_Pla_part_79 fu G.2.2.2.2 v0 v3 v5 n v6 σ K = some ((), σr) → (∀ (σ1 : rr_M), K σ1 = some ((), σr) → rr_J X G 7 (rr_E X G σr none) σ1 166 [(0, .ref v0), (1, .int v1), (2, .int v2)] []) → rr_J X G 7 (rr_E X G σr none) σ 79 [(0, .ref v0), (1, .int v1), (2, .int v2), (3, .long v3), (5, .int v5), (6, .int v6)] [] := by
  intro n
  induction n with
  | zero =>
    intro v6 σ K hm
    cases hm
  | succ n ih =>
    intro v6 σ K hm hk
    unfold l_Pla_part_79 at hm
    refine rx_iload C 5 dX4_part_79 rfl ?_
    refine rx_aload_n C 0 dX4_part_81 rfl ?_
    refine gf_286 C m_v0 k_v0 dX4_part_82 ?_
    refine rx_icmp_ge (tgt := 166) C dX4_part_85 (by decide) hm (fun h_17 hm => ?_) (fun h_17 hm => ?_)
    · refine rx_lv [0, 1, 2] rfl ?_
      exact hk _ hm
    refine rx_iload C 5 dX4_part_88 rfl ?_
    refine rx_iload C 4 dX4_part_90 rfl ?_
    refine rr_jn1 hm (fun j124 ej124 hm => ?_)
    have hj124 : ∀ (σ_18 : rr_M), j124 σ_18 = some ((), σr) → rr_J X G 7 (rr_E X G σr none) σ_18 124 [(0, .ref v0), (1, .int v1), (2, .int v2), (3, .long v3), (5, .int v5), (6, .int v6)] [] := by
      intro σ_18 hm
      replace hm := ej124 _ hm
      refine rx_iload C 5 dX4_part_124 rfl ?_
      refine rx_iload C 4 dX4_part_126 rfl ?_
      refine rr_jn1 hm (fun j160 ej160 hm => ?_)
      have hj160 : ∀ (σ_19 : rr_M), j160 σ_19 = some ((), σr) → rr_J X G 7 (rr_E X G σr none) σ_19 160 [(0, .ref v0), (1, .int v1), (2, .int v2), (3, .long v3), (5, .int v5), (6, .int v6)] [] := by
        intro σ_19 hm
        replace hm := ej160 _ hm
        refine rx_iinc (d := 1) (lv1 := fun v => [(6, .int v), (0, .ref v0), (1, .int v1), (2, .int v2), (3, .long v3), (5, .int v5)]) C 5 dX4_part_160 hm rfl rfl (by decide) (fun _ => rfl) (fun v6_20 hm => ?_)
        refine rx_goto (tgt := 79) C dX4_part_163 (by decide) ?_
        refine rx_lv [1, 2, 3, 4, 5, 0] rfl ?_
        exact ih _ _ _ hm hk
      refine rx_icmp_lt (tgt := 160) C dX4_part_128 (by decide) hm (fun h_21 hm => ?_) (fun h_21 hm => ?_)
      · refine rx_lv [0, 1, 2, 3, 4, 5] rfl ?_
        exact hj160 _ hm
      refine rx_lload_n C 3 dX4_part_131 rfl ?_
      refine rx_aload_n C 0 dX4_part_132 rfl ?_
      refine gf_288 C m_v0 k_v0 dX4_part_133 hm (fun p_22 m_p_22 k_p_22 hm => ?_)
      refine rx_iload C 5 dX4_part_136 rfl ?_
      refine rx_lald C m_p_22 k_p_22 dX4_part_138 hm (fun hm => ?_)
      refine rx_lcmp_le (tgt := 160) C dX4_part_139 dX4_part_140 (by decide) hm (fun h_23 hm => ?_) (fun h_23 hm => ?_)
      · refine rx_lv [0, 1, 2, 3, 4, 5] rfl ?_
        exact hj160 _ hm
      refine rx_aload_n C 0 dX4_part_143 rfl ?_
      refine gf_288 C m_v0 k_v0 dX4_part_144 hm (fun p_24 m_p_24 k_p_24 hm => ?_)
      refine rx_iload C 5 dX4_part_147 rfl ?_
      refine rx_lload_n C 3 dX4_part_149 rfl ?_
      refine rx_last C m_p_24 k_p_24 dX4_part_150 hm (fun σ_25 hm => ?_)
      refine rx_aload_n C 0 dX4_part_151 rfl ?_
      refine gf_290 C m_v0 k_v0 dX4_part_152 hm (fun p_26 m_p_26 k_p_26 hm => ?_)
      refine rx_iload C 5 dX4_part_155 rfl ?_
      refine rx_iload C 4 dX4_part_157 rfl ?_
      refine rx_iast C m_p_26 k_p_26 dX4_part_159 hm (fun σ_27 hm => ?_)
      refine rx_lv [0, 1, 2, 3, 4, 5] rfl ?_
      exact hj160 _ hm
    refine rx_icmp_ge (tgt := 124) C dX4_part_92 (by decide) hm (fun h_28 hm => ?_) (fun h_28 hm => ?_)
    · refine rx_lv [0, 1, 2, 3, 4, 5] rfl ?_
      exact hj124 _ hm
    refine rx_lload_n C 3 dX4_part_95 rfl ?_
    refine rx_aload_n C 0 dX4_part_96 rfl ?_
    refine gf_289 C m_v0 k_v0 dX4_part_97 hm (fun p_29 m_p_29 k_p_29 hm => ?_)
    refine rx_iload C 5 dX4_part_100 rfl ?_
    refine rx_lald C m_p_29 k_p_29 dX4_part_102 hm (fun hm => ?_)
    refine rx_lcmp_ge (tgt := 124) C dX4_part_103 dX4_part_104 (by decide) hm (fun h_30 hm => ?_) (fun h_30 hm => ?_)
    · refine rx_lv [0, 1, 2, 3, 4, 5] rfl ?_
      exact hj124 _ hm
    refine rx_aload_n C 0 dX4_part_107 rfl ?_
    refine gf_289 C m_v0 k_v0 dX4_part_108 hm (fun p_31 m_p_31 k_p_31 hm => ?_)
    refine rx_iload C 5 dX4_part_111 rfl ?_
    refine rx_lload_n C 3 dX4_part_113 rfl ?_
    refine rx_last C m_p_31 k_p_31 dX4_part_114 hm (fun σ_32 hm => ?_)
    refine rx_aload_n C 0 dX4_part_115 rfl ?_
    refine gf_291 C m_v0 k_v0 dX4_part_116 hm (fun p_33 m_p_33 k_p_33 hm => ?_)
    refine rx_iload C 5 dX4_part_119 rfl ?_
    refine rx_iload C 4 dX4_part_121 rfl ?_
    refine rx_iast C m_p_33 k_p_33 dX4_part_123 hm (fun σ_34 hm => ?_)
    refine rx_lv [0, 1, 2, 3, 4, 5] rfl ?_
    exact hj124 _ hm
def l_Pla_part_2 (fu : Nat) (N : Nat → Nat) (v0 : Nat) (v1 : Int32) : Nat → Int32 → rr_M → (rr_M → Option (Unit × rr_M)) → Option (Unit × rr_M)
  | 0, _, _, _ => none
  | n + 1, v2, σ, kk =>
    if 40 < v2 then (kk σ) else
    rr_lt (mg_r σ v0 10) fun p_2 =>
    (if rr_ix v1 (N p_2) then
    rr_lt (mg_r σ v0 9) fun p_3 =>
    (if rr_ix v1 (N p_3) then
    if ((mg_i σ p_2 (rr_n v1)) - (mg_i σ p_3 (rr_n v1))) ≤ 1 then (some ((), σ)) else
    rr_lt (mg_r σ v0 8) fun p_5 =>
    (if rr_ix v1 (N p_5) then
    rr_lt (mg_r σ v0 7) fun p_6 =>
    (if rr_ix v1 (N p_6) then
    if 1 < ((mg_l σ p_5 (rr_n v1)) - (mg_l σ p_6 (rr_n v1))) then (rr_lt (mg_r σ v0 7) fun p_8 =>
    (if rr_ix v1 (N p_8) then
    rr_lt (mg_r σ v0 8) fun p_9 =>
    (if rr_ix v1 (N p_9) then
    rr_lt (((mg_l σ p_8 (rr_n v1)) + (mg_l σ p_9 (rr_n v1))) >>> ((1 : Int32).toInt64 &&& 63)) fun v3_10 =>
    rr_lt (mg_r σ v0 2) fun p_11 =>
    rr_bd (f_Poi_move fu N p_11 v3_10 12 σ) fun _ σ_12 =>
    rr_bd (f_Pla_rootsUpToPoint fu N v0 σ_12) fun r_14 σ_15 =>
    l_Pla_part_79 fu N v0 v3_10 r_14 fu 0 σ_15 (fun σ_35 =>
    rr_lt (v2 + 1) fun v2_36 =>
    l_Pla_part_2 fu N v0 v1 n v2_36 σ_35 kk) else none) else none)) else
    some ((), σ) else none) else none) else none) else none)
theorem lw_Pla_part_2 {X : rr_X} {G : rr_G} {l : Launch} {fu : Nat} (hG : G.2.2.1.Nodup) (hll : X.2.1 = l) (C : rr_C X G cX4_part 7 "RootRows$Placer" none 5 139) {σr : rr_M} (v0 : Nat) (m_v0 : v0 ∈ G.2.2.1) (k_v0 : G.2.2.2.1 v0 = 3) (v1 : Int32) : ∀ (n : Nat) (v2 : Int32) (σ : rr_M) (K : rr_M → Option (Unit × rr_M)), l_Pla_part_2 fu G.2.2.2.2 v0 v1 n v2 σ K = some ((), σr) → (∀ (σ1 : rr_M), K σ1 = some ((), σr) → rr_J X G 7 (rr_E X G σr none) σ1 172 [] []) → rr_J X G 7 (rr_E X G σr none) σ 2 [(0, .ref v0), (1, .int v1), (2, .int v2)] [] := by
  intro n
  induction n with
  | zero =>
    intro v2 σ K hm
    cases hm
  | succ n ih =>
    intro v2 σ K hm hk
    unfold l_Pla_part_2 at hm
    refine rx_iload_n C 2 dX4_part_2 rfl ?_
    refine rx_bipush (v := 40) C dX4_part_3 rfl ?_
    refine rx_icmp_gt (tgt := 172) C dX4_part_5 (by decide) hm (fun h_1 hm => ?_) (fun h_1 hm => ?_)
    · refine rx_lv [] rfl ?_
      exact hk _ hm
    refine rx_aload_n C 0 dX4_part_8 rfl ?_
    refine gf_291 C m_v0 k_v0 dX4_part_9 hm (fun p_2 m_p_2 k_p_2 hm => ?_)
    refine rx_iload_n C 1 dX4_part_12 rfl ?_
    refine rx_iald C m_p_2 k_p_2 dX4_part_13 hm (fun hm => ?_)
    refine rx_aload_n C 0 dX4_part_14 rfl ?_
    refine gf_290 C m_v0 k_v0 dX4_part_15 hm (fun p_3 m_p_3 k_p_3 hm => ?_)
    refine rx_iload_n C 1 dX4_part_18 rfl ?_
    refine rx_iald C m_p_3 k_p_3 dX4_part_19 hm (fun hm => ?_)
    refine rx_isub C dX4_part_20 ?_
    refine rx_iconst (v := 1) C dX4_part_21 rfl ?_
    refine rx_icmp_le (tgt := 43) C dX4_part_22 (by decide) hm (fun h_4 hm => ?_) (fun h_4 hm => ?_)
    · exact rx_vret C dX4_part_43 hm
    refine rx_aload_n C 0 dX4_part_25 rfl ?_
    refine gf_289 C m_v0 k_v0 dX4_part_26 hm (fun p_5 m_p_5 k_p_5 hm => ?_)
    refine rx_iload_n C 1 dX4_part_29 rfl ?_
    refine rx_lald C m_p_5 k_p_5 dX4_part_30 hm (fun hm => ?_)
    refine rx_aload_n C 0 dX4_part_31 rfl ?_
    refine gf_288 C m_v0 k_v0 dX4_part_32 hm (fun p_6 m_p_6 k_p_6 hm => ?_)
    refine rx_iload_n C 1 dX4_part_35 rfl ?_
    refine rx_lald C m_p_6 k_p_6 dX4_part_36 hm (fun hm => ?_)
    refine rx_lsub C dX4_part_37 ?_
    refine rx_lconst (v := 1) C dX4_part_38 rfl ?_
    refine rx_lcmp_gt (tgt := 44) C dX4_part_39 dX4_part_40 (by decide) hm (fun h_7 hm => ?_) (fun h_7 hm => ?_)
    · refine rx_aload_n C 0 dX4_part_44 rfl ?_
      refine gf_288 C m_v0 k_v0 dX4_part_45 hm (fun p_8 m_p_8 k_p_8 hm => ?_)
      refine rx_iload_n C 1 dX4_part_48 rfl ?_
      refine rx_lald C m_p_8 k_p_8 dX4_part_49 hm (fun hm => ?_)
      refine rx_aload_n C 0 dX4_part_50 rfl ?_
      refine gf_289 C m_v0 k_v0 dX4_part_51 hm (fun p_9 m_p_9 k_p_9 hm => ?_)
      refine rx_iload_n C 1 dX4_part_54 rfl ?_
      refine rx_lald C m_p_9 k_p_9 dX4_part_55 hm (fun hm => ?_)
      refine rx_ladd C dX4_part_56 ?_
      refine rx_iconst (v := 1) C dX4_part_57 rfl ?_
      refine rx_lshr C dX4_part_58 ?_
      refine rx_nml hm (fun v3_10 ev3_10 hm => ?_)
      refine rx_lstore_n (lv1 := [(3, .long v3_10), (0, .ref v0), (1, .int v1), (2, .int v2)]) C dX4_part_59 (by decide) rfl ?_
      refine rx_aload_n C 1 dX4_part_60 rfl ?_
      refine gf_283 C m_v0 k_v0 dX4_part_61 hm (fun p_11 m_p_11 k_p_11 hm => ?_)
      refine rx_lload_n C 0 dX4_part_64 rfl ?_
      refine rx_bipush (v := 12) C dX4_part_65 rfl ?_
      obtain ⟨_, σ_12, hc_13, hm⟩ := rr_bd_some hm
      refine rr_callV (rest := []) (st1 := []) C 4 hll (c_Poi_move l G hG fu p_11 m_p_11 k_p_11 v3_10 12 σ _ hc_13) q_693 q_694 q_695 q_8 q_696 hd_Poi_move ⟨_, rfl, rfl⟩ (by decide) m_p_11 k_p_11 ⟨by decide, by decide⟩ rfl rfl (Nat.le_of_ble_eq_true rfl) rfl dX4_part_67 ?_
      refine rx_aload_n C 1 dX4_part_70 rfl ?_
      obtain ⟨r_14, σ_15, hc_16, hm⟩ := rr_bd_some hm
      refine rr_callV (rest := []) (st1 := [.int r_14]) C 3 hll (c_Pla_rootsUpToPoint l G hG fu v0 m_v0 k_v0 σ_12 _ _ hc_16) q_706 q_708 qs_28 q_10 q_709 hd_Pla_rootsUpToPoint ⟨_, rfl, rfl⟩ (by decide) m_v0 k_v0 ⟨by decide, by decide⟩ rfl rfl (Nat.le_of_ble_eq_true rfl) rfl dX4_part_71 ?_
      refine rx_istore (lv1 := [(5, .int r_14), (3, .long v3_10), (0, .ref v0), (1, .int v1), (2, .int v2)]) C dX4_part_74 (by decide) rfl ?_
      refine rx_iconst (v := 0) C dX4_part_76 rfl ?_
      refine rx_istore (lv1 := [(6, .int 0), (5, .int r_14), (3, .long v3_10), (0, .ref v0), (1, .int v1), (2, .int v2)]) C dX4_part_77 (by decide) rfl ?_
      refine rx_lv [3, 4, 5, 2, 1, 0] rfl ?_
      refine lw_Pla_part_79 hG hll C v0 m_v0 k_v0 v1 v2 v3_10 r_14 _ _ _ _ hm (fun σ_35 hm => ?_)
      refine rx_iinc (d := 1) (lv1 := fun v => [(2, .int v), (0, .ref v0), (1, .int v1)]) C 2 dX4_part_166 hm rfl rfl (by decide) (fun _ => rfl) (fun v2_36 hm => ?_)
      refine rx_goto (tgt := 2) C dX4_part_169 (by decide) ?_
      refine rx_lv [1, 2, 0] rfl ?_
      exact ih _ _ _ hm hk
    exact rx_vret C dX4_part_43 hm
def f_Pla_part (fu : Nat) (N : Nat → Nat) (v0 : Nat) (v1 : Int32) (σ : rr_M) : Option (Unit × rr_M) :=
    l_Pla_part_2 fu N v0 v1 fu 0 σ (fun σ_37 =>
    some ((), σ_37))
theorem c_Pla_part (l : Launch) (G : rr_G) (hG : G.2.2.1.Nodup) (fu : Nat) (v0 : Nat) (m_v0 : v0 ∈ G.2.2.1) (k_v0 : G.2.2.2.1 v0 = 3) (v1 : Int32) (σ : rr_M) (σr : rr_M) (hm : f_Pla_part fu G.2.2.2.2 v0 v1 σ = some ((), σr)) : rr_Met l G yX4_part cX4_part 7 none 5 139 [.ref v0, .int v1] σ σr none := by
  refine rr_enter (lv0 := [(0, .ref v0), (1, .int v1)]) hp_Pla_part hG (Nat.le_of_ble_eq_true rfl) rfl (fun X hll C => ?_)
  replace C : rr_C X G cX4_part 7 "RootRows$Placer" none 5 139 := C
  unfold f_Pla_part at hm
  refine rx_iconst (v := 0) C dX4_part_0 rfl ?_
  refine rx_istore_n (lv1 := [(2, .int 0), (0, .ref v0), (1, .int v1)]) C dX4_part_1 (by decide) rfl ?_
  refine rx_lv [1, 2, 0] rfl ?_
  refine lw_Pla_part_2 hG hll C v0 m_v0 k_v0 v1 _ _ _ _ hm (fun σ_37 hm => ?_)
  exact rx_vret C dX4_part_172 hm
def l_Pla_refine_33 (fu : Nat) (N : Nat → Nat) (v0 : Nat) (v1 : Int32) : Nat → Int32 → Int32 → rr_M → (rr_M → Option (Unit × rr_M)) → Option (Unit × rr_M)
  | 0, _, _, _, _ => none
  | n + 1, v2, v3, σ, kk =>
    if (v3 - v2) ≤ 1 then (kk σ) else
    if 256 ≤ (mg_i σ v0 14) then (kk σ) else
    rr_lt (ms_i σ v0 14 ((mg_i σ v0 14) + 1)) fun σ_12 =>
    rr_lt (mg_r σ_12 v0 11) fun p_13 =>
    rr_lt (mg_r σ_12 v0 11) fun p_14 =>
    rr_bd (f_Big_addTimes fu N p_13 p_14 1 0 σ_12) fun _ σ_15 =>
    rr_lt (mg_r σ_15 v0 12) fun p_17 =>
    rr_lt (mg_r σ_15 v0 11) fun p_18 =>
    rr_bd (f_Big_copy N p_17 p_18 σ_15) fun _ σ_19 =>
    rr_lt (mg_r σ_19 v0 12) fun p_21 =>
    rr_lt (mg_r σ_19 v0 13) fun p_22 =>
    rr_bd (f_Big_addTimes fu N p_21 p_22 (-1) 0 σ_19) fun _ σ_23 =>
    rr_lt (mg_r σ_23 v0 2) fun p_25 =>
    rr_lt (mg_r σ_23 v0 12) fun p_26 =>
    rr_bd (f_Poi_moveTo fu N p_25 p_26 (mg_i σ_23 v0 14) σ_23) fun _ σ_27 =>
    rr_bd (f_Pla_rootsUpToPoint fu N v0 σ_27) fun r_29 σ_30 =>
    rr_jn (fun (v2_32 : Int32) (v3_33 : Int32) (σ_34 : rr_M) =>
    l_Pla_refine_33 fu N v0 v1 n v2_32 v3_33 σ_34 kk) fun j146 =>
    if r_29 ≤ v1 then (j146 r_29 v3 σ_30) else
    rr_lt (mg_r σ_30 v0 11) fun p_36 =>
    rr_lt (mg_r σ_30 v0 12) fun p_37 =>
    rr_bd (f_Big_copy N p_36 p_37 σ_30) fun _ σ_38 =>
    j146 v2 r_29 σ_38
theorem lw_Pla_refine_33 {X : rr_X} {G : rr_G} {l : Launch} {fu : Nat} (hG : G.2.2.1.Nodup) (hll : X.2.1 = l) (C : rr_C X G cX4_refine 5 "RootRows$Placer" none 5 139) {σr : rr_M} (v0 : Nat) (m_v0 : v0 ∈ G.2.2.1) (k_v0 : G.2.2.2.1 v0 = 3) (v1 : Int32) : ∀ (n : Nat) (v2 : Int32) (v3 : Int32) (σ : rr_M) (K : rr_M → Option (Unit × rr_M)), l_Pla_refine_33 fu G.2.2.2.2 v0 v1 n v2 v3 σ K = some ((), σr) → (∀ (σ1 : rr_M), K σ1 = some ((), σr) → rr_J X G 5 (rr_E X G σr none) σ1 149 [] []) → rr_J X G 5 (rr_E X G σr none) σ 33 [(0, .ref v0), (1, .int v1), (2, .int v2), (3, .int v3)] [] := by
  intro n
  induction n with
  | zero =>
    intro v2 v3 σ K hm
    cases hm
  | succ n ih =>
    intro v2 v3 σ K hm hk
    unfold l_Pla_refine_33 at hm
    refine rx_iload_n C 3 dX4_refine_33 rfl ?_
    refine rx_iload_n C 2 dX4_refine_34 rfl ?_
    refine rx_isub C dX4_refine_35 ?_
    refine rx_iconst (v := 1) C dX4_refine_36 rfl ?_
    refine rx_icmp_le (tgt := 149) C dX4_refine_37 (by decide) hm (fun h_10 hm => ?_) (fun h_10 hm => ?_)
    · refine rx_lv [] rfl ?_
      exact hk _ hm
    refine rx_aload_n C 0 dX4_refine_40 rfl ?_
    refine gf_295 C m_v0 k_v0 dX4_refine_41 ?_
    refine rx_sipush (v := 256) C dX4_refine_44 rfl ?_
    refine rx_icmp_ge (tgt := 149) C dX4_refine_47 (by decide) hm (fun h_11 hm => ?_) (fun h_11 hm => ?_)
    · refine rx_lv [] rfl ?_
      exact hk _ hm
    refine rx_aload_n C 0 dX4_refine_50 rfl ?_
    refine rx_dup C dX4_refine_51 rfl ?_
    refine gf_295 C m_v0 k_v0 dX4_refine_52 ?_
    refine rx_iconst (v := 1) C dX4_refine_55 rfl ?_
    refine rx_iadd C dX4_refine_56 ?_
    refine pf_295 C m_v0 k_v0 dX4_refine_57 hm (fun σ_12 hm => ?_)
    refine rx_aload_n C 0 dX4_refine_60 rfl ?_
    refine gf_292 C m_v0 k_v0 dX4_refine_61 hm (fun p_13 m_p_13 k_p_13 hm => ?_)
    refine rx_aload_n C 0 dX4_refine_64 rfl ?_
    refine gf_292 C m_v0 k_v0 dX4_refine_65 hm (fun p_14 m_p_14 k_p_14 hm => ?_)
    refine rx_lconst (v := 1) C dX4_refine_68 rfl ?_
    refine rx_iconst (v := 0) C dX4_refine_69 rfl ?_
    obtain ⟨_, σ_15, hc_16, hm⟩ := rr_bd_some hm
    refine rr_callV (rest := []) (st1 := []) C 0 hll (c_Big_addTimes l G hG fu p_13 m_p_13 k_p_13 p_14 m_p_14 k_p_14 1 0 σ_12 _ hc_16) q_733 q_580 q_581 q_6 q_582 hd_Big_addTimes ⟨_, rfl, rfl⟩ (by decide) m_p_13 k_p_13 ⟨by decide, by decide⟩ rfl rfl (Nat.le_of_ble_eq_true rfl) rfl dX4_refine_70 ?_
    refine rx_aload_n C 0 dX4_refine_73 rfl ?_
    refine gf_293 C m_v0 k_v0 dX4_refine_74 hm (fun p_17 m_p_17 k_p_17 hm => ?_)
    refine rx_aload_n C 0 dX4_refine_77 rfl ?_
    refine gf_292 C m_v0 k_v0 dX4_refine_78 hm (fun p_18 m_p_18 k_p_18 hm => ?_)
    obtain ⟨_, σ_19, hc_20, hm⟩ := rr_bd_some hm
    refine rr_callV (rest := []) (st1 := []) C 0 hll (c_Big_copy l G hG p_17 m_p_17 k_p_17 p_18 m_p_18 k_p_18 σ_15 _ hc_20) q_734 q_563 q_564 q_6 q_565 hd_Big_copy ⟨_, rfl, rfl⟩ (by decide) m_p_17 k_p_17 ⟨by decide, by decide⟩ rfl rfl (Nat.le_of_ble_eq_true rfl) rfl dX4_refine_81 ?_
    refine rx_aload_n C 0 dX4_refine_84 rfl ?_
    refine gf_293 C m_v0 k_v0 dX4_refine_85 hm (fun p_21 m_p_21 k_p_21 hm => ?_)
    refine rx_aload_n C 0 dX4_refine_88 rfl ?_
    refine gf_294 C m_v0 k_v0 dX4_refine_89 hm (fun p_22 m_p_22 k_p_22 hm => ?_)
    refine rx_ldc2 C q_735 dX4_refine_92 ?_
    refine rx_iconst (v := 0) C dX4_refine_95 rfl ?_
    obtain ⟨_, σ_23, hc_24, hm⟩ := rr_bd_some hm
    refine rr_callV (rest := []) (st1 := []) C 0 hll (c_Big_addTimes l G hG fu p_21 m_p_21 k_p_21 p_22 m_p_22 k_p_22 (-1) 0 σ_19 _ hc_24) q_733 q_580 q_581 q_6 q_582 hd_Big_addTimes ⟨_, rfl, rfl⟩ (by decide) m_p_21 k_p_21 ⟨by decide, by decide⟩ rfl rfl (Nat.le_of_ble_eq_true rfl) rfl dX4_refine_96 ?_
    refine rx_aload_n C 0 dX4_refine_99 rfl ?_
    refine gf_283 C m_v0 k_v0 dX4_refine_100 hm (fun p_25 m_p_25 k_p_25 hm => ?_)
    refine rx_aload_n C 0 dX4_refine_103 rfl ?_
    refine gf_293 C m_v0 k_v0 dX4_refine_104 hm (fun p_26 m_p_26 k_p_26 hm => ?_)
    refine rx_aload_n C 0 dX4_refine_107 rfl ?_
    refine gf_295 C m_v0 k_v0 dX4_refine_108 ?_
    obtain ⟨_, σ_27, hc_28, hm⟩ := rr_bd_some hm
    refine rr_callV (rest := []) (st1 := []) C 4 hll (c_Poi_moveTo l G hG fu p_25 m_p_25 k_p_25 p_26 m_p_26 k_p_26 (mg_i σ_23 v0 14) σ_23 _ hc_28) q_736 q_737 q_738 q_8 q_739 hd_Poi_moveTo ⟨_, rfl, rfl⟩ (by decide) m_p_25 k_p_25 ⟨by decide, by decide⟩ rfl rfl (Nat.le_of_ble_eq_true rfl) rfl dX4_refine_111 ?_
    refine rx_aload_n C 0 dX4_refine_114 rfl ?_
    obtain ⟨r_29, σ_30, hc_31, hm⟩ := rr_bd_some hm
    refine rr_callV (rest := []) (st1 := [.int r_29]) C 3 hll (c_Pla_rootsUpToPoint l G hG fu v0 m_v0 k_v0 σ_27 _ _ hc_31) q_706 q_708 qs_28 q_10 q_709 hd_Pla_rootsUpToPoint ⟨_, rfl, rfl⟩ (by decide) m_v0 k_v0 ⟨by decide, by decide⟩ rfl rfl (Nat.le_of_ble_eq_true rfl) rfl dX4_refine_115 ?_
    refine rx_istore (lv1 := [(4, .int r_29), (0, .ref v0), (1, .int v1), (2, .int v2), (3, .int v3)]) C dX4_refine_118 (by decide) rfl ?_
    refine rx_iload_n C 2 dX4_refine_120 rfl ?_
    refine rx_iload C 0 dX4_refine_121 rfl ?_
    refine rr_jn3 hm (fun j146 ej146 hm => ?_)
    have hj146 : ∀ (v2_32 : Int32) (v3_33 : Int32) (σ_34 : rr_M), j146 v2_32 v3_33 σ_34 = some ((), σr) → rr_J X G 5 (rr_E X G σr none) σ_34 146 [(0, .ref v0), (1, .int v1), (2, .int v2_32), (3, .int v3_33)] [] := by
      intro v2_32 v3_33 σ_34 hm
      replace hm := ej146 _ _ _ hm
      refine rx_goto (tgt := 33) C dX4_refine_146 (by decide) ?_
      refine rx_lv [0, 1, 2, 3] rfl ?_
      exact ih _ _ _ _ hm hk
    refine rx_icmp_ge (tgt := 143) C dX4_refine_123 (by decide) hm (fun h_35 hm => ?_) (fun h_35 hm => ?_)
    · refine rx_iload C 0 dX4_refine_143 rfl ?_
      refine rx_istore_n (lv1 := [(2, .int r_29), (4, .int r_29), (0, .ref v0), (1, .int v1), (3, .int v3)]) C dX4_refine_145 (by decide) rfl ?_
      refine rx_lv [2, 3, 0, 4] rfl ?_
      exact hj146 _ _ _ hm
    refine rx_aload_n C 1 dX4_refine_126 rfl ?_
    refine gf_292 C m_v0 k_v0 dX4_refine_127 hm (fun p_36 m_p_36 k_p_36 hm => ?_)
    refine rx_aload_n C 1 dX4_refine_130 rfl ?_
    refine gf_293 C m_v0 k_v0 dX4_refine_131 hm (fun p_37 m_p_37 k_p_37 hm => ?_)
    obtain ⟨_, σ_38, hc_39, hm⟩ := rr_bd_some hm
    refine rr_callV (rest := []) (st1 := []) C 0 hll (c_Big_copy l G hG p_36 m_p_36 k_p_36 p_37 m_p_37 k_p_37 σ_30 _ hc_39) q_734 q_563 q_564 q_6 q_565 hd_Big_copy ⟨_, rfl, rfl⟩ (by decide) m_p_36 k_p_36 ⟨by decide, by decide⟩ rfl rfl (Nat.le_of_ble_eq_true rfl) rfl dX4_refine_134 ?_
    refine rx_iload C 0 dX4_refine_137 rfl ?_
    refine rx_istore_n (lv1 := [(3, .int r_29), (4, .int r_29), (0, .ref v0), (1, .int v1), (2, .int v2)]) C dX4_refine_139 (by decide) rfl ?_
    refine rx_goto (tgt := 146) C dX4_refine_140 (by decide) ?_
    refine rx_lv [2, 3, 4, 0] rfl ?_
    exact hj146 _ _ _ hm
def f_Pla_refine (fu : Nat) (N : Nat → Nat) (v0 : Nat) (v1 : Int32) (σ : rr_M) : Option (Unit × rr_M) :=
    rr_lt (mg_r σ v0 11) fun p_1 =>
    rr_lt (mg_r σ v0 8) fun p_2 =>
    (if rr_ix v1 (N p_2) then
    rr_bd (f_Big_set fu N p_1 (mg_l σ p_2 (rr_n v1)) σ) fun _ σ_3 =>
    rr_lt (ms_i σ_3 v0 14 12) fun σ_5 =>
    rr_lt (mg_r σ_5 v0 9) fun p_6 =>
    (if rr_ix v1 (N p_6) then
    rr_lt (mg_i σ_5 p_6 (rr_n v1)) fun v2_7 =>
    rr_lt (mg_r σ_5 v0 10) fun p_8 =>
    (if rr_ix v1 (N p_8) then
    rr_lt (mg_i σ_5 p_8 (rr_n v1)) fun v3_9 =>
    l_Pla_refine_33 fu N v0 v1 fu v2_7 v3_9 σ_5 (fun σ_40 =>
    some ((), σ_40)) else none) else none) else none)
theorem c_Pla_refine (l : Launch) (G : rr_G) (hG : G.2.2.1.Nodup) (fu : Nat) (v0 : Nat) (m_v0 : v0 ∈ G.2.2.1) (k_v0 : G.2.2.2.1 v0 = 3) (v1 : Int32) (σ : rr_M) (σr : rr_M) (hm : f_Pla_refine fu G.2.2.2.2 v0 v1 σ = some ((), σr)) : rr_Met l G yX4_refine cX4_refine 5 none 5 139 [.ref v0, .int v1] σ σr none := by
  refine rr_enter (lv0 := [(0, .ref v0), (1, .int v1)]) hp_Pla_refine hG (Nat.le_of_ble_eq_true rfl) rfl (fun X hll C => ?_)
  replace C : rr_C X G cX4_refine 5 "RootRows$Placer" none 5 139 := C
  unfold f_Pla_refine at hm
  refine rx_aload_n C 0 dX4_refine_0 rfl ?_
  refine gf_292 C m_v0 k_v0 dX4_refine_1 hm (fun p_1 m_p_1 k_p_1 hm => ?_)
  refine rx_aload_n C 0 dX4_refine_4 rfl ?_
  refine gf_289 C m_v0 k_v0 dX4_refine_5 hm (fun p_2 m_p_2 k_p_2 hm => ?_)
  refine rx_iload_n C 1 dX4_refine_8 rfl ?_
  refine rx_lald C m_p_2 k_p_2 dX4_refine_9 hm (fun hm => ?_)
  obtain ⟨_, σ_3, hc_4, hm⟩ := rr_bd_some hm
  refine rr_callV (rest := []) (st1 := []) C 0 hll (c_Big_set l G hG fu p_1 m_p_1 k_p_1 (mg_l σ p_2 (rr_n v1)) σ _ hc_4) q_270 q_271 q_272 q_6 q_273 hd_Big_set ⟨_, rfl, rfl⟩ (by decide) m_p_1 k_p_1 ⟨by decide, by decide⟩ rfl rfl (Nat.le_of_ble_eq_true rfl) rfl dX4_refine_10 ?_
  refine rx_aload_n C 0 dX4_refine_13 rfl ?_
  refine rx_bipush (v := 12) C dX4_refine_14 rfl ?_
  refine pf_295 C m_v0 k_v0 dX4_refine_16 hm (fun σ_5 hm => ?_)
  refine rx_aload_n C 0 dX4_refine_19 rfl ?_
  refine gf_290 C m_v0 k_v0 dX4_refine_20 hm (fun p_6 m_p_6 k_p_6 hm => ?_)
  refine rx_iload_n C 1 dX4_refine_23 rfl ?_
  refine rx_iald C m_p_6 k_p_6 dX4_refine_24 hm (fun hm => ?_)
  refine rx_nmi hm (fun v2_7 ev2_7 hm => ?_)
  refine rx_istore_n (lv1 := [(2, .int v2_7), (0, .ref v0), (1, .int v1)]) C dX4_refine_25 (by decide) rfl ?_
  refine rx_aload_n C 1 dX4_refine_26 rfl ?_
  refine gf_291 C m_v0 k_v0 dX4_refine_27 hm (fun p_8 m_p_8 k_p_8 hm => ?_)
  refine rx_iload_n C 2 dX4_refine_30 rfl ?_
  refine rx_iald C m_p_8 k_p_8 dX4_refine_31 hm (fun hm => ?_)
  refine rx_nmi hm (fun v3_9 ev3_9 hm => ?_)
  refine rx_istore_n (lv1 := [(3, .int v3_9), (2, .int v2_7), (0, .ref v0), (1, .int v1)]) C dX4_refine_32 (by decide) rfl ?_
  refine rx_lv [2, 3, 1, 0] rfl ?_
  refine lw_Pla_refine_33 hG hll C v0 m_v0 k_v0 v1 _ _ _ _ _ hm (fun σ_40 hm => ?_)
  exact rx_vret C dX4_refine_149 hm
def f_Pla_isInCell (fu : Nat) (N : Nat → Nat) (v0 : Nat) (v1 : Nat) (σ : rr_M) : Option (Int32 × rr_M) :=
    rr_lt (mg_r σ v0 12) fun p_1 =>
    rr_lt (mg_r σ v0 11) fun p_2 =>
    rr_bd (f_Big_copy N p_1 p_2 σ) fun _ σ_3 =>
    rr_lt (mg_r σ_3 v0 12) fun p_5 =>
    rr_lt (mg_r σ_3 v0 13) fun p_6 =>
    rr_bd (f_Big_addTimes fu N p_5 p_6 (-1) 0 σ_3) fun _ σ_7 =>
    rr_lt (mg_r σ_7 v0 2) fun p_9 =>
    rr_lt (mg_r σ_7 v0 12) fun p_10 =>
    rr_bd (f_Poi_moveTo fu N p_9 p_10 (mg_i σ_7 v0 14) σ_7) fun _ σ_11 =>
    rr_lt (mg_r σ_11 v0 2) fun p_13 =>
    rr_bd (f_Poi_signOf fu N p_13 v1 σ_11) fun r_14 σ_15 =>
    rr_jn (fun (v2_17 : Int32) (σ_18 : rr_M) =>
    rr_lt (mg_r σ_18 v0 2) fun p_19 =>
    rr_lt (mg_r σ_18 v0 11) fun p_20 =>
    rr_bd (f_Poi_moveTo fu N p_19 p_20 (mg_i σ_18 v0 14) σ_18) fun _ σ_21 =>
    rr_lt (mg_r σ_21 v0 2) fun p_23 =>
    rr_bd (f_Poi_signOf fu N p_23 v1 σ_21) fun r_24 σ_25 =>
    if r_24 = v2_17 then (if rr_b1 0 then some (0, σ_25) else none) else
    if rr_b1 1 then some (1, σ_25) else none) fun j74 =>
    if r_14 = 0 then (rr_lt (mg_r σ_15 v0 4) fun p_29 =>
    rr_bd (f_Num_setSlope fu N p_29 v1 σ_15) fun _ σ_30 =>
    rr_lt (mg_r σ_30 v0 2) fun p_32 =>
    rr_lt (mg_r σ_30 v0 4) fun p_33 =>
    rr_bd (f_Poi_signOf fu N p_32 p_33 σ_30) fun r_34 σ_35 =>
    j74 r_34 σ_35) else
    j74 r_14 σ_15
theorem c_Pla_isInCell (l : Launch) (G : rr_G) (hG : G.2.2.1.Nodup) (fu : Nat) (v0 : Nat) (m_v0 : v0 ∈ G.2.2.1) (k_v0 : G.2.2.2.1 v0 = 3) (v1 : Nat) (m_v1 : v1 ∈ G.2.2.1) (k_v1 : G.2.2.2.1 v1 = 12) (σ : rr_M) (r : Int32) (σr : rr_M) (hm : f_Pla_isInCell fu G.2.2.2.2 v0 v1 σ = some (r, σr)) : rr_Met l G yX4_isInCell cX4_isInCell 3 (some .boolean) 5 138 [.ref v0, .ref v1] σ σr (some (.int r)) := by
  refine rr_enter (lv0 := [(0, .ref v0), (1, .ref v1)]) hp_Pla_isInCell hG (Nat.le_of_ble_eq_true rfl) rfl (fun X hll C => ?_)
  replace C : rr_C X G cX4_isInCell 3 "RootRows$Placer" (some .boolean) 5 138 := C
  unfold f_Pla_isInCell at hm
  refine rx_aload_n C 0 dX4_isInCell_0 rfl ?_
  refine gf_293 C m_v0 k_v0 dX4_isInCell_1 hm (fun p_1 m_p_1 k_p_1 hm => ?_)
  refine rx_aload_n C 0 dX4_isInCell_4 rfl ?_
  refine gf_292 C m_v0 k_v0 dX4_isInCell_5 hm (fun p_2 m_p_2 k_p_2 hm => ?_)
  obtain ⟨_, σ_3, hc_4, hm⟩ := rr_bd_some hm
  refine rr_callV (rest := []) (st1 := []) C 0 hll (c_Big_copy l G hG p_1 m_p_1 k_p_1 p_2 m_p_2 k_p_2 σ _ hc_4) q_734 q_563 q_564 q_6 q_565 hd_Big_copy ⟨_, rfl, rfl⟩ (by decide) m_p_1 k_p_1 ⟨by decide, by decide⟩ rfl rfl (Nat.le_of_ble_eq_true rfl) rfl dX4_isInCell_8 ?_
  refine rx_aload_n C 0 dX4_isInCell_11 rfl ?_
  refine gf_293 C m_v0 k_v0 dX4_isInCell_12 hm (fun p_5 m_p_5 k_p_5 hm => ?_)
  refine rx_aload_n C 0 dX4_isInCell_15 rfl ?_
  refine gf_294 C m_v0 k_v0 dX4_isInCell_16 hm (fun p_6 m_p_6 k_p_6 hm => ?_)
  refine rx_ldc2 C q_735 dX4_isInCell_19 ?_
  refine rx_iconst (v := 0) C dX4_isInCell_22 rfl ?_
  obtain ⟨_, σ_7, hc_8, hm⟩ := rr_bd_some hm
  refine rr_callV (rest := []) (st1 := []) C 0 hll (c_Big_addTimes l G hG fu p_5 m_p_5 k_p_5 p_6 m_p_6 k_p_6 (-1) 0 σ_3 _ hc_8) q_733 q_580 q_581 q_6 q_582 hd_Big_addTimes ⟨_, rfl, rfl⟩ (by decide) m_p_5 k_p_5 ⟨by decide, by decide⟩ rfl rfl (Nat.le_of_ble_eq_true rfl) rfl dX4_isInCell_23 ?_
  refine rx_aload_n C 0 dX4_isInCell_26 rfl ?_
  refine gf_283 C m_v0 k_v0 dX4_isInCell_27 hm (fun p_9 m_p_9 k_p_9 hm => ?_)
  refine rx_aload_n C 0 dX4_isInCell_30 rfl ?_
  refine gf_293 C m_v0 k_v0 dX4_isInCell_31 hm (fun p_10 m_p_10 k_p_10 hm => ?_)
  refine rx_aload_n C 0 dX4_isInCell_34 rfl ?_
  refine gf_295 C m_v0 k_v0 dX4_isInCell_35 ?_
  obtain ⟨_, σ_11, hc_12, hm⟩ := rr_bd_some hm
  refine rr_callV (rest := []) (st1 := []) C 4 hll (c_Poi_moveTo l G hG fu p_9 m_p_9 k_p_9 p_10 m_p_10 k_p_10 (mg_i σ_7 v0 14) σ_7 _ hc_12) q_736 q_737 q_738 q_8 q_739 hd_Poi_moveTo ⟨_, rfl, rfl⟩ (by decide) m_p_9 k_p_9 ⟨by decide, by decide⟩ rfl rfl (Nat.le_of_ble_eq_true rfl) rfl dX4_isInCell_38 ?_
  refine rx_aload_n C 0 dX4_isInCell_41 rfl ?_
  refine gf_283 C m_v0 k_v0 dX4_isInCell_42 hm (fun p_13 m_p_13 k_p_13 hm => ?_)
  refine rx_aload_n C 1 dX4_isInCell_45 rfl ?_
  obtain ⟨r_14, σ_15, hc_16, hm⟩ := rr_bd_some hm
  refine rr_callV (rest := []) (st1 := [.int r_14]) C 4 hll (c_Poi_signOf l G hG fu p_13 m_p_13 k_p_13 v1 m_v1 k_v1 σ_11 _ _ hc_16) q_748 q_749 q_750 q_8 q_751 hd_Poi_signOf ⟨_, rfl, rfl⟩ (by decide) m_p_13 k_p_13 ⟨by decide, by decide⟩ rfl rfl (Nat.le_of_ble_eq_true rfl) rfl dX4_isInCell_46 ?_
  refine rx_istore_n (lv1 := [(2, .int r_14), (0, .ref v0), (1, .ref v1)]) C dX4_isInCell_49 (by decide) rfl ?_
  refine rx_iload_n C 0 dX4_isInCell_50 rfl ?_
  refine rr_jn2 hm (fun j74 ej74 hm => ?_)
  have hj74 : ∀ (v2_17 : Int32) (σ_18 : rr_M), j74 v2_17 σ_18 = some (r, σr) → rr_J X G 3 (rr_E X G σr (some (.int r))) σ_18 74 [(0, .ref v0), (1, .ref v1), (2, .int v2_17)] [] := by
    intro v2_17 σ_18 hm
    replace hm := ej74 _ _ hm
    refine rx_aload_n C 0 dX4_isInCell_74 rfl ?_
    refine gf_283 C m_v0 k_v0 dX4_isInCell_75 hm (fun p_19 m_p_19 k_p_19 hm => ?_)
    refine rx_aload_n C 0 dX4_isInCell_78 rfl ?_
    refine gf_292 C m_v0 k_v0 dX4_isInCell_79 hm (fun p_20 m_p_20 k_p_20 hm => ?_)
    refine rx_aload_n C 0 dX4_isInCell_82 rfl ?_
    refine gf_295 C m_v0 k_v0 dX4_isInCell_83 ?_
    obtain ⟨_, σ_21, hc_22, hm⟩ := rr_bd_some hm
    refine rr_callV (rest := []) (st1 := []) C 4 hll (c_Poi_moveTo l G hG fu p_19 m_p_19 k_p_19 p_20 m_p_20 k_p_20 (mg_i σ_18 v0 14) σ_18 _ hc_22) q_736 q_737 q_738 q_8 q_739 hd_Poi_moveTo ⟨_, rfl, rfl⟩ (by decide) m_p_19 k_p_19 ⟨by decide, by decide⟩ rfl rfl (Nat.le_of_ble_eq_true rfl) rfl dX4_isInCell_86 ?_
    refine rx_aload_n C 0 dX4_isInCell_89 rfl ?_
    refine gf_283 C m_v0 k_v0 dX4_isInCell_90 hm (fun p_23 m_p_23 k_p_23 hm => ?_)
    refine rx_aload_n C 1 dX4_isInCell_93 rfl ?_
    obtain ⟨r_24, σ_25, hc_26, hm⟩ := rr_bd_some hm
    refine rr_callV (rest := []) (st1 := [.int r_24]) C 4 hll (c_Poi_signOf l G hG fu p_23 m_p_23 k_p_23 v1 m_v1 k_v1 σ_21 _ _ hc_26) q_748 q_749 q_750 q_8 q_751 hd_Poi_signOf ⟨_, rfl, rfl⟩ (by decide) m_p_23 k_p_23 ⟨by decide, by decide⟩ rfl rfl (Nat.le_of_ble_eq_true rfl) rfl dX4_isInCell_94 ?_
    refine rx_iload_n C 2 dX4_isInCell_97 rfl ?_
    refine rx_icmp_eq (tgt := 105) C dX4_isInCell_98 (by decide) hm (fun h_27 hm => ?_) (fun h_27 hm => ?_)
    · refine rx_iconst (v := 0) C dX4_isInCell_105 rfl ?_
      exact rx_zret C dX4_isInCell_106 hm
    refine rx_iconst (v := 1) C dX4_isInCell_101 rfl ?_
    refine rx_goto (tgt := 106) C dX4_isInCell_102 (by decide) ?_
    exact rx_zret C dX4_isInCell_106 hm
  refine rx_if_ne (tgt := 74) C dX4_isInCell_51 (by decide) hm (fun h_28 hm => ?_) (fun h_28 hm => ?_)
  · refine rx_lv [1, 2, 0] rfl ?_
    exact hj74 _ _ hm
  refine rx_aload_n C 1 dX4_isInCell_54 rfl ?_
  refine gf_285 C m_v0 k_v0 dX4_isInCell_55 hm (fun p_29 m_p_29 k_p_29 hm => ?_)
  refine rx_aload_n C 2 dX4_isInCell_58 rfl ?_
  obtain ⟨_, σ_30, hc_31, hm⟩ := rr_bd_some hm
  refine rr_callS (rest := []) (st1 := []) C hll (c_Num_setSlope l G hG fu p_29 m_p_29 k_p_29 v1 m_v1 k_v1 σ_15 _ hc_31) q_685 q_543 q_12 q_544 hd_Num_setSlope ⟨by decide, by decide⟩ rfl rfl (Nat.le_of_ble_eq_true rfl) rfl dX4_isInCell_59 ?_
  refine rx_aload_n C 1 dX4_isInCell_62 rfl ?_
  refine gf_283 C m_v0 k_v0 dX4_isInCell_63 hm (fun p_32 m_p_32 k_p_32 hm => ?_)
  refine rx_aload_n C 1 dX4_isInCell_66 rfl ?_
  refine gf_285 C m_v0 k_v0 dX4_isInCell_67 hm (fun p_33 m_p_33 k_p_33 hm => ?_)
  obtain ⟨r_34, σ_35, hc_36, hm⟩ := rr_bd_some hm
  refine rr_callV (rest := []) (st1 := [.int r_34]) C 4 hll (c_Poi_signOf l G hG fu p_32 m_p_32 k_p_32 p_33 m_p_33 k_p_33 σ_30 _ _ hc_36) q_748 q_749 q_750 q_8 q_751 hd_Poi_signOf ⟨_, rfl, rfl⟩ (by decide) m_p_32 k_p_32 ⟨by decide, by decide⟩ rfl rfl (Nat.le_of_ble_eq_true rfl) rfl dX4_isInCell_70 ?_
  refine rx_istore_n (lv1 := [(2, .int r_34), (0, .ref v0), (1, .ref v1)]) C dX4_isInCell_73 (by decide) rfl ?_
  refine rx_lv [1, 2, 0] rfl ?_
  exact hj74 _ _ hm
def l_Pla_repeatsInCell_4 (fu : Nat) (N : Nat → Nat) (v0 : Nat) : Nat → Int32 → Int32 → rr_M → (Int32 → rr_M → Option (Int32 × rr_M)) → Option (Int32 × rr_M)
  | 0, _, _, _, _ => none
  | n + 1, v1, v2, σ, kk =>
    rr_lt (mg_r σ v0 0) fun p_1 =>
    if (mg_i σ p_1 2) ≤ v2 then (kk v1 σ) else
    if 8 ≤ v2 then (kk v1 σ) else
    rr_lt (mg_r σ v0 0) fun p_4 =>
    rr_lt (mg_r σ p_4 1) fun p_5 =>
    (if rr_ix v2 (N p_5) then
    rr_jn (fun (v1_6 : Int32) (σ_7 : rr_M) =>
    rr_lt (v2 + 1) fun v2_8 =>
    l_Pla_repeatsInCell_4 fu N v0 n v1_6 v2_8 σ_7 kk) fun j49 =>
    if (mg_i σ p_5 (rr_n v2)) ≤ 0 then (j49 v1 σ) else
    rr_lt (mg_r σ v0 3) fun p_10 =>
    (if rr_ix v2 (N p_10) then rr_lt (mg_r σ p_10 (rr_n v2)) fun p_11 =>
    rr_bd (f_Pla_isInCell fu N v0 p_11 σ) fun r_12 σ_13 =>
    if r_12 = 0 then (j49 v1 σ_13) else
    rr_lt (v1 + 1) fun v1_16 =>
    j49 v1_16 σ_13 else none) else none)
theorem lw_Pla_repeatsInCell_4 {X : rr_X} {G : rr_G} {l : Launch} {fu : Nat} (hG : G.2.2.1.Nodup) (hll : X.2.1 = l) (C : rr_C X G cX4_repeatsInCell 3 "RootRows$Placer" (some .int) 6 160) {r : Int32} {σr : rr_M} (v0 : Nat) (m_v0 : v0 ∈ G.2.2.1) (k_v0 : G.2.2.2.1 v0 = 3) : ∀ (n : Nat) (v1 : Int32) (v2 : Int32) (σ : rr_M) (K : Int32 → rr_M → Option (Int32 × rr_M)), l_Pla_repeatsInCell_4 fu G.2.2.2.2 v0 n v1 v2 σ K = some (r, σr) → (∀ (w1 : Int32) (σ1 : rr_M), K w1 σ1 = some (r, σr) → rr_J X G 3 (rr_E X G σr (some (.int r))) σ1 55 [(1, .int w1)] []) → rr_J X G 3 (rr_E X G σr (some (.int r))) σ 4 [(0, .ref v0), (1, .int v1), (2, .int v2)] [] := by
  intro n
  induction n with
  | zero =>
    intro v1 v2 σ K hm
    cases hm
  | succ n ih =>
    intro v1 v2 σ K hm hk
    unfold l_Pla_repeatsInCell_4 at hm
    refine rx_iload_n C 2 dX4_repeatsInCell_4 rfl ?_
    refine rx_aload_n C 0 dX4_repeatsInCell_5 rfl ?_
    refine gf_281 C m_v0 k_v0 dX4_repeatsInCell_6 hm (fun p_1 m_p_1 k_p_1 hm => ?_)
    refine gf_247 C m_p_1 k_p_1 dX4_repeatsInCell_9 ?_
    refine rx_icmp_ge (tgt := 55) C dX4_repeatsInCell_12 (by decide) hm (fun h_2 hm => ?_) (fun h_2 hm => ?_)
    · refine rx_lv [1] rfl ?_
      exact hk _ _ hm
    refine rx_iload_n C 2 dX4_repeatsInCell_15 rfl ?_
    refine rx_bipush (v := 8) C dX4_repeatsInCell_16 rfl ?_
    refine rx_icmp_ge (tgt := 55) C dX4_repeatsInCell_18 (by decide) hm (fun h_3 hm => ?_) (fun h_3 hm => ?_)
    · refine rx_lv [1] rfl ?_
      exact hk _ _ hm
    refine rx_aload_n C 0 dX4_repeatsInCell_21 rfl ?_
    refine gf_281 C m_v0 k_v0 dX4_repeatsInCell_22 hm (fun p_4 m_p_4 k_p_4 hm => ?_)
    refine gf_245 C m_p_4 k_p_4 dX4_repeatsInCell_25 hm (fun p_5 m_p_5 k_p_5 hm => ?_)
    refine rx_iload_n C 2 dX4_repeatsInCell_28 rfl ?_
    refine rx_iald C m_p_5 k_p_5 dX4_repeatsInCell_29 hm (fun hm => ?_)
    refine rr_jn2 hm (fun j49 ej49 hm => ?_)
    have hj49 : ∀ (v1_6 : Int32) (σ_7 : rr_M), j49 v1_6 σ_7 = some (r, σr) → rr_J X G 3 (rr_E X G σr (some (.int r))) σ_7 49 [(0, .ref v0), (1, .int v1_6), (2, .int v2)] [] := by
      intro v1_6 σ_7 hm
      replace hm := ej49 _ _ hm
      refine rx_iinc (d := 1) (lv1 := fun v => [(2, .int v), (0, .ref v0), (1, .int v1_6)]) C 2 dX4_repeatsInCell_49 hm rfl rfl (by decide) (fun _ => rfl) (fun v2_8 hm => ?_)
      refine rx_goto (tgt := 4) C dX4_repeatsInCell_52 (by decide) ?_
      refine rx_lv [1, 2, 0] rfl ?_
      exact ih _ _ _ _ hm hk
    refine rx_if_le (tgt := 49) C dX4_repeatsInCell_30 (by decide) hm (fun h_9 hm => ?_) (fun h_9 hm => ?_)
    · refine rx_lv [0, 1, 2] rfl ?_
      exact hj49 _ _ hm
    refine rx_aload_n C 0 dX4_repeatsInCell_33 rfl ?_
    refine rx_aload_n C 0 dX4_repeatsInCell_34 rfl ?_
    refine gf_284 C m_v0 k_v0 dX4_repeatsInCell_35 hm (fun p_10 m_p_10 k_p_10 hm => ?_)
    refine rx_iload_n C 2 dX4_repeatsInCell_38 rfl ?_
    refine rx_ald16 C m_p_10 k_p_10 dX4_repeatsInCell_39 hm (fun p_11 m_p_11 k_p_11 hm => ?_)
    obtain ⟨r_12, σ_13, hc_14, hm⟩ := rr_bd_some hm
    refine rr_callV (rest := []) (st1 := [.int r_12]) C 3 hll (c_Pla_isInCell l G hG fu v0 m_v0 k_v0 p_11 m_p_11 k_p_11 σ _ _ hc_14) q_744 q_746 qs_34 q_10 q_747 hd_Pla_isInCell ⟨_, rfl, rfl⟩ (by decide) m_v0 k_v0 ⟨by decide, by decide⟩ rfl rfl (Nat.le_of_ble_eq_true rfl) rfl dX4_repeatsInCell_40 ?_
    refine rx_if_eq (tgt := 49) C dX4_repeatsInCell_43 (by decide) hm (fun h_15 hm => ?_) (fun h_15 hm => ?_)
    · refine rx_lv [0, 1, 2] rfl ?_
      exact hj49 _ _ hm
    refine rx_iinc (d := 1) (lv1 := fun v => [(1, .int v), (0, .ref v0), (2, .int v2)]) C 1 dX4_repeatsInCell_46 hm rfl rfl (by decide) (fun _ => rfl) (fun v1_16 hm => ?_)
    refine rx_lv [1, 0, 2] rfl ?_
    exact hj49 _ _ hm
def f_Pla_repeatsInCell (fu : Nat) (N : Nat → Nat) (v0 : Nat) (σ : rr_M) : Option (Int32 × rr_M) :=
    l_Pla_repeatsInCell_4 fu N v0 fu 1 1 σ (fun v1_17 σ_18 =>
    some (v1_17, σ_18))
theorem c_Pla_repeatsInCell (l : Launch) (G : rr_G) (hG : G.2.2.1.Nodup) (fu : Nat) (v0 : Nat) (m_v0 : v0 ∈ G.2.2.1) (k_v0 : G.2.2.2.1 v0 = 3) (σ : rr_M) (r : Int32) (σr : rr_M) (hm : f_Pla_repeatsInCell fu G.2.2.2.2 v0 σ = some (r, σr)) : rr_Met l G yX4_repeatsInCell cX4_repeatsInCell 3 (some .int) 6 160 [.ref v0] σ σr (some (.int r)) := by
  refine rr_enter (lv0 := [(0, .ref v0)]) hp_Pla_repeatsInCell hG (Nat.le_of_ble_eq_true rfl) rfl (fun X hll C => ?_)
  replace C : rr_C X G cX4_repeatsInCell 3 "RootRows$Placer" (some .int) 6 160 := C
  unfold f_Pla_repeatsInCell at hm
  refine rx_iconst (v := 1) C dX4_repeatsInCell_0 rfl ?_
  refine rx_istore_n (lv1 := [(1, .int 1), (0, .ref v0)]) C dX4_repeatsInCell_1 (by decide) rfl ?_
  refine rx_iconst (v := 1) C dX4_repeatsInCell_2 rfl ?_
  refine rx_istore_n (lv1 := [(2, .int 1), (1, .int 1), (0, .ref v0)]) C dX4_repeatsInCell_3 (by decide) rfl ?_
  refine rx_lv [2, 1, 0] rfl ?_
  refine lw_Pla_repeatsInCell_4 hG hll C v0 m_v0 k_v0 _ _ _ _ _ hm (fun v1_17 σ_18 hm => ?_)
  refine rx_iload_n C 0 dX4_repeatsInCell_55 rfl ?_
  exact rx_iret C dX4_repeatsInCell_56 hm
def l_Pla_startBrackets_6 (fu : Nat) (N : Nat → Nat) (v0 : Nat) : Nat → Int64 → Int32 → rr_M → (Int64 → rr_M → Option (Unit × rr_M)) → Option (Unit × rr_M)
  | 0, _, _, _, _ => none
  | n + 1, v1, v3, σ, kk =>
    if 27 ≤ v3 then (kk v1 σ) else
    rr_lt (1 <<< ((v3 + 12).toInt64 &&& 63)) fun v4_2 =>
    rr_lt (mg_r σ v0 2) fun p_3 =>
    rr_bd (f_Poi_move fu N p_3 v4_2 12 σ) fun _ σ_4 =>
    rr_jn (fun (v1_6 : Int64) (σ_7 : rr_M) =>
    rr_lt (v3 + 1) fun v3_8 =>
    l_Pla_startBrackets_6 fu N v0 n v1_6 v3_8 σ_7 kk) fun j71 =>
    if v1 ≤ v4_2 then (j71 v1 σ_4) else
    rr_bd (f_Pla_rootsUpToPoint fu N v0 σ_4) fun r_10 σ_11 =>
    if r_10 = (mg_i σ_11 v0 5) then (rr_lt (mg_r σ_11 v0 2) fun p_14 =>
    rr_bd (f_Poi_move fu N p_14 (-v4_2) 12 σ_11) fun _ σ_15 =>
    rr_bd (f_Pla_rootsUpToPoint fu N v0 σ_15) fun r_17 σ_18 =>
    if r_17 = 0 then (j71 v4_2 σ_18) else
    j71 v1 σ_18) else
    j71 v1 σ_11
theorem lw_Pla_startBrackets_6 {X : rr_X} {G : rr_G} {l : Launch} {fu : Nat} (hG : G.2.2.1.Nodup) (hll : X.2.1 = l) (C : rr_C X G cX4_startBrackets 6 "RootRows$Placer" none 5 139) {σr : rr_M} (v0 : Nat) (m_v0 : v0 ∈ G.2.2.1) (k_v0 : G.2.2.2.1 v0 = 3) : ∀ (n : Nat) (v1 : Int64) (v3 : Int32) (σ : rr_M) (K : Int64 → rr_M → Option (Unit × rr_M)), l_Pla_startBrackets_6 fu G.2.2.2.2 v0 n v1 v3 σ K = some ((), σr) → (∀ (w1 : Int64) (σ1 : rr_M), K w1 σ1 = some ((), σr) → rr_J X G 6 (rr_E X G σr none) σ1 77 [(0, .ref v0), (1, .long w1)] []) → rr_J X G 6 (rr_E X G σr none) σ 6 [(0, .ref v0), (1, .long v1), (3, .int v3)] [] := by
  intro n
  induction n with
  | zero =>
    intro v1 v3 σ K hm
    cases hm
  | succ n ih =>
    intro v1 v3 σ K hm hk
    unfold l_Pla_startBrackets_6 at hm
    refine rx_iload_n C 2 dX4_startBrackets_6 rfl ?_
    refine rx_bipush (v := 27) C dX4_startBrackets_7 rfl ?_
    refine rx_icmp_ge (tgt := 77) C dX4_startBrackets_9 (by decide) hm (fun h_1 hm => ?_) (fun h_1 hm => ?_)
    · refine rx_lv [0, 1] rfl ?_
      exact hk _ _ hm
    refine rx_lconst (v := 1) C dX4_startBrackets_12 rfl ?_
    refine rx_iload_n C 2 dX4_startBrackets_13 rfl ?_
    refine rx_bipush (v := 12) C dX4_startBrackets_14 rfl ?_
    refine rx_iadd C dX4_startBrackets_16 ?_
    refine rx_lshl C dX4_startBrackets_17 ?_
    refine rx_nml hm (fun v4_2 ev4_2 hm => ?_)
    refine rx_lstore (lv1 := [(4, .long v4_2), (0, .ref v0), (1, .long v1), (3, .int v3)]) C dX4_startBrackets_18 (by decide) rfl ?_
    refine rx_aload_n C 1 dX4_startBrackets_20 rfl ?_
    refine gf_283 C m_v0 k_v0 dX4_startBrackets_21 hm (fun p_3 m_p_3 k_p_3 hm => ?_)
    refine rx_lload C 0 dX4_startBrackets_24 rfl ?_
    refine rx_bipush (v := 12) C dX4_startBrackets_26 rfl ?_
    obtain ⟨_, σ_4, hc_5, hm⟩ := rr_bd_some hm
    refine rr_callV (rest := []) (st1 := []) C 4 hll (c_Poi_move l G hG fu p_3 m_p_3 k_p_3 v4_2 12 σ _ hc_5) q_693 q_694 q_695 q_8 q_696 hd_Poi_move ⟨_, rfl, rfl⟩ (by decide) m_p_3 k_p_3 ⟨by decide, by decide⟩ rfl rfl (Nat.le_of_ble_eq_true rfl) rfl dX4_startBrackets_28 ?_
    refine rx_lload C 0 dX4_startBrackets_31 rfl ?_
    refine rx_lload_n C 2 dX4_startBrackets_33 rfl ?_
    refine rr_jn2 hm (fun j71 ej71 hm => ?_)
    have hj71 : ∀ (v1_6 : Int64) (σ_7 : rr_M), j71 v1_6 σ_7 = some ((), σr) → rr_J X G 6 (rr_E X G σr none) σ_7 71 [(0, .ref v0), (1, .long v1_6), (3, .int v3)] [] := by
      intro v1_6 σ_7 hm
      replace hm := ej71 _ _ hm
      refine rx_iinc (d := 1) (lv1 := fun v => [(3, .int v), (0, .ref v0), (1, .long v1_6)]) C 2 dX4_startBrackets_71 hm rfl rfl (by decide) (fun _ => rfl) (fun v3_8 hm => ?_)
      refine rx_goto (tgt := 6) C dX4_startBrackets_74 (by decide) ?_
      refine rx_lv [1, 2, 0] rfl ?_
      exact ih _ _ _ _ hm hk
    refine rx_lcmp_ge (tgt := 71) C dX4_startBrackets_34 dX4_startBrackets_35 (by decide) hm (fun h_9 hm => ?_) (fun h_9 hm => ?_)
    · refine rx_lv [1, 2, 3] rfl ?_
      exact hj71 _ _ hm
    refine rx_aload_n C 1 dX4_startBrackets_38 rfl ?_
    obtain ⟨r_10, σ_11, hc_12, hm⟩ := rr_bd_some hm
    refine rr_callV (rest := []) (st1 := [.int r_10]) C 3 hll (c_Pla_rootsUpToPoint l G hG fu v0 m_v0 k_v0 σ_4 _ _ hc_12) q_706 q_708 qs_28 q_10 q_709 hd_Pla_rootsUpToPoint ⟨_, rfl, rfl⟩ (by decide) m_v0 k_v0 ⟨by decide, by decide⟩ rfl rfl (Nat.le_of_ble_eq_true rfl) rfl dX4_startBrackets_39 ?_
    refine rx_aload_n C 1 dX4_startBrackets_42 rfl ?_
    refine gf_286 C m_v0 k_v0 dX4_startBrackets_43 ?_
    refine rx_icmp_ne (tgt := 71) C dX4_startBrackets_46 (by decide) hm (fun h_13 hm => ?_) (fun h_13 hm => ?_)
    · refine rx_lv [1, 2, 3] rfl ?_
      exact hj71 _ _ hm
    refine rx_aload_n C 1 dX4_startBrackets_49 rfl ?_
    refine gf_283 C m_v0 k_v0 dX4_startBrackets_50 hm (fun p_14 m_p_14 k_p_14 hm => ?_)
    refine rx_lload C 0 dX4_startBrackets_53 rfl ?_
    refine rx_lneg C dX4_startBrackets_55 ?_
    refine rx_bipush (v := 12) C dX4_startBrackets_56 rfl ?_
    obtain ⟨_, σ_15, hc_16, hm⟩ := rr_bd_some hm
    refine rr_callV (rest := []) (st1 := []) C 4 hll (c_Poi_move l G hG fu p_14 m_p_14 k_p_14 (-v4_2) 12 σ_11 _ hc_16) q_693 q_694 q_695 q_8 q_696 hd_Poi_move ⟨_, rfl, rfl⟩ (by decide) m_p_14 k_p_14 ⟨by decide, by decide⟩ rfl rfl (Nat.le_of_ble_eq_true rfl) rfl dX4_startBrackets_58 ?_
    refine rx_aload_n C 1 dX4_startBrackets_61 rfl ?_
    obtain ⟨r_17, σ_18, hc_19, hm⟩ := rr_bd_some hm
    refine rr_callV (rest := []) (st1 := [.int r_17]) C 3 hll (c_Pla_rootsUpToPoint l G hG fu v0 m_v0 k_v0 σ_15 _ _ hc_19) q_706 q_708 qs_28 q_10 q_709 hd_Pla_rootsUpToPoint ⟨_, rfl, rfl⟩ (by decide) m_v0 k_v0 ⟨by decide, by decide⟩ rfl rfl (Nat.le_of_ble_eq_true rfl) rfl dX4_startBrackets_62 ?_
    refine rx_if_ne (tgt := 71) C dX4_startBrackets_65 (by decide) hm (fun h_20 hm => ?_) (fun h_20 hm => ?_)
    · refine rx_lv [1, 2, 3] rfl ?_
      exact hj71 _ _ hm
    refine rx_lload C 0 dX4_startBrackets_68 rfl ?_
    refine rx_lstore_n (lv1 := [(1, .long v4_2), (4, .long v4_2), (0, .ref v0), (3, .int v3)]) C dX4_startBrackets_70 (by decide) rfl ?_
    refine rx_lv [2, 0, 3] rfl ?_
    exact hj71 _ _ hm
def l_Pla_startBrackets_79 (fu : Nat) (N : Nat → Nat) (v0 : Nat) (v1 : Int64) : Nat → Int32 → rr_M → (rr_M → Option (Unit × rr_M)) → Option (Unit × rr_M)
  | 0, _, _, _ => none
  | n + 1, v3, σ, kk =>
    if (mg_i σ v0 5) ≤ v3 then (kk σ) else
    rr_lt (mg_r σ v0 7) fun p_24 =>
    (if rr_ix v3 (N p_24) then rr_lt (ms_l σ p_24 (rr_n v3) (-v1)) fun σ_25 =>
    rr_lt (mg_r σ_25 v0 8) fun p_26 =>
    (if rr_ix v3 (N p_26) then rr_lt (ms_l σ_25 p_26 (rr_n v3) v1) fun σ_27 =>
    rr_lt (mg_r σ_27 v0 9) fun p_28 =>
    (if rr_ix v3 (N p_28) then rr_lt (ms_i σ_27 p_28 (rr_n v3) 0) fun σ_29 =>
    rr_lt (mg_r σ_29 v0 10) fun p_30 =>
    (if rr_ix v3 (N p_30) then rr_lt (ms_i σ_29 p_30 (rr_n v3) (mg_i σ_29 v0 5)) fun σ_31 =>
    rr_lt (v3 + 1) fun v3_32 =>
    l_Pla_startBrackets_79 fu N v0 v1 n v3_32 σ_31 kk else none) else none) else none) else none)
theorem lw_Pla_startBrackets_79 {X : rr_X} {G : rr_G} {l : Launch} {fu : Nat} (hG : G.2.2.1.Nodup) (hll : X.2.1 = l) (C : rr_C X G cX4_startBrackets 6 "RootRows$Placer" none 5 139) {σr : rr_M} (v0 : Nat) (m_v0 : v0 ∈ G.2.2.1) (k_v0 : G.2.2.2.1 v0 = 3) (v1 : Int64) : ∀ (n : Nat) (v3 : Int32) (σ : rr_M) (K : rr_M → Option (Unit × rr_M)), l_Pla_startBrackets_79 fu G.2.2.2.2 v0 v1 n v3 σ K = some ((), σr) → (∀ (σ1 : rr_M), K σ1 = some ((), σr) → rr_J X G 6 (rr_E X G σr none) σ1 125 [] []) → rr_J X G 6 (rr_E X G σr none) σ 79 [(0, .ref v0), (1, .long v1), (3, .int v3)] [] := by
  intro n
  induction n with
  | zero =>
    intro v3 σ K hm
    cases hm
  | succ n ih =>
    intro v3 σ K hm hk
    unfold l_Pla_startBrackets_79 at hm
    refine rx_iload_n C 2 dX4_startBrackets_79 rfl ?_
    refine rx_aload_n C 0 dX4_startBrackets_80 rfl ?_
    refine gf_286 C m_v0 k_v0 dX4_startBrackets_81 ?_
    refine rx_icmp_ge (tgt := 125) C dX4_startBrackets_84 (by decide) hm (fun h_23 hm => ?_) (fun h_23 hm => ?_)
    · refine rx_lv [] rfl ?_
      exact hk _ hm
    refine rx_aload_n C 0 dX4_startBrackets_87 rfl ?_
    refine gf_288 C m_v0 k_v0 dX4_startBrackets_88 hm (fun p_24 m_p_24 k_p_24 hm => ?_)
    refine rx_iload_n C 2 dX4_startBrackets_91 rfl ?_
    refine rx_lload_n C 1 dX4_startBrackets_92 rfl ?_
    refine rx_lneg C dX4_startBrackets_93 ?_
    refine rx_last C m_p_24 k_p_24 dX4_startBrackets_94 hm (fun σ_25 hm => ?_)
    refine rx_aload_n C 0 dX4_startBrackets_95 rfl ?_
    refine gf_289 C m_v0 k_v0 dX4_startBrackets_96 hm (fun p_26 m_p_26 k_p_26 hm => ?_)
    refine rx_iload_n C 2 dX4_startBrackets_99 rfl ?_
    refine rx_lload_n C 1 dX4_startBrackets_100 rfl ?_
    refine rx_last C m_p_26 k_p_26 dX4_startBrackets_101 hm (fun σ_27 hm => ?_)
    refine rx_aload_n C 0 dX4_startBrackets_102 rfl ?_
    refine gf_290 C m_v0 k_v0 dX4_startBrackets_103 hm (fun p_28 m_p_28 k_p_28 hm => ?_)
    refine rx_iload_n C 2 dX4_startBrackets_106 rfl ?_
    refine rx_iconst (v := 0) C dX4_startBrackets_107 rfl ?_
    refine rx_iast C m_p_28 k_p_28 dX4_startBrackets_108 hm (fun σ_29 hm => ?_)
    refine rx_aload_n C 0 dX4_startBrackets_109 rfl ?_
    refine gf_291 C m_v0 k_v0 dX4_startBrackets_110 hm (fun p_30 m_p_30 k_p_30 hm => ?_)
    refine rx_iload_n C 2 dX4_startBrackets_113 rfl ?_
    refine rx_aload_n C 0 dX4_startBrackets_114 rfl ?_
    refine gf_286 C m_v0 k_v0 dX4_startBrackets_115 ?_
    refine rx_iast C m_p_30 k_p_30 dX4_startBrackets_118 hm (fun σ_31 hm => ?_)
    refine rx_iinc (d := 1) (lv1 := fun v => [(3, .int v), (0, .ref v0), (1, .long v1)]) C 2 dX4_startBrackets_119 hm rfl rfl (by decide) (fun _ => rfl) (fun v3_32 hm => ?_)
    refine rx_goto (tgt := 79) C dX4_startBrackets_122 (by decide) ?_
    refine rx_lv [1, 2, 0] rfl ?_
    exact ih _ _ _ hm hk
def f_Pla_startBrackets (fu : Nat) (N : Nat → Nat) (v0 : Nat) (σ : rr_M) : Option (Unit × rr_M) :=
    l_Pla_startBrackets_6 fu N v0 fu 549755813888 0 σ (fun v1_21 σ_22 =>
    l_Pla_startBrackets_79 fu N v0 v1_21 fu 0 σ_22 (fun σ_33 =>
    some ((), σ_33)))
theorem c_Pla_startBrackets (l : Launch) (G : rr_G) (hG : G.2.2.1.Nodup) (fu : Nat) (v0 : Nat) (m_v0 : v0 ∈ G.2.2.1) (k_v0 : G.2.2.2.1 v0 = 3) (σ : rr_M) (σr : rr_M) (hm : f_Pla_startBrackets fu G.2.2.2.2 v0 σ = some ((), σr)) : rr_Met l G yX4_startBrackets cX4_startBrackets 6 none 5 139 [.ref v0] σ σr none := by
  refine rr_enter (lv0 := [(0, .ref v0)]) hp_Pla_startBrackets hG (Nat.le_of_ble_eq_true rfl) rfl (fun X hll C => ?_)
  replace C : rr_C X G cX4_startBrackets 6 "RootRows$Placer" none 5 139 := C
  unfold f_Pla_startBrackets at hm
  refine rx_ldc2 C q_692 dX4_startBrackets_0 ?_
  refine rx_lstore_n (lv1 := [(1, .long 549755813888), (0, .ref v0)]) C dX4_startBrackets_3 (by decide) rfl ?_
  refine rx_iconst (v := 0) C dX4_startBrackets_4 rfl ?_
  refine rx_istore_n (lv1 := [(3, .int 0), (1, .long 549755813888), (0, .ref v0)]) C dX4_startBrackets_5 (by decide) rfl ?_
  refine rx_lv [2, 1, 0] rfl ?_
  refine lw_Pla_startBrackets_6 hG hll C v0 m_v0 k_v0 _ _ _ _ _ hm (fun v1_21 σ_22 hm => ?_)
  refine rx_iconst (v := 0) C dX4_startBrackets_77 rfl ?_
  refine rx_istore_n (lv1 := [(3, .int 0), (0, .ref v0), (1, .long v1_21)]) C dX4_startBrackets_78 (by decide) rfl ?_
  refine rx_lv [1, 2, 0] rfl ?_
  refine lw_Pla_startBrackets_79 hG hll C v0 m_v0 k_v0 v1_21 _ _ _ _ hm (fun σ_33 hm => ?_)
  exact rx_vret C dX4_startBrackets_125 hm
def l_Pla_place_57 (fu : Nat) (N : Nat → Nat) (v0 : Nat) (v1 : Nat) : Nat → Int32 → rr_M → (rr_M → Option (Unit × rr_M)) → Option (Unit × rr_M)
  | 0, _, _, _ => none
  | n + 1, v2, σ, kk =>
    if (mg_i σ v0 5) ≤ v2 then (kk σ) else
    rr_bd (f_Pla_part fu N v0 v2 σ) fun _ σ_14 =>
    rr_bd (f_Pla_narrow fu N v0 v2 σ_14) fun _ σ_16 =>
    rr_lt (mg_r σ_16 v0 2) fun p_18 =>
    rr_lt (mg_r σ_16 v0 8) fun p_19 =>
    (if rr_ix v2 (N p_19) then
    rr_bd (f_Poi_move fu N p_18 (mg_l σ_16 p_19 (rr_n v2)) 12 σ_16) fun _ σ_20 =>
    rr_lt (mg_r σ_20 v1 10) fun p_22 =>
    rr_lt (mg_r σ_20 v0 8) fun p_23 =>
    (if rr_ix v2 (N p_23) then
    (if rr_ix v2 (N p_22) then rr_lt (ms_l σ_20 p_22 (rr_n v2) (mg_l σ_20 p_23 (rr_n v2))) fun σ_24 =>
    rr_lt (mg_r σ_24 v1 11) fun p_25 =>
    rr_lt (mg_r σ_24 v0 10) fun p_26 =>
    (if rr_ix v2 (N p_26) then
    rr_jn (fun (t_27 : Int32) (σ_28 : rr_M) =>
    (if rr_ix v2 (N p_25) then rr_lt (ms_i σ_28 p_25 (rr_n v2) (vp_nar .boolean t_27)) fun σ_29 =>
    rr_lt (mg_r σ_29 v1 12) fun p_30 =>
    (if rr_ix v2 (N p_30) then rr_lt (ms_i σ_29 p_30 (rr_n v2) 1) fun σ_31 =>
    rr_jn (fun (σ_32 : rr_M) =>
    rr_lt (v2 + 1) fun v2_33 =>
    l_Pla_place_57 fu N v0 v1 n v2_33 σ_32 kk) fun j162 =>
    if (mg_i σ_31 v1 5) ≤ 1 then (j162 σ_31) else
    rr_bd (f_Pla_refine fu N v0 v2 σ_31) fun _ σ_35 =>
    rr_lt (mg_r σ_35 v1 12) fun p_37 =>
    rr_bd (f_Pla_repeatsInCell fu N v0 σ_35) fun r_38 σ_39 =>
    (if rr_ix v2 (N p_37) then rr_lt (ms_i σ_39 p_37 (rr_n v2) r_38) fun σ_41 =>
    j162 σ_41 else none) else none) else none)) fun j131 =>
    rr_jn (fun (σ_42 : rr_M) =>
    j131 0 σ_42) fun j130 =>
    if (mg_i σ_24 p_26 (rr_n v2)) = (v2 + 1) then (rr_bd (f_Pla_signOfAll fu N v0 σ_24) fun r_44 σ_45 =>
    if r_44 = 0 then (j131 1 σ_45) else
    j130 σ_45) else
    j130 σ_24 else none) else none) else none) else none)
theorem lw_Pla_place_57 {X : rr_X} {G : rr_G} {l : Launch} {fu : Nat} (hG : G.2.2.1.Nodup) (hll : X.2.1 = l) (C : rr_C X G cX4_place 3 "RootRows$Placer" none 7 182) {σr : rr_M} (v0 : Nat) (m_v0 : v0 ∈ G.2.2.1) (k_v0 : G.2.2.2.1 v0 = 3) (v1 : Nat) (m_v1 : v1 ∈ G.2.2.1) (k_v1 : G.2.2.2.1 v1 = 7) : ∀ (n : Nat) (v2 : Int32) (σ : rr_M) (K : rr_M → Option (Unit × rr_M)), l_Pla_place_57 fu G.2.2.2.2 v0 v1 n v2 σ K = some ((), σr) → (∀ (σ1 : rr_M), K σ1 = some ((), σr) → rr_J X G 3 (rr_E X G σr none) σ1 168 [] []) → rr_J X G 3 (rr_E X G σr none) σ 57 [(0, .ref v0), (1, .ref v1), (2, .int v2)] [] := by
  intro n
  induction n with
  | zero =>
    intro v2 σ K hm
    cases hm
  | succ n ih =>
    intro v2 σ K hm hk
    unfold l_Pla_place_57 at hm
    refine rx_iload_n C 2 dX4_place_57 rfl ?_
    refine rx_aload_n C 0 dX4_place_58 rfl ?_
    refine gf_286 C m_v0 k_v0 dX4_place_59 ?_
    refine rx_icmp_ge (tgt := 168) C dX4_place_62 (by decide) hm (fun h_13 hm => ?_) (fun h_13 hm => ?_)
    · refine rx_lv [] rfl ?_
      exact hk _ hm
    refine rx_aload_n C 0 dX4_place_65 rfl ?_
    refine rx_iload_n C 2 dX4_place_66 rfl ?_
    obtain ⟨_, σ_14, hc_15, hm⟩ := rr_bd_some hm
    refine rr_callV (rest := []) (st1 := []) C 3 hll (c_Pla_part l G hG fu v0 m_v0 k_v0 v2 σ _ hc_15) q_717 q_719 qs_29 q_10 q_720 hd_Pla_part ⟨_, rfl, rfl⟩ (by decide) m_v0 k_v0 ⟨by decide, by decide⟩ rfl rfl (Nat.le_of_ble_eq_true rfl) rfl dX4_place_67 ?_
    refine rx_aload_n C 0 dX4_place_70 rfl ?_
    refine rx_iload_n C 2 dX4_place_71 rfl ?_
    obtain ⟨_, σ_16, hc_17, hm⟩ := rr_bd_some hm
    refine rr_callV (rest := []) (st1 := []) C 3 hll (c_Pla_narrow l G hG fu v0 m_v0 k_v0 v2 σ_14 _ hc_17) q_721 q_723 qs_30 q_10 q_724 hd_Pla_narrow ⟨_, rfl, rfl⟩ (by decide) m_v0 k_v0 ⟨by decide, by decide⟩ rfl rfl (Nat.le_of_ble_eq_true rfl) rfl dX4_place_72 ?_
    refine rx_aload_n C 0 dX4_place_75 rfl ?_
    refine gf_283 C m_v0 k_v0 dX4_place_76 hm (fun p_18 m_p_18 k_p_18 hm => ?_)
    refine rx_aload_n C 0 dX4_place_79 rfl ?_
    refine gf_289 C m_v0 k_v0 dX4_place_80 hm (fun p_19 m_p_19 k_p_19 hm => ?_)
    refine rx_iload_n C 2 dX4_place_83 rfl ?_
    refine rx_lald C m_p_19 k_p_19 dX4_place_84 hm (fun hm => ?_)
    refine rx_bipush (v := 12) C dX4_place_85 rfl ?_
    obtain ⟨_, σ_20, hc_21, hm⟩ := rr_bd_some hm
    refine rr_callV (rest := []) (st1 := []) C 4 hll (c_Poi_move l G hG fu p_18 m_p_18 k_p_18 (mg_l σ_16 p_19 (rr_n v2)) 12 σ_16 _ hc_21) q_693 q_694 q_695 q_8 q_696 hd_Poi_move ⟨_, rfl, rfl⟩ (by decide) m_p_18 k_p_18 ⟨by decide, by decide⟩ rfl rfl (Nat.le_of_ble_eq_true rfl) rfl dX4_place_87 ?_
    refine rx_aload_n C 1 dX4_place_90 rfl ?_
    refine gf_61 C m_v1 k_v1 dX4_place_91 hm (fun p_22 m_p_22 k_p_22 hm => ?_)
    refine rx_iload_n C 2 dX4_place_94 rfl ?_
    refine rx_aload_n C 0 dX4_place_95 rfl ?_
    refine gf_289 C m_v0 k_v0 dX4_place_96 hm (fun p_23 m_p_23 k_p_23 hm => ?_)
    refine rx_iload_n C 2 dX4_place_99 rfl ?_
    refine rx_lald C m_p_23 k_p_23 dX4_place_100 hm (fun hm => ?_)
    refine rx_last C m_p_22 k_p_22 dX4_place_101 hm (fun σ_24 hm => ?_)
    refine rx_aload_n C 1 dX4_place_102 rfl ?_
    refine gf_63 C m_v1 k_v1 dX4_place_103 hm (fun p_25 m_p_25 k_p_25 hm => ?_)
    refine rx_iload_n C 2 dX4_place_106 rfl ?_
    refine rx_aload_n C 0 dX4_place_107 rfl ?_
    refine gf_291 C m_v0 k_v0 dX4_place_108 hm (fun p_26 m_p_26 k_p_26 hm => ?_)
    refine rx_iload_n C 2 dX4_place_111 rfl ?_
    refine rx_iald C m_p_26 k_p_26 dX4_place_112 hm (fun hm => ?_)
    refine rx_iload_n C 2 dX4_place_113 rfl ?_
    refine rx_iconst (v := 1) C dX4_place_114 rfl ?_
    refine rx_iadd C dX4_place_115 ?_
    refine rr_jn2 hm (fun j131 ej131 hm => ?_)
    have hj131 : ∀ (t_27 : Int32) (σ_28 : rr_M), j131 t_27 σ_28 = some ((), σr) → rr_J X G 3 (rr_E X G σr none) σ_28 131 [(0, .ref v0), (1, .ref v1), (2, .int v2)] [.int t_27, .int v2, .ref p_25] := by
      intro t_27 σ_28 hm
      replace hm := ej131 _ _ hm
      refine rx_zast C m_p_25 k_p_25 dX4_place_131 hm (fun σ_29 hm => ?_)
      refine rx_aload_n C 1 dX4_place_132 rfl ?_
      refine gf_65 C m_v1 k_v1 dX4_place_133 hm (fun p_30 m_p_30 k_p_30 hm => ?_)
      refine rx_iload_n C 2 dX4_place_136 rfl ?_
      refine rx_iconst (v := 1) C dX4_place_137 rfl ?_
      refine rx_iast C m_p_30 k_p_30 dX4_place_138 hm (fun σ_31 hm => ?_)
      refine rx_aload_n C 1 dX4_place_139 rfl ?_
      refine gf_47 C m_v1 k_v1 dX4_place_140 ?_
      refine rx_iconst (v := 1) C dX4_place_143 rfl ?_
      refine rr_jn1 hm (fun j162 ej162 hm => ?_)
      have hj162 : ∀ (σ_32 : rr_M), j162 σ_32 = some ((), σr) → rr_J X G 3 (rr_E X G σr none) σ_32 162 [(0, .ref v0), (1, .ref v1), (2, .int v2)] [] := by
        intro σ_32 hm
        replace hm := ej162 _ hm
        refine rx_iinc (d := 1) (lv1 := fun v => [(2, .int v), (0, .ref v0), (1, .ref v1)]) C 2 dX4_place_162 hm rfl rfl (by decide) (fun _ => rfl) (fun v2_33 hm => ?_)
        refine rx_goto (tgt := 57) C dX4_place_165 (by decide) ?_
        refine rx_lv [1, 2, 0] rfl ?_
        exact ih _ _ _ hm hk
      refine rx_icmp_le (tgt := 162) C dX4_place_144 (by decide) hm (fun h_34 hm => ?_) (fun h_34 hm => ?_)
      · refine rx_lv [0, 1, 2] rfl ?_
        exact hj162 _ hm
      refine rx_aload_n C 0 dX4_place_147 rfl ?_
      refine rx_iload_n C 2 dX4_place_148 rfl ?_
      obtain ⟨_, σ_35, hc_36, hm⟩ := rr_bd_some hm
      refine rr_callV (rest := []) (st1 := []) C 3 hll (c_Pla_refine l G hG fu v0 m_v0 k_v0 v2 σ_31 _ hc_36) q_729 q_731 qs_32 q_10 q_732 hd_Pla_refine ⟨_, rfl, rfl⟩ (by decide) m_v0 k_v0 ⟨by decide, by decide⟩ rfl rfl (Nat.le_of_ble_eq_true rfl) rfl dX4_place_149 ?_
      refine rx_aload_n C 1 dX4_place_152 rfl ?_
      refine gf_65 C m_v1 k_v1 dX4_place_153 hm (fun p_37 m_p_37 k_p_37 hm => ?_)
      refine rx_iload_n C 2 dX4_place_156 rfl ?_
      refine rx_aload_n C 0 dX4_place_157 rfl ?_
      obtain ⟨r_38, σ_39, hc_40, hm⟩ := rr_bd_some hm
      refine rr_callV (rest := [.int v2, .ref p_37]) (st1 := [.int r_38, .int v2, .ref p_37]) C 3 hll (c_Pla_repeatsInCell l G hG fu v0 m_v0 k_v0 σ_35 _ _ hc_40) q_740 q_742 qs_33 q_10 q_743 hd_Pla_repeatsInCell ⟨_, rfl, rfl⟩ (by decide) m_v0 k_v0 ⟨by decide, by decide⟩ rfl rfl (Nat.le_of_ble_eq_true rfl) rfl dX4_place_158 ?_
      refine rx_iast C m_p_37 k_p_37 dX4_place_161 hm (fun σ_41 hm => ?_)
      refine rx_lv [0, 1, 2] rfl ?_
      exact hj162 _ hm
    refine rr_jn1 hm (fun j130 ej130 hm => ?_)
    have hj130 : ∀ (σ_42 : rr_M), j130 σ_42 = some ((), σr) → rr_J X G 3 (rr_E X G σr none) σ_42 130 [(0, .ref v0), (1, .ref v1), (2, .int v2)] [.int v2, .ref p_25] := by
      intro σ_42 hm
      replace hm := ej130 _ hm
      refine rx_iconst (v := 0) C dX4_place_130 rfl ?_
      refine rx_lv [0, 1, 2] rfl ?_
      exact hj131 _ _ hm
    refine rx_icmp_ne (tgt := 130) C dX4_place_116 (by decide) hm (fun h_43 hm => ?_) (fun h_43 hm => ?_)
    · refine rx_lv [0, 1, 2] rfl ?_
      exact hj130 _ hm
    refine rx_aload_n C 0 dX4_place_119 rfl ?_
    obtain ⟨r_44, σ_45, hc_46, hm⟩ := rr_bd_some hm
    refine rr_callV (rest := [.int v2, .ref p_25]) (st1 := [.int r_44, .int v2, .ref p_25]) C 3 hll (c_Pla_signOfAll l G hG fu v0 m_v0 k_v0 σ_24 _ _ hc_46) q_725 q_727 qs_31 q_10 q_728 hd_Pla_signOfAll ⟨_, rfl, rfl⟩ (by decide) m_v0 k_v0 ⟨by decide, by decide⟩ rfl rfl (Nat.le_of_ble_eq_true rfl) rfl dX4_place_120 ?_
    refine rx_if_ne (tgt := 130) C dX4_place_123 (by decide) hm (fun h_47 hm => ?_) (fun h_47 hm => ?_)
    · refine rx_lv [0, 1, 2] rfl ?_
      exact hj130 _ hm
    refine rx_iconst (v := 1) C dX4_place_126 rfl ?_
    refine rx_goto (tgt := 131) C dX4_place_127 (by decide) ?_
    refine rx_lv [0, 1, 2] rfl ?_
    exact hj131 _ _ hm
def f_Pla_place (fu : Nat) (N : Nat → Nat) (v0 : Nat) (v1 : Nat) (σ : rr_M) : Option (Unit × rr_M) :=
    if (mg_i σ v1 9) = 0 then ((if rr_b1 1 then rr_lt (ms_i σ v1 9 1) fun σ_2 =>
    rr_lt (ms_i σ_2 v0 5 (rr_mn (mg_i σ_2 v1 4) 8)) fun σ_3 =>
    if 1 ≤ (mg_i σ_3 v0 5) then (rr_lt (mg_r σ_3 v0 0) fun p_5 =>
    rr_lt (mg_r σ_3 v1 0) fun p_6 =>
    rr_bd (f_Lev_build fu N p_5 p_6 v1 σ_3) fun _ σ_7 =>
    rr_bd (f_Pla_makeSimple fu N v0 σ_7) fun _ σ_9 =>
    rr_bd (f_Pla_startBrackets fu N v0 σ_9) fun _ σ_11 =>
    l_Pla_place_57 fu N v0 v1 fu 0 σ_11 (fun σ_48 =>
    some ((), σ_48))) else
    some ((), σ_3) else none)) else
    some ((), σ)
theorem c_Pla_place (l : Launch) (G : rr_G) (hG : G.2.2.1.Nodup) (fu : Nat) (v0 : Nat) (m_v0 : v0 ∈ G.2.2.1) (k_v0 : G.2.2.2.1 v0 = 3) (v1 : Nat) (m_v1 : v1 ∈ G.2.2.1) (k_v1 : G.2.2.2.1 v1 = 7) (σ : rr_M) (σr : rr_M) (hm : f_Pla_place fu G.2.2.2.2 v0 v1 σ = some ((), σr)) : rr_Met l G yX4_place cX4_place 3 none 7 182 [.ref v0, .ref v1] σ σr none := by
  refine rr_enter (lv0 := [(0, .ref v0), (1, .ref v1)]) hp_Pla_place hG (Nat.le_of_ble_eq_true rfl) rfl (fun X hll C => ?_)
  replace C : rr_C X G cX4_place 3 "RootRows$Placer" none 7 182 := C
  unfold f_Pla_place at hm
  refine rx_aload_n C 1 dX4_place_0 rfl ?_
  refine gf_58 C m_v1 k_v1 dX4_place_1 ?_
  refine rx_if_eq (tgt := 8) C dX4_place_4 (by decide) hm (fun h_1 hm => ?_) (fun h_1 hm => ?_)
  · refine rx_aload_n C 1 dX4_place_8 rfl ?_
    refine rx_iconst (v := 1) C dX4_place_9 rfl ?_
    refine pf_58 C m_v1 k_v1 dX4_place_10 hm (fun σ_2 hm => ?_)
    refine rx_aload_n C 0 dX4_place_13 rfl ?_
    refine rx_aload_n C 1 dX4_place_14 rfl ?_
    refine gf_42 C m_v1 k_v1 dX4_place_15 ?_
    refine rx_bipush (v := 8) C dX4_place_18 rfl ?_
    refine rx_mmin (rest := [.ref v0]) C q_672 (by decide) (by decide) (Nat.le_of_ble_eq_true rfl) dX4_place_20 ?_
    refine pf_286 C m_v0 k_v0 dX4_place_23 hm (fun σ_3 hm => ?_)
    refine rx_aload_n C 0 dX4_place_26 rfl ?_
    refine gf_286 C m_v0 k_v0 dX4_place_27 ?_
    refine rx_iconst (v := 1) C dX4_place_30 rfl ?_
    refine rx_icmp_ge (tgt := 35) C dX4_place_31 (by decide) hm (fun h_4 hm => ?_) (fun h_4 hm => ?_)
    · refine rx_aload_n C 0 dX4_place_35 rfl ?_
      refine gf_281 C m_v0 k_v0 dX4_place_36 hm (fun p_5 m_p_5 k_p_5 hm => ?_)
      refine rx_aload_n C 1 dX4_place_39 rfl ?_
      refine gf_34 C m_v1 k_v1 dX4_place_40 hm (fun p_6 m_p_6 k_p_6 hm => ?_)
      refine rx_aload_n C 1 dX4_place_43 rfl ?_
      obtain ⟨_, σ_7, hc_8, hm⟩ := rr_bd_some hm
      refine rr_callV (rest := []) (st1 := []) C 1 hll (c_Lev_build l G hG fu p_5 m_p_5 k_p_5 p_6 m_p_6 k_p_6 v1 m_v1 k_v1 σ_3 _ hc_8) q_675 q_535 q_536 q_9 q_537 hd_Lev_build ⟨_, rfl, rfl⟩ (by decide) m_p_5 k_p_5 ⟨by decide, by decide⟩ rfl rfl (Nat.le_of_ble_eq_true rfl) rfl dX4_place_44 ?_
      refine rx_aload_n C 0 dX4_place_47 rfl ?_
      obtain ⟨_, σ_9, hc_10, hm⟩ := rr_bd_some hm
      refine rr_callV (rest := []) (st1 := []) C 3 hll (c_Pla_makeSimple l G hG fu v0 m_v0 k_v0 σ_7 _ hc_10) q_676 q_678 qs_25 q_10 q_679 hd_Pla_makeSimple ⟨_, rfl, rfl⟩ (by decide) m_v0 k_v0 ⟨by decide, by decide⟩ rfl rfl (Nat.le_of_ble_eq_true rfl) rfl dX4_place_48 ?_
      refine rx_aload_n C 0 dX4_place_51 rfl ?_
      obtain ⟨_, σ_11, hc_12, hm⟩ := rr_bd_some hm
      refine rr_callV (rest := []) (st1 := []) C 3 hll (c_Pla_startBrackets l G hG fu v0 m_v0 k_v0 σ_9 _ hc_12) q_688 q_690 qs_26 q_10 q_691 hd_Pla_startBrackets ⟨_, rfl, rfl⟩ (by decide) m_v0 k_v0 ⟨by decide, by decide⟩ rfl rfl (Nat.le_of_ble_eq_true rfl) rfl dX4_place_52 ?_
      refine rx_iconst (v := 0) C dX4_place_55 rfl ?_
      refine rx_istore_n (lv1 := [(2, .int 0), (0, .ref v0), (1, .ref v1)]) C dX4_place_56 (by decide) rfl ?_
      refine rx_lv [1, 2, 0] rfl ?_
      refine lw_Pla_place_57 hG hll C v0 m_v0 k_v0 v1 m_v1 k_v1 _ _ _ _ hm (fun σ_48 hm => ?_)
      exact rx_vret C dX4_place_168 hm
    exact rx_vret C dX4_place_34 hm
  exact rx_vret C dX4_place_7 hm
