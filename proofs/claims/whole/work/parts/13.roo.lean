def f_Roo_areLaced (fu : Nat) (N : Nat → Nat) (v0 : Nat) (v1 : Nat) (v2 : Nat) (σ : rr_M) : Option (Int32 × rr_M) :=
    if (mg_i σ v1 2) = 0 then (if rr_b1 0 then some (0, σ) else none) else
    if (mg_i σ v2 2) = 0 then (if rr_b1 0 then some (0, σ) else none) else
    rr_lt (mg_r σ v1 0) fun p_3 =>
    Option.bind (f_Num_degreeOf fu N p_3 σ) fun r_4 =>
    rr_lt (mg_r σ v2 0) fun p_6 =>
    Option.bind (f_Num_degreeOf fu N p_6 σ) fun r_7 =>
    rr_lt (r_4 - r_7) fun v4_9 =>
    if v4_9 < 0 then (if rr_b1 0 then some (0, σ) else none) else
    if v4_9 ≤ 1 then (rr_lt (mg_r σ v0 5) fun p_12 =>
    rr_lt (mg_r σ v1 0) fun p_13 =>
    rr_lt (mg_r σ v2 0) fun p_14 =>
    rr_bd (f_Seq_run fu N p_12 p_13 p_14 σ) fun _ σ_15 =>
    rr_lt (mg_r σ_15 v0 5) fun p_17 =>
    Option.bind (f_Seq_lastDegree N p_17 σ_15) fun r_18 =>
    rr_lt (r_4 - r_18) fun v5_20 =>
    rr_lt (mg_r σ_15 v0 5) fun p_21 =>
    rr_lt (mg_r σ_15 p_21 2) fun p_22 =>
    (if rr_ix 0 (N p_22) then
    rr_lt (mg_r σ_15 v0 5) fun p_23 =>
    rr_lt (mg_r σ_15 p_23 2) fun p_24 =>
    (if rr_ix 1 (N p_24) then
    rr_lt ((mg_i σ_15 p_22 (rr_n 0)) * (mg_i σ_15 p_24 (rr_n 1))) fun v6_25 =>
    rr_lt (mg_r σ_15 v0 5) fun p_26 =>
    Option.bind (f_Seq_jumps fu N p_26 σ_15) fun r_27 =>
    if r_27 = (v6_25 * v5_20) then (if rr_b1 1 then some (1, σ_15) else none) else
    if rr_b1 0 then some (0, σ_15) else none else none) else none)) else
    if rr_b1 0 then some (0, σ) else none
theorem c_Roo_areLaced (l : Launch) (G : rr_G) (hG : G.2.2.1.Nodup) (fu : Nat) (v0 : Nat) (m_v0 : v0 ∈ G.2.2.1) (k_v0 : G.2.2.2.1 v0 = 8) (v1 : Nat) (m_v1 : v1 ∈ G.2.2.1) (k_v1 : G.2.2.2.1 v1 = 7) (v2 : Nat) (m_v2 : v2 ∈ G.2.2.1) (k_v2 : G.2.2.2.1 v2 = 7) (σ : rr_M) (r : Int32) (σr : rr_M) (hm : f_Roo_areLaced fu G.2.2.2.2 v0 v1 v2 σ = some (r, σr)) : rr_Met l G yX10_areLaced cX10_areLaced 7 (some .boolean) 5 141 [.ref v0, .ref v1, .ref v2] σ σr (some (.int r)) := by
  refine rr_enter (lv0 := [(0, .ref v0), (1, .ref v1), (2, .ref v2)]) hp_Roo_areLaced hG (Nat.le_of_ble_eq_true rfl) rfl (fun X hll C => ?_)
  replace C : rr_C X G cX10_areLaced 7 "RootRows" (some .boolean) 5 141 := C
  unfold f_Roo_areLaced at hm
  refine rx_aload_n C 1 dX10_areLaced_0 rfl ?_
  refine gf_39 C m_v1 k_v1 dX10_areLaced_1 ?_
  refine rx_if_eq (tgt := 14) C dX10_areLaced_4 (by decide) hm (fun h_1 hm => ?_) (fun h_1 hm => ?_)
  · refine rx_iconst (v := 0) C dX10_areLaced_14 rfl ?_
    exact rx_zret C dX10_areLaced_15 hm
  refine rx_aload_n C 2 dX10_areLaced_7 rfl ?_
  refine gf_39 C m_v2 k_v2 dX10_areLaced_8 ?_
  refine rx_if_ne (tgt := 16) C dX10_areLaced_11 (by decide) hm (fun h_2 hm => ?_) (fun h_2 hm => ?_)
  · refine rx_aload_n C 1 dX10_areLaced_16 rfl ?_
    refine gf_35 C m_v1 k_v1 dX10_areLaced_17 hm (fun p_3 m_p_3 k_p_3 hm => ?_)
    obtain ⟨r_4, hc_5, hm⟩ := rr_b0_some hm
    refine rr_callS (rest := []) (st1 := [.int r_4]) C hll (c_Num_degreeOf l G hG fu p_3 m_p_3 k_p_3 σ _ hc_5) q_526 q_487 q_12 q_488 hd_Num_degreeOf ⟨by decide, by decide⟩ rfl rfl (Nat.le_of_ble_eq_true rfl) rfl dX10_areLaced_20 ?_
    refine rx_istore_n (lv1 := [(3, .int r_4), (0, .ref v0), (1, .ref v1), (2, .ref v2)]) C dX10_areLaced_23 (by decide) rfl ?_
    refine rx_iload_n C 0 dX10_areLaced_24 rfl ?_
    refine rx_aload_n C 3 dX10_areLaced_25 rfl ?_
    refine gf_35 C m_v2 k_v2 dX10_areLaced_26 hm (fun p_6 m_p_6 k_p_6 hm => ?_)
    obtain ⟨r_7, hc_8, hm⟩ := rr_b0_some hm
    refine rr_callS (rest := [.int r_4]) (st1 := [.int r_7, .int r_4]) C hll (c_Num_degreeOf l G hG fu p_6 m_p_6 k_p_6 σ _ hc_8) q_526 q_487 q_12 q_488 hd_Num_degreeOf ⟨by decide, by decide⟩ rfl rfl (Nat.le_of_ble_eq_true rfl) rfl dX10_areLaced_29 ?_
    refine rx_isub C dX10_areLaced_32 ?_
    refine rx_nmi hm (fun v4_9 ev4_9 hm => ?_)
    refine rx_istore (lv1 := [(4, .int v4_9), (3, .int r_4), (0, .ref v0), (1, .ref v1), (2, .ref v2)]) C dX10_areLaced_33 (by decide) rfl ?_
    refine rx_iload C 0 dX10_areLaced_35 rfl ?_
    refine rx_if_lt (tgt := 46) C dX10_areLaced_37 (by decide) hm (fun h_10 hm => ?_) (fun h_10 hm => ?_)
    · refine rx_iconst (v := 0) C dX10_areLaced_46 rfl ?_
      exact rx_zret C dX10_areLaced_47 hm
    refine rx_iload C 0 dX10_areLaced_40 rfl ?_
    refine rx_iconst (v := 1) C dX10_areLaced_42 rfl ?_
    refine rx_icmp_le (tgt := 48) C dX10_areLaced_43 (by decide) hm (fun h_11 hm => ?_) (fun h_11 hm => ?_)
    · refine rx_aload_n C 2 dX10_areLaced_48 rfl ?_
      refine gf_332 C m_v0 k_v0 dX10_areLaced_49 hm (fun p_12 m_p_12 k_p_12 hm => ?_)
      refine rx_aload_n C 3 dX10_areLaced_52 rfl ?_
      refine gf_35 C m_v1 k_v1 dX10_areLaced_53 hm (fun p_13 m_p_13 k_p_13 hm => ?_)
      refine rx_aload_n C 4 dX10_areLaced_56 rfl ?_
      refine gf_35 C m_v2 k_v2 dX10_areLaced_57 hm (fun p_14 m_p_14 k_p_14 hm => ?_)
      obtain ⟨_, σ_15, hc_16, hm⟩ := rr_bd_some hm
      refine rr_callV (rest := []) (st1 := []) C 5 hll (c_Seq_run l G hG fu p_12 m_p_12 k_p_12 p_13 m_p_13 k_p_13 p_14 m_p_14 k_p_14 σ _ hc_16) q_789 q_546 q_547 q_5 q_548 hd_Seq_run ⟨_, rfl, rfl⟩ (by decide) m_p_12 k_p_12 ⟨by decide, by decide⟩ rfl rfl (Nat.le_of_ble_eq_true rfl) rfl dX10_areLaced_60 ?_
      refine rx_iload_n C 1 dX10_areLaced_63 rfl ?_
      refine rx_aload_n C 2 dX10_areLaced_64 rfl ?_
      refine gf_332 C m_v0 k_v0 dX10_areLaced_65 hm (fun p_17 m_p_17 k_p_17 hm => ?_)
      obtain ⟨r_18, hc_19, hm⟩ := rr_b0_some hm
      refine rr_callV (rest := [.int r_4]) (st1 := [.int r_18, .int r_4]) C 5 hll (c_Seq_lastDegree l G hG p_17 m_p_17 k_p_17 σ_15 _ hc_19) q_790 q_645 q_646 q_5 q_647 hd_Seq_lastDegree ⟨_, rfl, rfl⟩ (by decide) m_p_17 k_p_17 ⟨by decide, by decide⟩ rfl rfl (Nat.le_of_ble_eq_true rfl) rfl dX10_areLaced_68 ?_
      refine rx_isub C dX10_areLaced_71 ?_
      refine rx_nmi hm (fun v5_20 ev5_20 hm => ?_)
      refine rx_istore (lv1 := [(5, .int v5_20), (4, .int v4_9), (3, .int r_4), (0, .ref v0), (1, .ref v1), (2, .ref v2)]) C dX10_areLaced_72 (by decide) rfl ?_
      refine rx_aload_n C 3 dX10_areLaced_74 rfl ?_
      refine gf_332 C m_v0 k_v0 dX10_areLaced_75 hm (fun p_21 m_p_21 k_p_21 hm => ?_)
      refine gf_173 C m_p_21 k_p_21 dX10_areLaced_78 hm (fun p_22 m_p_22 k_p_22 hm => ?_)
      refine rx_iconst (v := 0) C dX10_areLaced_81 rfl ?_
      refine rx_iald C m_p_22 k_p_22 dX10_areLaced_82 hm (fun hm => ?_)
      refine rx_aload_n C 3 dX10_areLaced_83 rfl ?_
      refine gf_332 C m_v0 k_v0 dX10_areLaced_84 hm (fun p_23 m_p_23 k_p_23 hm => ?_)
      refine gf_173 C m_p_23 k_p_23 dX10_areLaced_87 hm (fun p_24 m_p_24 k_p_24 hm => ?_)
      refine rx_iconst (v := 1) C dX10_areLaced_90 rfl ?_
      refine rx_iald C m_p_24 k_p_24 dX10_areLaced_91 hm (fun hm => ?_)
      refine rx_imul C dX10_areLaced_92 ?_
      refine rx_nmi hm (fun v6_25 ev6_25 hm => ?_)
      refine rx_istore (lv1 := [(6, .int v6_25), (5, .int v5_20), (4, .int v4_9), (3, .int r_4), (0, .ref v0), (1, .ref v1), (2, .ref v2)]) C dX10_areLaced_93 (by decide) rfl ?_
      refine rx_aload_n C 4 dX10_areLaced_95 rfl ?_
      refine gf_332 C m_v0 k_v0 dX10_areLaced_96 hm (fun p_26 m_p_26 k_p_26 hm => ?_)
      obtain ⟨r_27, hc_28, hm⟩ := rr_b0_some hm
      refine rr_callV (rest := []) (st1 := [.int r_27]) C 5 hll (c_Seq_jumps l G hG fu p_26 m_p_26 k_p_26 σ_15 _ hc_28) q_791 q_633 q_634 q_5 q_635 hd_Seq_jumps ⟨_, rfl, rfl⟩ (by decide) m_p_26 k_p_26 ⟨by decide, by decide⟩ rfl rfl (Nat.le_of_ble_eq_true rfl) rfl dX10_areLaced_99 ?_
      refine rx_iload C 0 dX10_areLaced_102 rfl ?_
      refine rx_iload C 1 dX10_areLaced_104 rfl ?_
      refine rx_imul C dX10_areLaced_106 ?_
      refine rx_icmp_ne (tgt := 114) C dX10_areLaced_107 (by decide) hm (fun h_29 hm => ?_) (fun h_29 hm => ?_)
      · refine rx_iconst (v := 0) C dX10_areLaced_114 rfl ?_
        exact rx_zret C dX10_areLaced_115 hm
      refine rx_iconst (v := 1) C dX10_areLaced_110 rfl ?_
      refine rx_goto (tgt := 115) C dX10_areLaced_111 (by decide) ?_
      exact rx_zret C dX10_areLaced_115 hm
    refine rx_iconst (v := 0) C dX10_areLaced_46 rfl ?_
    exact rx_zret C dX10_areLaced_47 hm
  refine rx_iconst (v := 0) C dX10_areLaced_14 rfl ?_
  exact rx_zret C dX10_areLaced_15 hm
def f_Roo_isTray (v0 : Int32) : Option (Int32) :=
    if v0 < 0 then (if rr_b1 0 then some (0) else none) else
    if 8 ≤ v0 then (if rr_b1 0 then some (0) else none) else
    if rr_b1 1 then some (1) else none
theorem c_Roo_isTray (l : Launch) (G : rr_G) (hG : G.2.2.1.Nodup) (v0 : Int32) (σ : rr_M) (r : Int32) (hm : f_Roo_isTray v0 = some r) : rr_Met l G yX10_isTray cX10_isTray 1 (some .boolean) 0 0 [.int v0] σ σ (some (.int r)) := by
  refine rr_enter (lv0 := [(0, .int v0)]) hp_Roo_isTray hG (Nat.le_of_ble_eq_true rfl) rfl (fun X hll C => ?_)
  replace C : rr_C X G cX10_isTray 1 "RootRows" (some .boolean) 0 0 := C
  unfold f_Roo_isTray at hm
  refine rx_iload_n C 0 dX10_isTray_0 rfl ?_
  refine rx_if_lt (tgt := 14) C dX10_isTray_1 (by decide) hm (fun h_1 hm => ?_) (fun h_1 hm => ?_)
  · refine rx_iconst (v := 0) C dX10_isTray_14 rfl ?_
    exact rx_zretR C dX10_isTray_15 hm
  refine rx_iload_n C 0 dX10_isTray_4 rfl ?_
  refine rx_bipush (v := 8) C dX10_isTray_5 rfl ?_
  refine rx_icmp_ge (tgt := 14) C dX10_isTray_7 (by decide) hm (fun h_2 hm => ?_) (fun h_2 hm => ?_)
  · refine rx_iconst (v := 0) C dX10_isTray_14 rfl ?_
    exact rx_zretR C dX10_isTray_15 hm
  refine rx_iconst (v := 1) C dX10_isTray_10 rfl ?_
  refine rx_goto (tgt := 15) C dX10_isTray_11 (by decide) ?_
  exact rx_zretR C dX10_isTray_15 hm
def f_Roo_between (fu : Nat) (N : Nat → Nat) (v0 : Nat) (v1 : Int32) (v2 : Int32) (v3 : Int32) (σ : rr_M) : Option (Int32 × rr_M) :=
    Option.bind (f_Roo_isTray v1) fun r_1 =>
    if r_1 = 0 then (some ((-1), σ)) else
    if v2 ≤ v3 then (rr_lt (mg_r σ v0 0) fun p_5 =>
    (if rr_ix v1 (N p_5) then rr_lt (mg_r σ p_5 (rr_n v1)) fun p_6 =>
    rr_lt (mg_r σ v0 3) fun p_7 =>
    rr_bd (f_Lev_prove fu N p_7 p_6 σ) fun _ σ_8 =>
    rr_lt (mg_r σ_8 v0 4) fun p_10 =>
    rr_bd (f_Pla_place fu N p_10 p_6 σ_8) fun _ σ_11 =>
    Option.bind (f_Tra_rootsUpTo fu N p_6 v3 σ_11) fun r_13 =>
    Option.bind (f_Tra_rootsUpTo fu N p_6 v2 σ_11) fun r_15 =>
    some (r_13 - r_15, σ_11) else none)) else
    some ((-1), σ)
theorem c_Roo_between (l : Launch) (G : rr_G) (hG : G.2.2.1.Nodup) (fu : Nat) (v0 : Nat) (m_v0 : v0 ∈ G.2.2.1) (k_v0 : G.2.2.2.1 v0 = 8) (v1 : Int32) (v2 : Int32) (v3 : Int32) (σ : rr_M) (r : Int32) (σr : rr_M) (hm : f_Roo_between fu G.2.2.2.2 v0 v1 v2 v3 σ = some (r, σr)) : rr_Met l G yX10_between cX10_between 5 (some .int) 8 204 [.ref v0, .int v1, .int v2, .int v3] σ σr (some (.int r)) := by
  refine rr_enter (lv0 := [(0, .ref v0), (1, .int v1), (2, .int v2), (3, .int v3)]) hp_Roo_between hG (Nat.le_of_ble_eq_true rfl) rfl (fun X hll C => ?_)
  replace C : rr_C X G cX10_between 5 "RootRows" (some .int) 8 204 := C
  unfold f_Roo_between at hm
  refine rx_iload_n C 1 dX10_between_0 rfl ?_
  obtain ⟨r_1, hc_2, hm⟩ := rr_b0_some hm
  refine rr_callS (rest := []) (st1 := [.int r_1]) C hll (c_Roo_isTray l G hG v1 σ _ hc_2) q_369 q_370 q_1 q_371 hd_Roo_isTray ⟨by decide, by decide⟩ rfl rfl (Nat.le_of_ble_eq_true rfl) rfl dX10_between_1 ?_
  refine rx_if_eq (tgt := 12) C dX10_between_4 (by decide) hm (fun h_3 hm => ?_) (fun h_3 hm => ?_)
  · refine rx_iconst (v := (-1)) C dX10_between_12 rfl ?_
    exact rx_iret C dX10_between_13 hm
  refine rx_iload_n C 2 dX10_between_7 rfl ?_
  refine rx_iload_n C 3 dX10_between_8 rfl ?_
  refine rx_icmp_le (tgt := 14) C dX10_between_9 (by decide) hm (fun h_4 hm => ?_) (fun h_4 hm => ?_)
  · refine rx_aload_n C 0 dX10_between_14 rfl ?_
    refine gf_327 C m_v0 k_v0 dX10_between_15 hm (fun p_5 m_p_5 k_p_5 hm => ?_)
    refine rx_iload_n C 1 dX10_between_18 rfl ?_
    refine rx_ald15 C m_p_5 k_p_5 dX10_between_19 hm (fun p_6 m_p_6 k_p_6 hm => ?_)
    refine rx_astore (lv1 := [(4, .ref p_6), (0, .ref v0), (1, .int v1), (2, .int v2), (3, .int v3)]) C dX10_between_20 (by decide) rfl ?_
    refine rx_aload_n C 1 dX10_between_22 rfl ?_
    refine gf_330 C m_v0 k_v0 dX10_between_23 hm (fun p_7 m_p_7 k_p_7 hm => ?_)
    refine rx_aload C 0 dX10_between_26 rfl ?_
    obtain ⟨_, σ_8, hc_9, hm⟩ := rr_bd_some hm
    refine rr_callV (rest := []) (st1 := []) C 1 hll (c_Lev_prove l G hG fu p_7 m_p_7 k_p_7 p_6 m_p_6 k_p_6 σ _ hc_9) q_530 q_531 q_532 q_9 q_533 hd_Lev_prove ⟨_, rfl, rfl⟩ (by decide) m_p_7 k_p_7 ⟨by decide, by decide⟩ rfl rfl (Nat.le_of_ble_eq_true rfl) rfl dX10_between_28 ?_
    refine rx_aload_n C 1 dX10_between_31 rfl ?_
    refine gf_331 C m_v0 k_v0 dX10_between_32 hm (fun p_10 m_p_10 k_p_10 hm => ?_)
    refine rx_aload C 0 dX10_between_35 rfl ?_
    obtain ⟨_, σ_11, hc_12, hm⟩ := rr_bd_some hm
    refine rr_callV (rest := []) (st1 := []) C 3 hll (c_Pla_place l G hG fu p_10 m_p_10 k_p_10 p_6 m_p_6 k_p_6 σ_8 _ hc_12) q_668 q_669 q_670 q_10 q_671 hd_Pla_place ⟨_, rfl, rfl⟩ (by decide) m_p_10 k_p_10 ⟨by decide, by decide⟩ rfl rfl (Nat.le_of_ble_eq_true rfl) rfl dX10_between_37 ?_
    refine rx_aload C 0 dX10_between_40 rfl ?_
    refine rx_iload_n C 4 dX10_between_42 rfl ?_
    obtain ⟨r_13, hc_14, hm⟩ := rr_b0_some hm
    refine rr_callV (rest := []) (st1 := [.int r_13]) C 7 hll (c_Tra_rootsUpTo l G hG fu p_6 m_p_6 k_p_6 v3 σ_11 _ hc_14) q_771 q_772 q_773 q_2 q_774 hd_Tra_rootsUpTo ⟨_, rfl, rfl⟩ (by decide) m_p_6 k_p_6 ⟨by decide, by decide⟩ rfl rfl (Nat.le_of_ble_eq_true rfl) rfl dX10_between_43 ?_
    refine rx_aload C 0 dX10_between_46 rfl ?_
    refine rx_iload_n C 3 dX10_between_48 rfl ?_
    obtain ⟨r_15, hc_16, hm⟩ := rr_b0_some hm
    refine rr_callV (rest := [.int r_13]) (st1 := [.int r_15, .int r_13]) C 7 hll (c_Tra_rootsUpTo l G hG fu p_6 m_p_6 k_p_6 v2 σ_11 _ hc_16) q_771 q_772 q_773 q_2 q_774 hd_Tra_rootsUpTo ⟨_, rfl, rfl⟩ (by decide) m_p_6 k_p_6 ⟨by decide, by decide⟩ rfl rfl (Nat.le_of_ble_eq_true rfl) rfl dX10_between_49 ?_
    refine rx_isub C dX10_between_52 ?_
    exact rx_iret C dX10_between_53 hm
  refine rx_iconst (v := (-1)) C dX10_between_12 rfl ?_
  exact rx_iret C dX10_between_13 hm
def l_Roo_chain_19 (fu : Nat) (N : Nat → Nat) (v0 : Nat) (v2 : Int32) : Nat → Int32 → rr_M → (rr_M → Option (Int32 × rr_M)) → Option (Int32 × rr_M)
  | 0, _, _, _ => none
  | n + 1, v3, σ, kk =>
    if v2 ≤ v3 then (kk σ) else
    rr_lt (mg_r σ v0 3) fun p_8 =>
    rr_lt (mg_r σ v0 0) fun p_9 =>
    (if rr_ix (v3 + 1) (N p_9) then rr_lt (mg_r σ p_9 (rr_n (v3 + 1))) fun p_10 =>
    rr_bd (f_Lev_prove fu N p_8 p_10 σ) fun _ σ_11 =>
    rr_lt (mg_r σ_11 v0 3) fun p_13 =>
    rr_lt (mg_r σ_11 v0 0) fun p_14 =>
    (if rr_ix v3 (N p_14) then rr_lt (mg_r σ_11 p_14 (rr_n v3)) fun p_15 =>
    rr_bd (f_Lev_prove fu N p_13 p_15 σ_11) fun _ σ_16 =>
    rr_lt (mg_r σ_16 v0 0) fun p_18 =>
    (if rr_ix (v3 + 1) (N p_18) then rr_lt (mg_r σ_16 p_18 (rr_n (v3 + 1))) fun p_19 =>
    rr_lt (mg_r σ_16 v0 0) fun p_20 =>
    (if rr_ix v3 (N p_20) then rr_lt (mg_r σ_16 p_20 (rr_n v3)) fun p_21 =>
    rr_bd (f_Roo_areLaced fu N v0 p_19 p_21 σ_16) fun r_22 σ_23 =>
    if r_22 = 0 then (some (v3, σ_23)) else
    rr_lt (v3 + 1) fun v3_26 =>
    l_Roo_chain_19 fu N v0 v2 n v3_26 σ_23 kk else none) else none) else none) else none)
theorem lw_Roo_chain_19 {X : rr_X} {G : rr_G} {l : Launch} {fu : Nat} (hG : G.2.2.1.Nodup) (hll : X.2.1 = l) (C : rr_C X G cX10_chain 4 "RootRows" (some .int) 7 185) {r : Int32} {σr : rr_M} (v0 : Nat) (m_v0 : v0 ∈ G.2.2.1) (k_v0 : G.2.2.2.1 v0 = 8) (v2 : Int32) : ∀ (n : Nat) (v3 : Int32) (σ : rr_M) (K : rr_M → Option (Int32 × rr_M)), l_Roo_chain_19 fu G.2.2.2.2 v0 v2 n v3 σ K = some (r, σr) → (∀ (σ1 : rr_M), K σ1 = some (r, σr) → rr_J X G 4 (rr_E X G σr (some (.int r))) σ1 81 [] []) → rr_J X G 4 (rr_E X G σr (some (.int r))) σ 19 [(0, .ref v0), (2, .int v2), (3, .int v3)] [] := by
  intro n
  induction n with
  | zero =>
    intro v3 σ K hm
    cases hm
  | succ n ih =>
    intro v3 σ K hm hk
    unfold l_Roo_chain_19 at hm
    refine rx_iload_n C 2 dX10_chain_19 rfl ?_
    refine rx_iload_n C 1 dX10_chain_20 rfl ?_
    refine rx_icmp_ge (tgt := 81) C dX10_chain_21 (by decide) hm (fun h_7 hm => ?_) (fun h_7 hm => ?_)
    · refine rx_lv [] rfl ?_
      exact hk _ hm
    refine rx_aload_n C 0 dX10_chain_24 rfl ?_
    refine gf_330 C m_v0 k_v0 dX10_chain_25 hm (fun p_8 m_p_8 k_p_8 hm => ?_)
    refine rx_aload_n C 0 dX10_chain_28 rfl ?_
    refine gf_327 C m_v0 k_v0 dX10_chain_29 hm (fun p_9 m_p_9 k_p_9 hm => ?_)
    refine rx_iload_n C 2 dX10_chain_32 rfl ?_
    refine rx_iconst (v := 1) C dX10_chain_33 rfl ?_
    refine rx_iadd C dX10_chain_34 ?_
    refine rx_ald15 C m_p_9 k_p_9 dX10_chain_35 hm (fun p_10 m_p_10 k_p_10 hm => ?_)
    obtain ⟨_, σ_11, hc_12, hm⟩ := rr_bd_some hm
    refine rr_callV (rest := []) (st1 := []) C 1 hll (c_Lev_prove l G hG fu p_8 m_p_8 k_p_8 p_10 m_p_10 k_p_10 σ _ hc_12) q_530 q_531 q_532 q_9 q_533 hd_Lev_prove ⟨_, rfl, rfl⟩ (by decide) m_p_8 k_p_8 ⟨by decide, by decide⟩ rfl rfl (Nat.le_of_ble_eq_true rfl) rfl dX10_chain_36 ?_
    refine rx_aload_n C 0 dX10_chain_39 rfl ?_
    refine gf_330 C m_v0 k_v0 dX10_chain_40 hm (fun p_13 m_p_13 k_p_13 hm => ?_)
    refine rx_aload_n C 0 dX10_chain_43 rfl ?_
    refine gf_327 C m_v0 k_v0 dX10_chain_44 hm (fun p_14 m_p_14 k_p_14 hm => ?_)
    refine rx_iload_n C 2 dX10_chain_47 rfl ?_
    refine rx_ald15 C m_p_14 k_p_14 dX10_chain_48 hm (fun p_15 m_p_15 k_p_15 hm => ?_)
    obtain ⟨_, σ_16, hc_17, hm⟩ := rr_bd_some hm
    refine rr_callV (rest := []) (st1 := []) C 1 hll (c_Lev_prove l G hG fu p_13 m_p_13 k_p_13 p_15 m_p_15 k_p_15 σ_11 _ hc_17) q_530 q_531 q_532 q_9 q_533 hd_Lev_prove ⟨_, rfl, rfl⟩ (by decide) m_p_13 k_p_13 ⟨by decide, by decide⟩ rfl rfl (Nat.le_of_ble_eq_true rfl) rfl dX10_chain_49 ?_
    refine rx_aload_n C 0 dX10_chain_52 rfl ?_
    refine rx_aload_n C 0 dX10_chain_53 rfl ?_
    refine gf_327 C m_v0 k_v0 dX10_chain_54 hm (fun p_18 m_p_18 k_p_18 hm => ?_)
    refine rx_iload_n C 2 dX10_chain_57 rfl ?_
    refine rx_iconst (v := 1) C dX10_chain_58 rfl ?_
    refine rx_iadd C dX10_chain_59 ?_
    refine rx_ald15 C m_p_18 k_p_18 dX10_chain_60 hm (fun p_19 m_p_19 k_p_19 hm => ?_)
    refine rx_aload_n C 0 dX10_chain_61 rfl ?_
    refine gf_327 C m_v0 k_v0 dX10_chain_62 hm (fun p_20 m_p_20 k_p_20 hm => ?_)
    refine rx_iload_n C 2 dX10_chain_65 rfl ?_
    refine rx_ald15 C m_p_20 k_p_20 dX10_chain_66 hm (fun p_21 m_p_21 k_p_21 hm => ?_)
    obtain ⟨r_22, σ_23, hc_24, hm⟩ := rr_bd_some hm
    refine rr_callV (rest := []) (st1 := [.int r_22]) C 8 hll (c_Roo_areLaced l G hG fu v0 m_v0 k_v0 p_19 m_p_19 k_p_19 p_21 m_p_21 k_p_21 σ_16 _ _ hc_24) q_785 q_787 qs_35 q_1 q_788 hd_Roo_areLaced ⟨_, rfl, rfl⟩ (by decide) m_v0 k_v0 ⟨by decide, by decide⟩ rfl rfl (Nat.le_of_ble_eq_true rfl) rfl dX10_chain_67 ?_
    refine rx_if_ne (tgt := 75) C dX10_chain_70 (by decide) hm (fun h_25 hm => ?_) (fun h_25 hm => ?_)
    · refine rx_iinc (d := 1) (lv1 := fun v => [(3, .int v), (0, .ref v0), (2, .int v2)]) C 2 dX10_chain_75 hm rfl rfl (by decide) (fun _ => rfl) (fun v3_26 hm => ?_)
      refine rx_goto (tgt := 19) C dX10_chain_78 (by decide) ?_
      refine rx_lv [1, 2, 0] rfl ?_
      exact ih _ _ _ hm hk
    refine rx_iload_n C 2 dX10_chain_73 rfl ?_
    exact rx_iret C dX10_chain_74 hm
def f_Roo_chain (fu : Nat) (N : Nat → Nat) (v0 : Nat) (v1 : Int32) (v2 : Int32) (σ : rr_M) : Option (Int32 × rr_M) :=
    Option.bind (f_Roo_isTray v1) fun r_1 =>
    if r_1 = 0 then (some ((-2), σ)) else
    Option.bind (f_Roo_isTray v2) fun r_4 =>
    if r_4 = 0 then (some ((-2), σ)) else
    l_Roo_chain_19 fu N v0 v2 fu v1 σ (fun σ_27 =>
    some ((-1), σ_27))
theorem c_Roo_chain (l : Launch) (G : rr_G) (hG : G.2.2.1.Nodup) (fu : Nat) (v0 : Nat) (m_v0 : v0 ∈ G.2.2.1) (k_v0 : G.2.2.2.1 v0 = 8) (v1 : Int32) (v2 : Int32) (σ : rr_M) (r : Int32) (σr : rr_M) (hm : f_Roo_chain fu G.2.2.2.2 v0 v1 v2 σ = some (r, σr)) : rr_Met l G yX10_chain cX10_chain 4 (some .int) 7 185 [.ref v0, .int v1, .int v2] σ σr (some (.int r)) := by
  refine rr_enter (lv0 := [(0, .ref v0), (1, .int v1), (2, .int v2)]) hp_Roo_chain hG (Nat.le_of_ble_eq_true rfl) rfl (fun X hll C => ?_)
  replace C : rr_C X G cX10_chain 4 "RootRows" (some .int) 7 185 := C
  unfold f_Roo_chain at hm
  refine rx_iload_n C 1 dX10_chain_0 rfl ?_
  obtain ⟨r_1, hc_2, hm⟩ := rr_b0_some hm
  refine rr_callS (rest := []) (st1 := [.int r_1]) C hll (c_Roo_isTray l G hG v1 σ _ hc_2) q_369 q_370 q_1 q_371 hd_Roo_isTray ⟨by decide, by decide⟩ rfl rfl (Nat.le_of_ble_eq_true rfl) rfl dX10_chain_1 ?_
  refine rx_if_eq (tgt := 14) C dX10_chain_4 (by decide) hm (fun h_3 hm => ?_) (fun h_3 hm => ?_)
  · refine rx_bipush (v := (-2)) C dX10_chain_14 rfl ?_
    exact rx_iret C dX10_chain_16 hm
  refine rx_iload_n C 2 dX10_chain_7 rfl ?_
  obtain ⟨r_4, hc_5, hm⟩ := rr_b0_some hm
  refine rr_callS (rest := []) (st1 := [.int r_4]) C hll (c_Roo_isTray l G hG v2 σ _ hc_5) q_369 q_370 q_1 q_371 hd_Roo_isTray ⟨by decide, by decide⟩ rfl rfl (Nat.le_of_ble_eq_true rfl) rfl dX10_chain_8 ?_
  refine rx_if_ne (tgt := 17) C dX10_chain_11 (by decide) hm (fun h_6 hm => ?_) (fun h_6 hm => ?_)
  · refine rx_iload_n C 1 dX10_chain_17 rfl ?_
    refine rx_istore_n (lv1 := [(3, .int v1), (0, .ref v0), (1, .int v1), (2, .int v2)]) C dX10_chain_18 (by decide) rfl ?_
    refine rx_lv [1, 3, 0] rfl ?_
    refine lw_Roo_chain_19 hG hll C v0 m_v0 k_v0 v2 _ _ _ _ hm (fun σ_27 hm => ?_)
    refine rx_iconst (v := (-1)) C dX10_chain_81 rfl ?_
    exact rx_iret C dX10_chain_82 hm
  refine rx_bipush (v := (-2)) C dX10_chain_14 rfl ?_
  exact rx_iret C dX10_chain_16 hm
def f_Roo_count (fu : Nat) (N : Nat → Nat) (v0 : Nat) (v1 : Int32) (v2 : Int32) (σ : rr_M) : Option (Int32 × rr_M) :=
    Option.bind (f_Roo_isTray v1) fun r_1 =>
    if r_1 = 0 then (some ((-1), σ)) else
    if v2 < 0 then (some ((-1), σ)) else
    if v2 ≤ 7 then (rr_lt (mg_r σ v0 0) fun p_6 =>
    (if rr_ix v1 (N p_6) then rr_lt (mg_r σ p_6 (rr_n v1)) fun p_7 =>
    rr_lt (mg_r σ p_7 0) fun p_8 =>
    Option.bind (f_Num_degreeOf fu N p_8 σ) fun r_9 =>
    if v2 = 0 then (some (r_9, σ)) else
    if v2 = 7 then (rr_lt (mg_r σ p_7 0) fun p_23 =>
    Option.bind (f_Row_isCounts fu N p_23 σ) fun r_24 =>
    if r_24 = 0 then (some (0, σ)) else
    some (1, σ)) else
    rr_lt (mg_r σ v0 3) fun p_13 =>
    rr_bd (f_Lev_prove fu N p_13 p_7 σ) fun _ σ_14 =>
    if v2 = 1 then (some (mg_i σ_14 p_7 3, σ_14)) else
    if v2 = 2 then (if 0 ≤ r_9 then (some (r_9 - (mg_i σ_14 p_7 3), σ_14)) else
    some ((-1), σ_14)) else
    if v2 = 3 then (some (mg_i σ_14 p_7 4, σ_14)) else
    if v2 = 4 then (some (mg_i σ_14 p_7 5, σ_14)) else
    if v2 = 5 then (if (mg_i σ_14 p_7 2) = 0 then (some (0, σ_14)) else
    some (1, σ_14)) else
    (some (mg_i σ_14 p_7 6, σ_14)) else none)) else
    some ((-1), σ)
theorem c_Roo_count (l : Launch) (G : rr_G) (hG : G.2.2.1.Nodup) (fu : Nat) (v0 : Nat) (m_v0 : v0 ∈ G.2.2.1) (k_v0 : G.2.2.2.1 v0 = 8) (v1 : Int32) (v2 : Int32) (σ : rr_M) (r : Int32) (σr : rr_M) (hm : f_Roo_count fu G.2.2.2.2 v0 v1 v2 σ = some (r, σr)) : rr_Met l G yX10_count cX10_count 5 (some .int) 7 185 [.ref v0, .int v1, .int v2] σ σr (some (.int r)) := by
  refine rr_enter (lv0 := [(0, .ref v0), (1, .int v1), (2, .int v2)]) hp_Roo_count hG (Nat.le_of_ble_eq_true rfl) rfl (fun X hll C => ?_)
  replace C : rr_C X G cX10_count 5 "RootRows" (some .int) 7 185 := C
  unfold f_Roo_count at hm
  refine rx_iload_n C 1 dX10_count_0 rfl ?_
  obtain ⟨r_1, hc_2, hm⟩ := rr_b0_some hm
  refine rr_callS (rest := []) (st1 := [.int r_1]) C hll (c_Roo_isTray l G hG v1 σ _ hc_2) q_369 q_370 q_1 q_371 hd_Roo_isTray ⟨by decide, by decide⟩ rfl rfl (Nat.le_of_ble_eq_true rfl) rfl dX10_count_1 ?_
  refine rx_if_eq (tgt := 17) C dX10_count_4 (by decide) hm (fun h_3 hm => ?_) (fun h_3 hm => ?_)
  · refine rx_iconst (v := (-1)) C dX10_count_17 rfl ?_
    exact rx_iret C dX10_count_18 hm
  refine rx_iload_n C 2 dX10_count_7 rfl ?_
  refine rx_if_lt (tgt := 17) C dX10_count_8 (by decide) hm (fun h_4 hm => ?_) (fun h_4 hm => ?_)
  · refine rx_iconst (v := (-1)) C dX10_count_17 rfl ?_
    exact rx_iret C dX10_count_18 hm
  refine rx_iload_n C 2 dX10_count_11 rfl ?_
  refine rx_bipush (v := 7) C dX10_count_12 rfl ?_
  refine rx_icmp_le (tgt := 19) C dX10_count_14 (by decide) hm (fun h_5 hm => ?_) (fun h_5 hm => ?_)
  · refine rx_aload_n C 0 dX10_count_19 rfl ?_
    refine gf_327 C m_v0 k_v0 dX10_count_20 hm (fun p_6 m_p_6 k_p_6 hm => ?_)
    refine rx_iload_n C 1 dX10_count_23 rfl ?_
    refine rx_ald15 C m_p_6 k_p_6 dX10_count_24 hm (fun p_7 m_p_7 k_p_7 hm => ?_)
    refine rx_astore_n (lv1 := [(3, .ref p_7), (0, .ref v0), (1, .int v1), (2, .int v2)]) C dX10_count_25 (by decide) rfl ?_
    refine rx_aload_n C 0 dX10_count_26 rfl ?_
    refine gf_35 C m_p_7 k_p_7 dX10_count_27 hm (fun p_8 m_p_8 k_p_8 hm => ?_)
    obtain ⟨r_9, hc_10, hm⟩ := rr_b0_some hm
    refine rr_callS (rest := []) (st1 := [.int r_9]) C hll (c_Num_degreeOf l G hG fu p_8 m_p_8 k_p_8 σ _ hc_10) q_526 q_487 q_12 q_488 hd_Num_degreeOf ⟨by decide, by decide⟩ rfl rfl (Nat.le_of_ble_eq_true rfl) rfl dX10_count_30 ?_
    refine rx_istore (lv1 := [(4, .int r_9), (3, .ref p_7), (0, .ref v0), (1, .int v1), (2, .int v2)]) C dX10_count_33 (by decide) rfl ?_
    refine rx_iload_n C 4 dX10_count_35 rfl ?_
    refine rx_if_ne (tgt := 42) C dX10_count_36 (by decide) hm (fun h_11 hm => ?_) (fun h_11 hm => ?_)
    · refine rx_iload_n C 4 dX10_count_42 rfl ?_
      refine rx_bipush (v := 7) C dX10_count_43 rfl ?_
      refine rx_icmp_ne (tgt := 64) C dX10_count_45 (by decide) hm (fun h_12 hm => ?_) (fun h_12 hm => ?_)
      · refine rx_aload_n C 2 dX10_count_64 rfl ?_
        refine gf_330 C m_v0 k_v0 dX10_count_65 hm (fun p_13 m_p_13 k_p_13 hm => ?_)
        refine rx_aload_n C 1 dX10_count_68 rfl ?_
        obtain ⟨_, σ_14, hc_15, hm⟩ := rr_bd_some hm
        refine rr_callV (rest := []) (st1 := []) C 1 hll (c_Lev_prove l G hG fu p_13 m_p_13 k_p_13 p_7 m_p_7 k_p_7 σ _ hc_15) q_530 q_531 q_532 q_9 q_533 hd_Lev_prove ⟨_, rfl, rfl⟩ (by decide) m_p_13 k_p_13 ⟨by decide, by decide⟩ rfl rfl (Nat.le_of_ble_eq_true rfl) rfl dX10_count_69 ?_
        refine rx_iload_n C 4 dX10_count_72 rfl ?_
        refine rr_if hm (fun h_16 hm => ?_) (fun h_16 hm => ?_)
        · refine rx_tin (tgt := 108) C h_16 dX10_count_73 (by decide) (by decide) rfl (by decide) ?_
          refine rx_aload_n C 1 dX10_count_108 rfl ?_
          refine gf_41 C m_p_7 k_p_7 dX10_count_109 ?_
          exact rx_iret C dX10_count_112 hm
        refine rr_if hm (fun h_17 hm => ?_) (fun h_17 hm => ?_)
        · refine rx_tin (tgt := 113) C h_17 dX10_count_73 (by decide) (by decide) rfl (by decide) ?_
          refine rx_iload C 0 dX10_count_113 rfl ?_
          refine rx_if_ge (tgt := 122) C dX10_count_115 (by decide) hm (fun h_18 hm => ?_) (fun h_18 hm => ?_)
          · refine rx_iload C 0 dX10_count_122 rfl ?_
            refine rx_aload_n C 1 dX10_count_124 rfl ?_
            refine gf_41 C m_p_7 k_p_7 dX10_count_125 ?_
            refine rx_isub C dX10_count_128 ?_
            exact rx_iret C dX10_count_129 hm
          refine rx_iconst (v := (-1)) C dX10_count_118 rfl ?_
          refine rx_goto (tgt := 129) C dX10_count_119 (by decide) ?_
          exact rx_iret C dX10_count_129 hm
        refine rr_if hm (fun h_19 hm => ?_) (fun h_19 hm => ?_)
        · refine rx_tin (tgt := 130) C h_19 dX10_count_73 (by decide) (by decide) rfl (by decide) ?_
          refine rx_aload_n C 1 dX10_count_130 rfl ?_
          refine gf_45 C m_p_7 k_p_7 dX10_count_131 ?_
          exact rx_iret C dX10_count_134 hm
        refine rr_if hm (fun h_20 hm => ?_) (fun h_20 hm => ?_)
        · refine rx_tin (tgt := 135) C h_20 dX10_count_73 (by decide) (by decide) rfl (by decide) ?_
          refine rx_aload_n C 1 dX10_count_135 rfl ?_
          refine gf_48 C m_p_7 k_p_7 dX10_count_136 ?_
          exact rx_iret C dX10_count_139 hm
        refine rr_if hm (fun h_21 hm => ?_) (fun h_21 hm => ?_)
        · refine rx_tin (tgt := 140) C h_21 dX10_count_73 (by decide) (by decide) rfl (by decide) ?_
          refine rx_aload_n C 1 dX10_count_140 rfl ?_
          refine gf_39 C m_p_7 k_p_7 dX10_count_141 ?_
          refine rx_if_eq (tgt := 151) C dX10_count_144 (by decide) hm (fun h_22 hm => ?_) (fun h_22 hm => ?_)
          · refine rx_iconst (v := 0) C dX10_count_151 rfl ?_
            exact rx_iret C dX10_count_152 hm
          refine rx_iconst (v := 1) C dX10_count_147 rfl ?_
          refine rx_goto (tgt := 152) C dX10_count_148 (by decide) ?_
          exact rx_iret C dX10_count_152 hm
        refine rx_tout (tgt := 153) C dX10_count_73 (by have q1 := lv_neT (a := 1) h_16 (by decide); have q2 := lv_neT (a := 2) h_17 (by decide); have q3 := lv_neT (a := 3) h_19 (by decide); have q4 := lv_neT (a := 4) h_20 (by decide); have q5 := lv_neT (a := 5) h_21 (by decide); omega) (by decide) ?_
        refine rx_aload_n C 1 dX10_count_153 rfl ?_
        refine gf_51 C m_p_7 k_p_7 dX10_count_154 ?_
        exact rx_iret C dX10_count_157 hm
      refine rx_aload_n C 1 dX10_count_48 rfl ?_
      refine gf_35 C m_p_7 k_p_7 dX10_count_49 hm (fun p_23 m_p_23 k_p_23 hm => ?_)
      obtain ⟨r_24, hc_25, hm⟩ := rr_b0_some hm
      refine rr_callS (rest := []) (st1 := [.int r_24]) C hll (c_Row_isCounts l G hG fu p_23 m_p_23 k_p_23 σ _ hc_25) q_527 q_528 q_13 q_529 hd_Row_isCounts ⟨by decide, by decide⟩ rfl rfl (Nat.le_of_ble_eq_true rfl) rfl dX10_count_52 ?_
      refine rx_if_eq (tgt := 62) C dX10_count_55 (by decide) hm (fun h_26 hm => ?_) (fun h_26 hm => ?_)
      · refine rx_iconst (v := 0) C dX10_count_62 rfl ?_
        exact rx_iret C dX10_count_63 hm
      refine rx_iconst (v := 1) C dX10_count_58 rfl ?_
      refine rx_goto (tgt := 63) C dX10_count_59 (by decide) ?_
      exact rx_iret C dX10_count_63 hm
    refine rx_iload C 0 dX10_count_39 rfl ?_
    exact rx_iret C dX10_count_41 hm
  refine rx_iconst (v := (-1)) C dX10_count_17 rfl ?_
  exact rx_iret C dX10_count_18 hm
def f_Roo_end (v0 : Nat) (v1 : Int32) (σ : rr_M) : Option (Int32 × rr_M) :=
    if v1 < 0 then (if rr_b1 0 then some (0, σ) else none) else
    rr_lt (mg_r σ v0 1) fun p_2 =>
    if v1 ≤ (mg_i σ p_2 1) then (rr_lt (mg_r σ v0 1) fun p_4 =>
    rr_lt (ms_i σ p_4 1 v1) fun σ_5 =>
    if rr_b1 1 then some (1, σ_5) else none) else
    if rr_b1 0 then some (0, σ) else none
theorem c_Roo_end (l : Launch) (G : rr_G) (hG : G.2.2.1.Nodup) (v0 : Nat) (m_v0 : v0 ∈ G.2.2.1) (k_v0 : G.2.2.2.1 v0 = 8) (v1 : Int32) (σ : rr_M) (r : Int32) (σr : rr_M) (hm : f_Roo_end v0 v1 σ = some (r, σr)) : rr_Met l G yX10_end cX10_end 2 (some .boolean) 0 0 [.ref v0, .int v1] σ σr (some (.int r)) := by
  refine rr_enter (lv0 := [(0, .ref v0), (1, .int v1)]) hp_Roo_end hG (Nat.le_of_ble_eq_true rfl) rfl (fun X hll C => ?_)
  replace C : rr_C X G cX10_end 2 "RootRows" (some .boolean) 0 0 := C
  unfold f_Roo_end at hm
  refine rx_iload_n C 1 dX10_end_0 rfl ?_
  refine rx_if_lt (tgt := 15) C dX10_end_1 (by decide) hm (fun h_1 hm => ?_) (fun h_1 hm => ?_)
  · refine rx_iconst (v := 0) C dX10_end_15 rfl ?_
    exact rx_zret C dX10_end_16 hm
  refine rx_iload_n C 1 dX10_end_4 rfl ?_
  refine rx_aload_n C 0 dX10_end_5 rfl ?_
  refine gf_328 C m_v0 k_v0 dX10_end_6 hm (fun p_2 m_p_2 k_p_2 hm => ?_)
  refine gf_105 C m_p_2 k_p_2 dX10_end_9 ?_
  refine rx_icmp_le (tgt := 17) C dX10_end_12 (by decide) hm (fun h_3 hm => ?_) (fun h_3 hm => ?_)
  · refine rx_aload_n C 0 dX10_end_17 rfl ?_
    refine gf_328 C m_v0 k_v0 dX10_end_18 hm (fun p_4 m_p_4 k_p_4 hm => ?_)
    refine rx_iload_n C 1 dX10_end_21 rfl ?_
    refine pf_105 C m_p_4 k_p_4 dX10_end_22 hm (fun σ_5 hm => ?_)
    refine rx_iconst (v := 1) C dX10_end_25 rfl ?_
    exact rx_zret C dX10_end_26 hm
  refine rx_iconst (v := 0) C dX10_end_15 rfl ?_
  exact rx_zret C dX10_end_16 hm
def f_Roo_fails (fu : Nat) (N : Nat → Nat) (v0 : Nat) (v1 : Int32) (σ : rr_M) : Option (Int32 × rr_M) :=
    Option.bind (f_Roo_isTray v1) fun r_1 =>
    if r_1 = 0 then (some ((-2), σ)) else
    rr_lt (mg_r σ v0 0) fun p_4 =>
    (if rr_ix v1 (N p_4) then rr_lt (mg_r σ p_4 (rr_n v1)) fun p_5 =>
    rr_lt (mg_r σ v0 3) fun p_6 =>
    rr_bd (f_Lev_prove fu N p_6 p_5 σ) fun _ σ_7 =>
    if 1 ≤ (mg_i σ_7 p_5 6) then (Option.bind (f_Tra_firstFailure fu N p_5 σ_7) fun r_10 =>
    some (r_10, σ_7)) else
    some ((-2), σ_7) else none)
theorem c_Roo_fails (l : Launch) (G : rr_G) (hG : G.2.2.1.Nodup) (fu : Nat) (v0 : Nat) (m_v0 : v0 ∈ G.2.2.1) (k_v0 : G.2.2.2.1 v0 = 8) (v1 : Int32) (σ : rr_M) (r : Int32) (σr : rr_M) (hm : f_Roo_fails fu G.2.2.2.2 v0 v1 σ = some (r, σr)) : rr_Met l G yX10_fails cX10_fails 3 (some .int) 7 185 [.ref v0, .int v1] σ σr (some (.int r)) := by
  refine rr_enter (lv0 := [(0, .ref v0), (1, .int v1)]) hp_Roo_fails hG (Nat.le_of_ble_eq_true rfl) rfl (fun X hll C => ?_)
  replace C : rr_C X G cX10_fails 3 "RootRows" (some .int) 7 185 := C
  unfold f_Roo_fails at hm
  refine rx_iload_n C 1 dX10_fails_0 rfl ?_
  obtain ⟨r_1, hc_2, hm⟩ := rr_b0_some hm
  refine rr_callS (rest := []) (st1 := [.int r_1]) C hll (c_Roo_isTray l G hG v1 σ _ hc_2) q_369 q_370 q_1 q_371 hd_Roo_isTray ⟨by decide, by decide⟩ rfl rfl (Nat.le_of_ble_eq_true rfl) rfl dX10_fails_1 ?_
  refine rx_if_ne (tgt := 10) C dX10_fails_4 (by decide) hm (fun h_3 hm => ?_) (fun h_3 hm => ?_)
  · refine rx_aload_n C 0 dX10_fails_10 rfl ?_
    refine gf_327 C m_v0 k_v0 dX10_fails_11 hm (fun p_4 m_p_4 k_p_4 hm => ?_)
    refine rx_iload_n C 1 dX10_fails_14 rfl ?_
    refine rx_ald15 C m_p_4 k_p_4 dX10_fails_15 hm (fun p_5 m_p_5 k_p_5 hm => ?_)
    refine rx_astore_n (lv1 := [(2, .ref p_5), (0, .ref v0), (1, .int v1)]) C dX10_fails_16 (by decide) rfl ?_
    refine rx_aload_n C 1 dX10_fails_17 rfl ?_
    refine gf_330 C m_v0 k_v0 dX10_fails_18 hm (fun p_6 m_p_6 k_p_6 hm => ?_)
    refine rx_aload_n C 0 dX10_fails_21 rfl ?_
    obtain ⟨_, σ_7, hc_8, hm⟩ := rr_bd_some hm
    refine rr_callV (rest := []) (st1 := []) C 1 hll (c_Lev_prove l G hG fu p_6 m_p_6 k_p_6 p_5 m_p_5 k_p_5 σ _ hc_8) q_530 q_531 q_532 q_9 q_533 hd_Lev_prove ⟨_, rfl, rfl⟩ (by decide) m_p_6 k_p_6 ⟨by decide, by decide⟩ rfl rfl (Nat.le_of_ble_eq_true rfl) rfl dX10_fails_22 ?_
    refine rx_aload_n C 0 dX10_fails_25 rfl ?_
    refine gf_51 C m_p_5 k_p_5 dX10_fails_26 ?_
    refine rx_iconst (v := 1) C dX10_fails_29 rfl ?_
    refine rx_icmp_ge (tgt := 36) C dX10_fails_30 (by decide) hm (fun h_9 hm => ?_) (fun h_9 hm => ?_)
    · refine rx_aload_n C 0 dX10_fails_36 rfl ?_
      obtain ⟨r_10, hc_11, hm⟩ := rr_b0_some hm
      refine rr_callV (rest := []) (st1 := [.int r_10]) C 7 hll (c_Tra_firstFailure l G hG fu p_5 m_p_5 k_p_5 σ_7 _ hc_11) q_804 q_805 q_806 q_2 q_807 hd_Tra_firstFailure ⟨_, rfl, rfl⟩ (by decide) m_p_5 k_p_5 ⟨by decide, by decide⟩ rfl rfl (Nat.le_of_ble_eq_true rfl) rfl dX10_fails_37 ?_
      exact rx_iret C dX10_fails_40 hm
    refine rx_bipush (v := (-2)) C dX10_fails_33 rfl ?_
    exact rx_iret C dX10_fails_35 hm
  refine rx_bipush (v := (-2)) C dX10_fails_7 rfl ?_
  exact rx_iret C dX10_fails_9 hm
def f_Roo_fault (v0 : Nat) (σ : rr_M) : Option (Int32) :=
    rr_lt (mg_r σ v0 1) fun p_1 =>
    some (mg_i σ p_1 2)
theorem c_Roo_fault (l : Launch) (G : rr_G) (hG : G.2.2.1.Nodup) (v0 : Nat) (m_v0 : v0 ∈ G.2.2.1) (k_v0 : G.2.2.2.1 v0 = 8) (σ : rr_M) (r : Int32) (hm : f_Roo_fault v0 σ = some r) : rr_Met l G yX10_fault cX10_fault 1 (some .int) 0 0 [.ref v0] σ σ (some (.int r)) := by
  refine rr_enter (lv0 := [(0, .ref v0)]) hp_Roo_fault hG (Nat.le_of_ble_eq_true rfl) rfl (fun X hll C => ?_)
  replace C : rr_C X G cX10_fault 1 "RootRows" (some .int) 0 0 := C
  unfold f_Roo_fault at hm
  refine rx_aload_n C 0 dX10_fault_0 rfl ?_
  refine gf_328 C m_v0 k_v0 dX10_fault_1 hm (fun p_1 m_p_1 k_p_1 hm => ?_)
  refine gf_107 C m_p_1 k_p_1 dX10_fault_4 ?_
  exact rx_iretR C dX10_fault_7 hm
def f_Roo_feed (fu : Nat) (N : Nat → Nat) (v0 : Nat) (v1 : Int32) (v2 : Int32) (v3 : Int32) (v4 : Int32) (v5 : Int32) (σ : rr_M) : Option (Int32 × rr_M) :=
    rr_lt (mg_r σ v0 1) fun p_1 =>
    Option.bind (f_Tap_hasRoom p_1 σ) fun r_2 =>
    if r_2 = 0 then (some ((-1), σ)) else
    rr_lt (mg_r σ v0 1) fun p_5 =>
    rr_bd (f_Tap_append fu N p_5 v1 σ) fun _ σ_6 =>
    rr_lt (mg_r σ_6 v0 1) fun p_8 =>
    rr_bd (f_Tap_append fu N p_8 v2 σ_6) fun _ σ_9 =>
    rr_lt (mg_r σ_9 v0 1) fun p_11 =>
    rr_bd (f_Tap_append fu N p_11 v3 σ_9) fun _ σ_12 =>
    rr_lt (mg_r σ_12 v0 1) fun p_14 =>
    rr_bd (f_Tap_append fu N p_14 v4 σ_12) fun _ σ_15 =>
    rr_lt (mg_r σ_15 v0 1) fun p_17 =>
    rr_bd (f_Tap_append fu N p_17 v5 σ_15) fun _ σ_18 =>
    rr_lt (mg_r σ_18 v0 1) fun p_20 =>
    some (mg_i σ_18 p_20 1, σ_18)
theorem c_Roo_feed (l : Launch) (G : rr_G) (hG : G.2.2.1.Nodup) (fu : Nat) (v0 : Nat) (m_v0 : v0 ∈ G.2.2.1) (k_v0 : G.2.2.2.1 v0 = 8) (v1 : Int32) (v2 : Int32) (v3 : Int32) (v4 : Int32) (v5 : Int32) (σ : rr_M) (r : Int32) (σr : rr_M) (hm : f_Roo_feed fu G.2.2.2.2 v0 v1 v2 v3 v4 v5 σ = some (r, σr)) : rr_Met l G yX10_feed cX10_feed 6 (some .int) 1 22 [.ref v0, .int v1, .int v2, .int v3, .int v4, .int v5] σ σr (some (.int r)) := by
  refine rr_enter (lv0 := [(0, .ref v0), (1, .int v1), (2, .int v2), (3, .int v3), (4, .int v4), (5, .int v5)]) hp_Roo_feed hG (Nat.le_of_ble_eq_true rfl) rfl (fun X hll C => ?_)
  replace C : rr_C X G cX10_feed 6 "RootRows" (some .int) 1 22 := C
  unfold f_Roo_feed at hm
  refine rx_aload_n C 0 dX10_feed_0 rfl ?_
  refine gf_328 C m_v0 k_v0 dX10_feed_1 hm (fun p_1 m_p_1 k_p_1 hm => ?_)
  obtain ⟨r_2, hc_3, hm⟩ := rr_b0_some hm
  refine rr_callV (rest := []) (st1 := [.int r_2]) C 6 hll (c_Tap_hasRoom l G hG p_1 m_p_1 k_p_1 σ _ hc_3) q_353 q_354 q_355 q_3 q_356 hd_Tap_hasRoom ⟨_, rfl, rfl⟩ (by decide) m_p_1 k_p_1 ⟨by decide, by decide⟩ rfl rfl (Nat.le_of_ble_eq_true rfl) rfl dX10_feed_4 ?_
  refine rx_if_ne (tgt := 12) C dX10_feed_7 (by decide) hm (fun h_4 hm => ?_) (fun h_4 hm => ?_)
  · refine rx_aload_n C 0 dX10_feed_12 rfl ?_
    refine gf_328 C m_v0 k_v0 dX10_feed_13 hm (fun p_5 m_p_5 k_p_5 hm => ?_)
    refine rx_iload_n C 1 dX10_feed_16 rfl ?_
    obtain ⟨_, σ_6, hc_7, hm⟩ := rr_bd_some hm
    refine rr_callV (rest := []) (st1 := []) C 6 hll (c_Tap_append l G hG fu p_5 m_p_5 k_p_5 v1 σ _ hc_7) q_357 q_358 q_359 q_3 q_360 hd_Tap_append ⟨_, rfl, rfl⟩ (by decide) m_p_5 k_p_5 ⟨by decide, by decide⟩ rfl rfl (Nat.le_of_ble_eq_true rfl) rfl dX10_feed_17 ?_
    refine rx_aload_n C 0 dX10_feed_20 rfl ?_
    refine gf_328 C m_v0 k_v0 dX10_feed_21 hm (fun p_8 m_p_8 k_p_8 hm => ?_)
    refine rx_iload_n C 2 dX10_feed_24 rfl ?_
    obtain ⟨_, σ_9, hc_10, hm⟩ := rr_bd_some hm
    refine rr_callV (rest := []) (st1 := []) C 6 hll (c_Tap_append l G hG fu p_8 m_p_8 k_p_8 v2 σ_6 _ hc_10) q_357 q_358 q_359 q_3 q_360 hd_Tap_append ⟨_, rfl, rfl⟩ (by decide) m_p_8 k_p_8 ⟨by decide, by decide⟩ rfl rfl (Nat.le_of_ble_eq_true rfl) rfl dX10_feed_25 ?_
    refine rx_aload_n C 0 dX10_feed_28 rfl ?_
    refine gf_328 C m_v0 k_v0 dX10_feed_29 hm (fun p_11 m_p_11 k_p_11 hm => ?_)
    refine rx_iload_n C 3 dX10_feed_32 rfl ?_
    obtain ⟨_, σ_12, hc_13, hm⟩ := rr_bd_some hm
    refine rr_callV (rest := []) (st1 := []) C 6 hll (c_Tap_append l G hG fu p_11 m_p_11 k_p_11 v3 σ_9 _ hc_13) q_357 q_358 q_359 q_3 q_360 hd_Tap_append ⟨_, rfl, rfl⟩ (by decide) m_p_11 k_p_11 ⟨by decide, by decide⟩ rfl rfl (Nat.le_of_ble_eq_true rfl) rfl dX10_feed_33 ?_
    refine rx_aload_n C 0 dX10_feed_36 rfl ?_
    refine gf_328 C m_v0 k_v0 dX10_feed_37 hm (fun p_14 m_p_14 k_p_14 hm => ?_)
    refine rx_iload C 4 dX10_feed_40 rfl ?_
    obtain ⟨_, σ_15, hc_16, hm⟩ := rr_bd_some hm
    refine rr_callV (rest := []) (st1 := []) C 6 hll (c_Tap_append l G hG fu p_14 m_p_14 k_p_14 v4 σ_12 _ hc_16) q_357 q_358 q_359 q_3 q_360 hd_Tap_append ⟨_, rfl, rfl⟩ (by decide) m_p_14 k_p_14 ⟨by decide, by decide⟩ rfl rfl (Nat.le_of_ble_eq_true rfl) rfl dX10_feed_42 ?_
    refine rx_aload_n C 0 dX10_feed_45 rfl ?_
    refine gf_328 C m_v0 k_v0 dX10_feed_46 hm (fun p_17 m_p_17 k_p_17 hm => ?_)
    refine rx_iload C 5 dX10_feed_49 rfl ?_
    obtain ⟨_, σ_18, hc_19, hm⟩ := rr_bd_some hm
    refine rr_callV (rest := []) (st1 := []) C 6 hll (c_Tap_append l G hG fu p_17 m_p_17 k_p_17 v5 σ_15 _ hc_19) q_357 q_358 q_359 q_3 q_360 hd_Tap_append ⟨_, rfl, rfl⟩ (by decide) m_p_17 k_p_17 ⟨by decide, by decide⟩ rfl rfl (Nat.le_of_ble_eq_true rfl) rfl dX10_feed_51 ?_
    refine rx_aload_n C 0 dX10_feed_54 rfl ?_
    refine gf_328 C m_v0 k_v0 dX10_feed_55 hm (fun p_20 m_p_20 k_p_20 hm => ?_)
    refine gf_105 C m_p_20 k_p_20 dX10_feed_58 ?_
    exact rx_iret C dX10_feed_61 hm
  refine rx_iconst (v := (-1)) C dX10_feed_10 rfl ?_
  exact rx_iret C dX10_feed_11 hm
def f_Roo_isFactor (v0 : Int32) : Option (Int32) :=
    if v0 < (-1000) then (if rr_b1 0 then some (0) else none) else
    if 1000 < v0 then (if rr_b1 0 then some (0) else none) else
    if rr_b1 1 then some (1) else none
theorem c_Roo_isFactor (l : Launch) (G : rr_G) (hG : G.2.2.1.Nodup) (v0 : Int32) (σ : rr_M) (r : Int32) (hm : f_Roo_isFactor v0 = some r) : rr_Met l G yX10_isFactor cX10_isFactor 1 (some .boolean) 0 0 [.int v0] σ σ (some (.int r)) := by
  refine rr_enter (lv0 := [(0, .int v0)]) hp_Roo_isFactor hG (Nat.le_of_ble_eq_true rfl) rfl (fun X hll C => ?_)
  replace C : rr_C X G cX10_isFactor 1 "RootRows" (some .boolean) 0 0 := C
  unfold f_Roo_isFactor at hm
  refine rx_iload_n C 0 dX10_isFactor_0 rfl ?_
  refine rx_sipush (v := (-1000)) C dX10_isFactor_1 rfl ?_
  refine rx_icmp_lt (tgt := 18) C dX10_isFactor_4 (by decide) hm (fun h_1 hm => ?_) (fun h_1 hm => ?_)
  · refine rx_iconst (v := 0) C dX10_isFactor_18 rfl ?_
    exact rx_zretR C dX10_isFactor_19 hm
  refine rx_iload_n C 0 dX10_isFactor_7 rfl ?_
  refine rx_sipush (v := 1000) C dX10_isFactor_8 rfl ?_
  refine rx_icmp_gt (tgt := 18) C dX10_isFactor_11 (by decide) hm (fun h_2 hm => ?_) (fun h_2 hm => ?_)
  · refine rx_iconst (v := 0) C dX10_isFactor_18 rfl ?_
    exact rx_zretR C dX10_isFactor_19 hm
  refine rx_iconst (v := 1) C dX10_isFactor_14 rfl ?_
  refine rx_goto (tgt := 19) C dX10_isFactor_15 (by decide) ?_
  exact rx_zretR C dX10_isFactor_19 hm
def f_Roo_isFineness (v0 : Int32) : Option (Int32) :=
    if v0 < 0 then (if rr_b1 0 then some (0) else none) else
    if 12 < v0 then (if rr_b1 0 then some (0) else none) else
    if rr_b1 1 then some (1) else none
theorem c_Roo_isFineness (l : Launch) (G : rr_G) (hG : G.2.2.1.Nodup) (v0 : Int32) (σ : rr_M) (r : Int32) (hm : f_Roo_isFineness v0 = some r) : rr_Met l G yX10_isFineness cX10_isFineness 1 (some .boolean) 0 0 [.int v0] σ σ (some (.int r)) := by
  refine rr_enter (lv0 := [(0, .int v0)]) hp_Roo_isFineness hG (Nat.le_of_ble_eq_true rfl) rfl (fun X hll C => ?_)
  replace C : rr_C X G cX10_isFineness 1 "RootRows" (some .boolean) 0 0 := C
  unfold f_Roo_isFineness at hm
  refine rx_iload_n C 0 dX10_isFineness_0 rfl ?_
  refine rx_if_lt (tgt := 14) C dX10_isFineness_1 (by decide) hm (fun h_1 hm => ?_) (fun h_1 hm => ?_)
  · refine rx_iconst (v := 0) C dX10_isFineness_14 rfl ?_
    exact rx_zretR C dX10_isFineness_15 hm
  refine rx_iload_n C 0 dX10_isFineness_4 rfl ?_
  refine rx_bipush (v := 12) C dX10_isFineness_5 rfl ?_
  refine rx_icmp_gt (tgt := 14) C dX10_isFineness_7 (by decide) hm (fun h_2 hm => ?_) (fun h_2 hm => ?_)
  · refine rx_iconst (v := 0) C dX10_isFineness_14 rfl ?_
    exact rx_zretR C dX10_isFineness_15 hm
  refine rx_iconst (v := 1) C dX10_isFineness_10 rfl ?_
  refine rx_goto (tgt := 15) C dX10_isFineness_11 (by decide) ?_
  exact rx_zretR C dX10_isFineness_15 hm
def f_Roo_isPower (v0 : Int32) : Option (Int32) :=
    if v0 < 0 then (if rr_b1 0 then some (0) else none) else
    if 8 < v0 then (if rr_b1 0 then some (0) else none) else
    if rr_b1 1 then some (1) else none
theorem c_Roo_isPower (l : Launch) (G : rr_G) (hG : G.2.2.1.Nodup) (v0 : Int32) (σ : rr_M) (r : Int32) (hm : f_Roo_isPower v0 = some r) : rr_Met l G yX10_isPower cX10_isPower 1 (some .boolean) 0 0 [.int v0] σ σ (some (.int r)) := by
  refine rr_enter (lv0 := [(0, .int v0)]) hp_Roo_isPower hG (Nat.le_of_ble_eq_true rfl) rfl (fun X hll C => ?_)
  replace C : rr_C X G cX10_isPower 1 "RootRows" (some .boolean) 0 0 := C
  unfold f_Roo_isPower at hm
  refine rx_iload_n C 0 dX10_isPower_0 rfl ?_
  refine rx_if_lt (tgt := 14) C dX10_isPower_1 (by decide) hm (fun h_1 hm => ?_) (fun h_1 hm => ?_)
  · refine rx_iconst (v := 0) C dX10_isPower_14 rfl ?_
    exact rx_zretR C dX10_isPower_15 hm
  refine rx_iload_n C 0 dX10_isPower_4 rfl ?_
  refine rx_bipush (v := 8) C dX10_isPower_5 rfl ?_
  refine rx_icmp_gt (tgt := 14) C dX10_isPower_7 (by decide) hm (fun h_2 hm => ?_) (fun h_2 hm => ?_)
  · refine rx_iconst (v := 0) C dX10_isPower_14 rfl ?_
    exact rx_zretR C dX10_isPower_15 hm
  refine rx_iconst (v := 1) C dX10_isPower_10 rfl ?_
  refine rx_goto (tgt := 15) C dX10_isPower_11 (by decide) ?_
  exact rx_zretR C dX10_isPower_15 hm
def f_Roo_join (fu : Nat) (N : Nat → Nat) (v0 : Nat) (v1 : Int32) (v2 : Int32) (v3 : Int32) (v4 : Int32) (v5 : Int32) (σ : rr_M) : Option (Int32 × rr_M) :=
    Option.bind (f_Roo_isTray v1) fun r_1 =>
    if r_1 = 0 then (if rr_b1 0 then some (0, σ) else none) else
    Option.bind (f_Roo_isTray v2) fun r_4 =>
    if r_4 = 0 then (if rr_b1 0 then some (0, σ) else none) else
    Option.bind (f_Roo_isTray v3) fun r_7 =>
    if r_7 = 0 then (if rr_b1 0 then some (0, σ) else none) else
    Option.bind (f_Roo_isFactor v4) fun r_10 =>
    if r_10 = 0 then (if rr_b1 0 then some (0, σ) else none) else
    Option.bind (f_Roo_isFactor v5) fun r_13 =>
    if r_13 = 0 then (if rr_b1 0 then some (0, σ) else none) else
    rr_lt (mg_r σ v0 2) fun p_16 =>
    rr_lt (mg_r σ v0 0) fun p_17 =>
    (if rr_ix v2 (N p_17) then rr_lt (mg_r σ p_17 (rr_n v2)) fun p_18 =>
    rr_lt (mg_r σ p_18 0) fun p_19 =>
    rr_lt (mg_r σ v0 0) fun p_20 =>
    (if rr_ix v3 (N p_20) then rr_lt (mg_r σ p_20 (rr_n v3)) fun p_21 =>
    rr_lt (mg_r σ p_21 0) fun p_22 =>
    rr_bd (f_Mak_sum fu N p_16 p_19 p_22 v4 v5 σ) fun r_23 σ_24 =>
    if r_23 = 0 then (if rr_b1 0 then some (0, σ_24) else none) else
    rr_lt (mg_r σ_24 v0 0) fun p_27 =>
    (if rr_ix v1 (N p_27) then rr_lt (mg_r σ_24 p_27 (rr_n v1)) fun p_28 =>
    rr_lt (mg_r σ_24 v0 2) fun p_29 =>
    rr_lt (mg_r σ_24 p_29 0) fun p_30 =>
    rr_bd (f_Tra_take fu N p_28 p_30 σ_24) fun _ σ_31 =>
    if rr_b1 1 then some (1, σ_31) else none else none) else none) else none)
theorem c_Roo_join (l : Launch) (G : rr_G) (hG : G.2.2.1.Nodup) (fu : Nat) (v0 : Nat) (m_v0 : v0 ∈ G.2.2.1) (k_v0 : G.2.2.2.1 v0 = 8) (v1 : Int32) (v2 : Int32) (v3 : Int32) (v4 : Int32) (v5 : Int32) (σ : rr_M) (r : Int32) (σr : rr_M) (hm : f_Roo_join fu G.2.2.2.2 v0 v1 v2 v3 v4 v5 σ = some (r, σr)) : rr_Met l G yX10_join cX10_join 6 (some .boolean) 2 49 [.ref v0, .int v1, .int v2, .int v3, .int v4, .int v5] σ σr (some (.int r)) := by
  refine rr_enter (lv0 := [(0, .ref v0), (1, .int v1), (2, .int v2), (3, .int v3), (4, .int v4), (5, .int v5)]) hp_Roo_join hG (Nat.le_of_ble_eq_true rfl) rfl (fun X hll C => ?_)
  replace C : rr_C X G cX10_join 6 "RootRows" (some .boolean) 2 49 := C
  unfold f_Roo_join at hm
  refine rx_iload_n C 1 dX10_join_0 rfl ?_
  obtain ⟨r_1, hc_2, hm⟩ := rr_b0_some hm
  refine rr_callS (rest := []) (st1 := [.int r_1]) C hll (c_Roo_isTray l G hG v1 σ _ hc_2) q_369 q_370 q_1 q_371 hd_Roo_isTray ⟨by decide, by decide⟩ rfl rfl (Nat.le_of_ble_eq_true rfl) rfl dX10_join_1 ?_
  refine rx_if_eq (tgt := 37) C dX10_join_4 (by decide) hm (fun h_3 hm => ?_) (fun h_3 hm => ?_)
  · refine rx_iconst (v := 0) C dX10_join_37 rfl ?_
    exact rx_zret C dX10_join_38 hm
  refine rx_iload_n C 2 dX10_join_7 rfl ?_
  obtain ⟨r_4, hc_5, hm⟩ := rr_b0_some hm
  refine rr_callS (rest := []) (st1 := [.int r_4]) C hll (c_Roo_isTray l G hG v2 σ _ hc_5) q_369 q_370 q_1 q_371 hd_Roo_isTray ⟨by decide, by decide⟩ rfl rfl (Nat.le_of_ble_eq_true rfl) rfl dX10_join_8 ?_
  refine rx_if_eq (tgt := 37) C dX10_join_11 (by decide) hm (fun h_6 hm => ?_) (fun h_6 hm => ?_)
  · refine rx_iconst (v := 0) C dX10_join_37 rfl ?_
    exact rx_zret C dX10_join_38 hm
  refine rx_iload_n C 3 dX10_join_14 rfl ?_
  obtain ⟨r_7, hc_8, hm⟩ := rr_b0_some hm
  refine rr_callS (rest := []) (st1 := [.int r_7]) C hll (c_Roo_isTray l G hG v3 σ _ hc_8) q_369 q_370 q_1 q_371 hd_Roo_isTray ⟨by decide, by decide⟩ rfl rfl (Nat.le_of_ble_eq_true rfl) rfl dX10_join_15 ?_
  refine rx_if_eq (tgt := 37) C dX10_join_18 (by decide) hm (fun h_9 hm => ?_) (fun h_9 hm => ?_)
  · refine rx_iconst (v := 0) C dX10_join_37 rfl ?_
    exact rx_zret C dX10_join_38 hm
  refine rx_iload C 4 dX10_join_21 rfl ?_
  obtain ⟨r_10, hc_11, hm⟩ := rr_b0_some hm
  refine rr_callS (rest := []) (st1 := [.int r_10]) C hll (c_Roo_isFactor l G hG v4 σ _ hc_11) q_456 q_457 q_1 q_458 hd_Roo_isFactor ⟨by decide, by decide⟩ rfl rfl (Nat.le_of_ble_eq_true rfl) rfl dX10_join_23 ?_
  refine rx_if_eq (tgt := 37) C dX10_join_26 (by decide) hm (fun h_12 hm => ?_) (fun h_12 hm => ?_)
  · refine rx_iconst (v := 0) C dX10_join_37 rfl ?_
    exact rx_zret C dX10_join_38 hm
  refine rx_iload C 5 dX10_join_29 rfl ?_
  obtain ⟨r_13, hc_14, hm⟩ := rr_b0_some hm
  refine rr_callS (rest := []) (st1 := [.int r_13]) C hll (c_Roo_isFactor l G hG v5 σ _ hc_14) q_456 q_457 q_1 q_458 hd_Roo_isFactor ⟨by decide, by decide⟩ rfl rfl (Nat.le_of_ble_eq_true rfl) rfl dX10_join_31 ?_
  refine rx_if_ne (tgt := 39) C dX10_join_34 (by decide) hm (fun h_15 hm => ?_) (fun h_15 hm => ?_)
  · refine rx_aload_n C 0 dX10_join_39 rfl ?_
    refine gf_329 C m_v0 k_v0 dX10_join_40 hm (fun p_16 m_p_16 k_p_16 hm => ?_)
    refine rx_aload_n C 0 dX10_join_43 rfl ?_
    refine gf_327 C m_v0 k_v0 dX10_join_44 hm (fun p_17 m_p_17 k_p_17 hm => ?_)
    refine rx_iload_n C 2 dX10_join_47 rfl ?_
    refine rx_ald15 C m_p_17 k_p_17 dX10_join_48 hm (fun p_18 m_p_18 k_p_18 hm => ?_)
    refine gf_35 C m_p_18 k_p_18 dX10_join_49 hm (fun p_19 m_p_19 k_p_19 hm => ?_)
    refine rx_aload_n C 0 dX10_join_52 rfl ?_
    refine gf_327 C m_v0 k_v0 dX10_join_53 hm (fun p_20 m_p_20 k_p_20 hm => ?_)
    refine rx_iload_n C 3 dX10_join_56 rfl ?_
    refine rx_ald15 C m_p_20 k_p_20 dX10_join_57 hm (fun p_21 m_p_21 k_p_21 hm => ?_)
    refine gf_35 C m_p_21 k_p_21 dX10_join_58 hm (fun p_22 m_p_22 k_p_22 hm => ?_)
    refine rx_iload C 4 dX10_join_61 rfl ?_
    refine rx_iload C 5 dX10_join_63 rfl ?_
    obtain ⟨r_23, σ_24, hc_25, hm⟩ := rr_bd_some hm
    refine rr_callV (rest := []) (st1 := [.int r_23]) C 2 hll (c_Mak_sum l G hG fu p_16 m_p_16 k_p_16 p_19 m_p_19 k_p_19 p_22 m_p_22 k_p_22 v4 v5 σ _ _ hc_25) q_505 q_506 q_507 q_4 q_508 hd_Mak_sum ⟨_, rfl, rfl⟩ (by decide) m_p_16 k_p_16 ⟨by decide, by decide⟩ rfl rfl (Nat.le_of_ble_eq_true rfl) rfl dX10_join_65 ?_
    refine rx_if_ne (tgt := 73) C dX10_join_68 (by decide) hm (fun h_26 hm => ?_) (fun h_26 hm => ?_)
    · refine rx_aload_n C 0 dX10_join_73 rfl ?_
      refine gf_327 C m_v0 k_v0 dX10_join_74 hm (fun p_27 m_p_27 k_p_27 hm => ?_)
      refine rx_iload_n C 1 dX10_join_77 rfl ?_
      refine rx_ald15 C m_p_27 k_p_27 dX10_join_78 hm (fun p_28 m_p_28 k_p_28 hm => ?_)
      refine rx_aload_n C 0 dX10_join_79 rfl ?_
      refine gf_329 C m_v0 k_v0 dX10_join_80 hm (fun p_29 m_p_29 k_p_29 hm => ?_)
      refine gf_138 C m_p_29 k_p_29 dX10_join_83 hm (fun p_30 m_p_30 k_p_30 hm => ?_)
      obtain ⟨_, σ_31, hc_32, hm⟩ := rr_bd_some hm
      refine rr_callV (rest := []) (st1 := []) C 7 hll (c_Tra_take l G hG fu p_28 m_p_28 k_p_28 p_30 m_p_30 k_p_30 σ_24 _ hc_32) q_427 q_428 q_429 q_2 q_430 hd_Tra_take ⟨_, rfl, rfl⟩ (by decide) m_p_28 k_p_28 ⟨by decide, by decide⟩ rfl rfl (Nat.le_of_ble_eq_true rfl) rfl dX10_join_86 ?_
      refine rx_iconst (v := 1) C dX10_join_89 rfl ?_
      exact rx_zret C dX10_join_90 hm
    refine rx_iconst (v := 0) C dX10_join_71 rfl ?_
    exact rx_zret C dX10_join_72 hm
  refine rx_iconst (v := 0) C dX10_join_37 rfl ?_
  exact rx_zret C dX10_join_38 hm
def f_Roo_laced (fu : Nat) (N : Nat → Nat) (v0 : Nat) (v1 : Int32) (v2 : Int32) (σ : rr_M) : Option (Int32 × rr_M) :=
    Option.bind (f_Roo_isTray v1) fun r_1 =>
    if r_1 = 0 then (some ((-1), σ)) else
    Option.bind (f_Roo_isTray v2) fun r_4 =>
    if r_4 = 0 then (some ((-1), σ)) else
    rr_lt (mg_r σ v0 3) fun p_7 =>
    rr_lt (mg_r σ v0 0) fun p_8 =>
    (if rr_ix v1 (N p_8) then rr_lt (mg_r σ p_8 (rr_n v1)) fun p_9 =>
    rr_bd (f_Lev_prove fu N p_7 p_9 σ) fun _ σ_10 =>
    rr_lt (mg_r σ_10 v0 3) fun p_12 =>
    rr_lt (mg_r σ_10 v0 0) fun p_13 =>
    (if rr_ix v2 (N p_13) then rr_lt (mg_r σ_10 p_13 (rr_n v2)) fun p_14 =>
    rr_bd (f_Lev_prove fu N p_12 p_14 σ_10) fun _ σ_15 =>
    rr_lt (mg_r σ_15 v0 0) fun p_17 =>
    (if rr_ix v1 (N p_17) then rr_lt (mg_r σ_15 p_17 (rr_n v1)) fun p_18 =>
    rr_lt (mg_r σ_15 v0 0) fun p_19 =>
    (if rr_ix v2 (N p_19) then rr_lt (mg_r σ_15 p_19 (rr_n v2)) fun p_20 =>
    rr_bd (f_Roo_areLaced fu N v0 p_18 p_20 σ_15) fun r_21 σ_22 =>
    if r_21 = 0 then (some (0, σ_22)) else
    some (1, σ_22) else none) else none) else none) else none)
theorem c_Roo_laced (l : Launch) (G : rr_G) (hG : G.2.2.1.Nodup) (fu : Nat) (v0 : Nat) (m_v0 : v0 ∈ G.2.2.1) (k_v0 : G.2.2.2.1 v0 = 8) (v1 : Int32) (v2 : Int32) (σ : rr_M) (r : Int32) (σr : rr_M) (hm : f_Roo_laced fu G.2.2.2.2 v0 v1 v2 σ = some (r, σr)) : rr_Met l G yX10_laced cX10_laced 3 (some .int) 7 185 [.ref v0, .int v1, .int v2] σ σr (some (.int r)) := by
  refine rr_enter (lv0 := [(0, .ref v0), (1, .int v1), (2, .int v2)]) hp_Roo_laced hG (Nat.le_of_ble_eq_true rfl) rfl (fun X hll C => ?_)
  replace C : rr_C X G cX10_laced 3 "RootRows" (some .int) 7 185 := C
  unfold f_Roo_laced at hm
  refine rx_iload_n C 1 dX10_laced_0 rfl ?_
  obtain ⟨r_1, hc_2, hm⟩ := rr_b0_some hm
  refine rr_callS (rest := []) (st1 := [.int r_1]) C hll (c_Roo_isTray l G hG v1 σ _ hc_2) q_369 q_370 q_1 q_371 hd_Roo_isTray ⟨by decide, by decide⟩ rfl rfl (Nat.le_of_ble_eq_true rfl) rfl dX10_laced_1 ?_
  refine rx_if_eq (tgt := 14) C dX10_laced_4 (by decide) hm (fun h_3 hm => ?_) (fun h_3 hm => ?_)
  · refine rx_iconst (v := (-1)) C dX10_laced_14 rfl ?_
    exact rx_iret C dX10_laced_15 hm
  refine rx_iload_n C 2 dX10_laced_7 rfl ?_
  obtain ⟨r_4, hc_5, hm⟩ := rr_b0_some hm
  refine rr_callS (rest := []) (st1 := [.int r_4]) C hll (c_Roo_isTray l G hG v2 σ _ hc_5) q_369 q_370 q_1 q_371 hd_Roo_isTray ⟨by decide, by decide⟩ rfl rfl (Nat.le_of_ble_eq_true rfl) rfl dX10_laced_8 ?_
  refine rx_if_ne (tgt := 16) C dX10_laced_11 (by decide) hm (fun h_6 hm => ?_) (fun h_6 hm => ?_)
  · refine rx_aload_n C 0 dX10_laced_16 rfl ?_
    refine gf_330 C m_v0 k_v0 dX10_laced_17 hm (fun p_7 m_p_7 k_p_7 hm => ?_)
    refine rx_aload_n C 0 dX10_laced_20 rfl ?_
    refine gf_327 C m_v0 k_v0 dX10_laced_21 hm (fun p_8 m_p_8 k_p_8 hm => ?_)
    refine rx_iload_n C 1 dX10_laced_24 rfl ?_
    refine rx_ald15 C m_p_8 k_p_8 dX10_laced_25 hm (fun p_9 m_p_9 k_p_9 hm => ?_)
    obtain ⟨_, σ_10, hc_11, hm⟩ := rr_bd_some hm
    refine rr_callV (rest := []) (st1 := []) C 1 hll (c_Lev_prove l G hG fu p_7 m_p_7 k_p_7 p_9 m_p_9 k_p_9 σ _ hc_11) q_530 q_531 q_532 q_9 q_533 hd_Lev_prove ⟨_, rfl, rfl⟩ (by decide) m_p_7 k_p_7 ⟨by decide, by decide⟩ rfl rfl (Nat.le_of_ble_eq_true rfl) rfl dX10_laced_26 ?_
    refine rx_aload_n C 0 dX10_laced_29 rfl ?_
    refine gf_330 C m_v0 k_v0 dX10_laced_30 hm (fun p_12 m_p_12 k_p_12 hm => ?_)
    refine rx_aload_n C 0 dX10_laced_33 rfl ?_
    refine gf_327 C m_v0 k_v0 dX10_laced_34 hm (fun p_13 m_p_13 k_p_13 hm => ?_)
    refine rx_iload_n C 2 dX10_laced_37 rfl ?_
    refine rx_ald15 C m_p_13 k_p_13 dX10_laced_38 hm (fun p_14 m_p_14 k_p_14 hm => ?_)
    obtain ⟨_, σ_15, hc_16, hm⟩ := rr_bd_some hm
    refine rr_callV (rest := []) (st1 := []) C 1 hll (c_Lev_prove l G hG fu p_12 m_p_12 k_p_12 p_14 m_p_14 k_p_14 σ_10 _ hc_16) q_530 q_531 q_532 q_9 q_533 hd_Lev_prove ⟨_, rfl, rfl⟩ (by decide) m_p_12 k_p_12 ⟨by decide, by decide⟩ rfl rfl (Nat.le_of_ble_eq_true rfl) rfl dX10_laced_39 ?_
    refine rx_aload_n C 0 dX10_laced_42 rfl ?_
    refine rx_aload_n C 0 dX10_laced_43 rfl ?_
    refine gf_327 C m_v0 k_v0 dX10_laced_44 hm (fun p_17 m_p_17 k_p_17 hm => ?_)
    refine rx_iload_n C 1 dX10_laced_47 rfl ?_
    refine rx_ald15 C m_p_17 k_p_17 dX10_laced_48 hm (fun p_18 m_p_18 k_p_18 hm => ?_)
    refine rx_aload_n C 0 dX10_laced_49 rfl ?_
    refine gf_327 C m_v0 k_v0 dX10_laced_50 hm (fun p_19 m_p_19 k_p_19 hm => ?_)
    refine rx_iload_n C 2 dX10_laced_53 rfl ?_
    refine rx_ald15 C m_p_19 k_p_19 dX10_laced_54 hm (fun p_20 m_p_20 k_p_20 hm => ?_)
    obtain ⟨r_21, σ_22, hc_23, hm⟩ := rr_bd_some hm
    refine rr_callV (rest := []) (st1 := [.int r_21]) C 8 hll (c_Roo_areLaced l G hG fu v0 m_v0 k_v0 p_18 m_p_18 k_p_18 p_20 m_p_20 k_p_20 σ_15 _ _ hc_23) q_785 q_787 qs_35 q_1 q_788 hd_Roo_areLaced ⟨_, rfl, rfl⟩ (by decide) m_v0 k_v0 ⟨by decide, by decide⟩ rfl rfl (Nat.le_of_ble_eq_true rfl) rfl dX10_laced_55 ?_
    refine rx_if_eq (tgt := 65) C dX10_laced_58 (by decide) hm (fun h_24 hm => ?_) (fun h_24 hm => ?_)
    · refine rx_iconst (v := 0) C dX10_laced_65 rfl ?_
      exact rx_iret C dX10_laced_66 hm
    refine rx_iconst (v := 1) C dX10_laced_61 rfl ?_
    refine rx_goto (tgt := 66) C dX10_laced_62 (by decide) ?_
    exact rx_iret C dX10_laced_66 hm
  refine rx_iconst (v := (-1)) C dX10_laced_14 rfl ?_
  exact rx_iret C dX10_laced_15 hm
def l_Roo_mean_30 (fu : Nat) (N : Nat → Nat) (v3 : Nat) (σ : rr_M) : Nat → Int64 → Int64 → Int32 → (Int64 → Int64 → Option (Int64)) → Option (Int64)
  | 0, _, _, _, _ => none
  | n + 1, v4, v6, v8, kk =>
    if 9 ≤ v8 then (kk v4 v6) else
    (if rr_ix v8 (N v3) then
    rr_lt (v4 + (mg_l σ v3 (rr_n v8))) fun v4_8 =>
    (if rr_ix v8 (N v3) then
    rr_lt (v6 + (v8.toInt64 * (mg_l σ v3 (rr_n v8)))) fun v6_9 =>
    rr_lt (v8 + 1) fun v8_10 =>
    l_Roo_mean_30 fu N v3 σ n v4_8 v6_9 v8_10 kk else none) else none)
theorem lw_Roo_mean_30 {X : rr_X} {G : rr_G} {l : Launch} {fu : Nat} (hG : G.2.2.1.Nodup) (hll : X.2.1 = l) (C : rr_C X G cX10_mean 10 "RootRows" (some .long) 2 53) {r : Int64}  (σ : rr_M) (v2 : Int32) (v3 : Nat) (m_v3 : v3 ∈ G.2.2.1) (k_v3 : G.2.2.2.1 v3 = 12) : ∀ (n : Nat) (v4 : Int64) (v6 : Int64) (v8 : Int32) (K : Int64 → Int64 → Option (Int64)), l_Roo_mean_30 fu G.2.2.2.2 v3 σ n v4 v6 v8 K = some r → (∀ (w4 : Int64) (w6 : Int64), K w4 w6 = some r → rr_J X G 10 (rr_E X G σ (some (.long r))) σ 65 [(2, .int v2), (4, .long w4), (6, .long w6)] []) → rr_J X G 10 (rr_E X G σ (some (.long r))) σ 30 [(2, .int v2), (3, .ref v3), (4, .long v4), (6, .long v6), (8, .int v8)] [] := by
  intro n
  induction n with
  | zero =>
    intro v4 v6 v8 K hm
    cases hm
  | succ n ih =>
    intro v4 v6 v8 K hm hk
    unfold l_Roo_mean_30 at hm
    refine rx_iload C 4 dX10_mean_30 rfl ?_
    refine rx_bipush (v := 9) C dX10_mean_32 rfl ?_
    refine rx_icmp_ge (tgt := 65) C dX10_mean_34 (by decide) hm (fun h_7 hm => ?_) (fun h_7 hm => ?_)
    · refine rx_lv [0, 2, 3] rfl ?_
      exact hk _ _ hm
    refine rx_lload C 2 dX10_mean_37 rfl ?_
    refine rx_aload_n C 1 dX10_mean_39 rfl ?_
    refine rx_iload C 4 dX10_mean_40 rfl ?_
    refine rx_lald C m_v3 k_v3 dX10_mean_42 hm (fun hm => ?_)
    refine rx_ladd C dX10_mean_43 ?_
    refine rx_nml hm (fun v4_8 ev4_8 hm => ?_)
    refine rx_lstore (lv1 := [(4, .long v4_8), (2, .int v2), (3, .ref v3), (6, .long v6), (8, .int v8)]) C dX10_mean_44 (by decide) rfl ?_
    refine rx_lload C 3 dX10_mean_46 rfl ?_
    refine rx_iload C 4 dX10_mean_48 rfl ?_
    refine rx_i2l C dX10_mean_50 ?_
    refine rx_aload_n C 2 dX10_mean_51 rfl ?_
    refine rx_iload C 4 dX10_mean_52 rfl ?_
    refine rx_lald C m_v3 k_v3 dX10_mean_54 hm (fun hm => ?_)
    refine rx_lmul C dX10_mean_55 ?_
    refine rx_ladd C dX10_mean_56 ?_
    refine rx_nml hm (fun v6_9 ev6_9 hm => ?_)
    refine rx_lstore (lv1 := [(6, .long v6_9), (4, .long v4_8), (2, .int v2), (3, .ref v3), (8, .int v8)]) C dX10_mean_57 (by decide) rfl ?_
    refine rx_iinc (d := 1) (lv1 := fun v => [(8, .int v), (6, .long v6_9), (4, .long v4_8), (2, .int v2), (3, .ref v3)]) C 4 dX10_mean_59 hm rfl rfl (by decide) (fun _ => rfl) (fun v8_10 hm => ?_)
    refine rx_goto (tgt := 30) C dX10_mean_62 (by decide) ?_
    refine rx_lv [3, 4, 2, 1, 0] rfl ?_
    exact ih _ _ _ _ hm hk
def f_Roo_mean (fu : Nat) (N : Nat → Nat) (v0 : Nat) (v1 : Int32) (v2 : Int32) (σ : rr_M) : Option (Int64) :=
    Option.bind (f_Roo_isTray v1) fun r_1 =>
    if r_1 = 0 then (some ((-1000000000000000000))) else
    rr_lt (mg_r σ v0 0) fun p_4 =>
    (if rr_ix v1 (N p_4) then rr_lt (mg_r σ p_4 (rr_n v1)) fun p_5 =>
    rr_lt (mg_r σ p_5 0) fun p_6 =>
    l_Roo_mean_30 fu N p_6 σ fu 0 0 0 (fun v4_11 v6_12 =>
    if v4_11 = 0 then (some ((-1000000000000000000))) else
    Option.bind (f_Num_commonDivisor fu v6_12 v4_11) fun r_14 =>
    if r_14 = 0 then (some ((-1000000000000000000))) else
    rr_jn (fun (v8_17 : Int64) =>
    if v2 = 0 then (if v8_17 = 0 then none else
    some (v6_12 / v8_17)) else
    if v8_17 = 0 then none else
    some (v4_11 / v8_17)) fun j108 =>
    if 0 ≤ v4_11 then (j108 r_14) else
    rr_lt (-r_14) fun v8_22 =>
    j108 v8_22) else none)
theorem c_Roo_mean (l : Launch) (G : rr_G) (hG : G.2.2.1.Nodup) (fu : Nat) (v0 : Nat) (m_v0 : v0 ∈ G.2.2.1) (k_v0 : G.2.2.2.1 v0 = 8) (v1 : Int32) (v2 : Int32) (σ : rr_M) (r : Int64) (hm : f_Roo_mean fu G.2.2.2.2 v0 v1 v2 σ = some r) : rr_Met l G yX10_mean cX10_mean 10 (some .long) 2 53 [.ref v0, .int v1, .int v2] σ σ (some (.long r)) := by
  refine rr_enter (lv0 := [(0, .ref v0), (1, .int v1), (2, .int v2)]) hp_Roo_mean hG (Nat.le_of_ble_eq_true rfl) rfl (fun X hll C => ?_)
  replace C : rr_C X G cX10_mean 10 "RootRows" (some .long) 2 53 := C
  unfold f_Roo_mean at hm
  refine rx_iload_n C 1 dX10_mean_0 rfl ?_
  obtain ⟨r_1, hc_2, hm⟩ := rr_b0_some hm
  refine rr_callS (rest := []) (st1 := [.int r_1]) C hll (c_Roo_isTray l G hG v1 σ _ hc_2) q_369 q_370 q_1 q_371 hd_Roo_isTray ⟨by decide, by decide⟩ rfl rfl (Nat.le_of_ble_eq_true rfl) rfl dX10_mean_1 ?_
  refine rx_if_ne (tgt := 11) C dX10_mean_4 (by decide) hm (fun h_3 hm => ?_) (fun h_3 hm => ?_)
  · refine rx_aload_n C 0 dX10_mean_11 rfl ?_
    refine gf_327 C m_v0 k_v0 dX10_mean_12 hm (fun p_4 m_p_4 k_p_4 hm => ?_)
    refine rx_iload_n C 1 dX10_mean_15 rfl ?_
    refine rx_ald15 C m_p_4 k_p_4 dX10_mean_16 hm (fun p_5 m_p_5 k_p_5 hm => ?_)
    refine gf_35 C m_p_5 k_p_5 dX10_mean_17 hm (fun p_6 m_p_6 k_p_6 hm => ?_)
    refine rx_astore_n (lv1 := [(3, .ref p_6), (0, .ref v0), (1, .int v1), (2, .int v2)]) C dX10_mean_20 (by decide) rfl ?_
    refine rx_lconst (v := 0) C dX10_mean_21 rfl ?_
    refine rx_lstore (lv1 := [(4, .long 0), (3, .ref p_6), (0, .ref v0), (1, .int v1), (2, .int v2)]) C dX10_mean_22 (by decide) rfl ?_
    refine rx_lconst (v := 0) C dX10_mean_24 rfl ?_
    refine rx_lstore (lv1 := [(6, .long 0), (4, .long 0), (3, .ref p_6), (0, .ref v0), (1, .int v1), (2, .int v2)]) C dX10_mean_25 (by decide) rfl ?_
    refine rx_iconst (v := 0) C dX10_mean_27 rfl ?_
    refine rx_istore (lv1 := [(8, .int 0), (6, .long 0), (4, .long 0), (3, .ref p_6), (0, .ref v0), (1, .int v1), (2, .int v2)]) C dX10_mean_28 (by decide) rfl ?_
    refine rx_lv [6, 3, 2, 1, 0] rfl ?_
    refine lw_Roo_mean_30 hG hll C σ v2 p_6 m_p_6 k_p_6 _ _ _ _ _ hm (fun v4_11 v6_12 hm => ?_)
    refine rx_lload C 1 dX10_mean_65 rfl ?_
    refine rx_lconst (v := 0) C dX10_mean_67 rfl ?_
    refine rx_lcmp_ne (tgt := 76) C dX10_mean_68 dX10_mean_69 (by decide) hm (fun h_13 hm => ?_) (fun h_13 hm => ?_)
    · refine rx_lload C 2 dX10_mean_76 rfl ?_
      refine rx_lload C 1 dX10_mean_78 rfl ?_
      obtain ⟨r_14, hc_15, hm⟩ := rr_b0_some hm
      refine rr_callS (rest := []) (st1 := [.long r_14]) C hll (c_Num_commonDivisor l G hG fu v6_12 v4_11 σ _ hc_15) q_833 q_656 q_12 q_657 hd_Num_commonDivisor ⟨by decide, by decide⟩ rfl rfl (Nat.le_of_ble_eq_true rfl) rfl dX10_mean_80 ?_
      refine rx_lstore (lv1 := [(8, .long r_14), (2, .int v2), (4, .long v4_11), (6, .long v6_12)]) C dX10_mean_83 (by decide) rfl ?_
      refine rx_lload C 0 dX10_mean_85 rfl ?_
      refine rx_lconst (v := 0) C dX10_mean_87 rfl ?_
      refine rx_lcmp_ne (tgt := 96) C dX10_mean_88 dX10_mean_89 (by decide) hm (fun h_16 hm => ?_) (fun h_16 hm => ?_)
      · refine rx_lload C 2 dX10_mean_96 rfl ?_
        refine rx_lconst (v := 0) C dX10_mean_98 rfl ?_
        refine rr_jn1 hm (fun j108 ej108 hm => ?_)
        have hj108 : ∀ (v8_17 : Int64), j108 v8_17 = some r → rr_J X G 10 (rr_E X G σ (some (.long r))) σ 108 [(2, .int v2), (4, .long v4_11), (6, .long v6_12), (8, .long v8_17)] [] := by
          intro v8_17 hm
          replace hm := ej108 _ hm
          refine rx_iload_n C 0 dX10_mean_108 rfl ?_
          refine rx_if_eq (tgt := 117) C dX10_mean_109 (by decide) hm (fun h_18 hm => ?_) (fun h_18 hm => ?_)
          · refine rx_lload C 2 dX10_mean_117 rfl ?_
            refine rx_lload C 3 dX10_mean_119 rfl ?_
            obtain ⟨hz_19, hm⟩ := rr_gzl hm
            refine rx_ldiv C dX10_mean_121 hz_19 ?_
            exact rx_lretR C dX10_mean_122 hm
          refine rx_lload C 1 dX10_mean_112 rfl ?_
          refine rx_goto (tgt := 119) C dX10_mean_114 (by decide) ?_
          refine rx_lload C 3 dX10_mean_119 rfl ?_
          obtain ⟨hz_20, hm⟩ := rr_gzl hm
          refine rx_ldiv C dX10_mean_121 hz_20 ?_
          exact rx_lretR C dX10_mean_122 hm
        refine rx_lcmp_ge (tgt := 108) C dX10_mean_99 dX10_mean_100 (by decide) hm (fun h_21 hm => ?_) (fun h_21 hm => ?_)
        · refine rx_lv [1, 2, 3, 0] rfl ?_
          exact hj108 _ hm
        refine rx_lload C 0 dX10_mean_103 rfl ?_
        refine rx_lneg C dX10_mean_105 ?_
        refine rx_nml hm (fun v8_22 ev8_22 hm => ?_)
        refine rx_lstore (lv1 := [(8, .long v8_22), (2, .int v2), (4, .long v4_11), (6, .long v6_12)]) C dX10_mean_106 (by decide) rfl ?_
        refine rx_lv [1, 2, 3, 0] rfl ?_
        exact hj108 _ hm
      refine rx_ldc2 C q_521 dX10_mean_92 ?_
      exact rx_lretR C dX10_mean_95 hm
    refine rx_ldc2 C q_521 dX10_mean_72 ?_
    exact rx_lretR C dX10_mean_75 hm
  refine rx_ldc2 C q_521 dX10_mean_7 ?_
  exact rx_lretR C dX10_mean_10 hm
def f_Roo_member (fu : Nat) (N : Nat → Nat) (v0 : Nat) (v1 : Int32) (v2 : Int32) (v3 : Int32) (σ : rr_M) : Option (Int32 × rr_M) :=
    Option.bind (f_Roo_isTray v1) fun r_1 =>
    if r_1 = 0 then (some ((-1), σ)) else
    if v3 < 0 then (some ((-1), σ)) else
    if v3 ≤ 1 then (rr_lt (mg_r σ v0 0) fun p_6 =>
    (if rr_ix v1 (N p_6) then rr_lt (mg_r σ p_6 (rr_n v1)) fun p_7 =>
    rr_lt (mg_r σ v0 3) fun p_8 =>
    rr_bd (f_Lev_prove fu N p_8 p_7 σ) fun _ σ_9 =>
    if v2 < 0 then (some ((-1), σ_9)) else
    if v2 < (mg_i σ_9 p_7 6) then (if v3 = 0 then (rr_lt (mg_r σ_9 p_7 7) fun p_15 =>
    (if rr_ix v2 (N p_15) then
    some (mg_i σ_9 p_15 (rr_n v2), σ_9) else none)) else
    rr_lt (mg_r σ_9 p_7 8) fun p_14 =>
    (if rr_ix v2 (N p_14) then
    some (mg_i σ_9 p_14 (rr_n v2), σ_9) else none)) else
    some ((-1), σ_9) else none)) else
    some ((-1), σ)
theorem c_Roo_member (l : Launch) (G : rr_G) (hG : G.2.2.1.Nodup) (fu : Nat) (v0 : Nat) (m_v0 : v0 ∈ G.2.2.1) (k_v0 : G.2.2.2.1 v0 = 8) (v1 : Int32) (v2 : Int32) (v3 : Int32) (σ : rr_M) (r : Int32) (σr : rr_M) (hm : f_Roo_member fu G.2.2.2.2 v0 v1 v2 v3 σ = some (r, σr)) : rr_Met l G yX10_member cX10_member 5 (some .int) 7 185 [.ref v0, .int v1, .int v2, .int v3] σ σr (some (.int r)) := by
  refine rr_enter (lv0 := [(0, .ref v0), (1, .int v1), (2, .int v2), (3, .int v3)]) hp_Roo_member hG (Nat.le_of_ble_eq_true rfl) rfl (fun X hll C => ?_)
  replace C : rr_C X G cX10_member 5 "RootRows" (some .int) 7 185 := C
  unfold f_Roo_member at hm
  refine rx_iload_n C 1 dX10_member_0 rfl ?_
  obtain ⟨r_1, hc_2, hm⟩ := rr_b0_some hm
  refine rr_callS (rest := []) (st1 := [.int r_1]) C hll (c_Roo_isTray l G hG v1 σ _ hc_2) q_369 q_370 q_1 q_371 hd_Roo_isTray ⟨by decide, by decide⟩ rfl rfl (Nat.le_of_ble_eq_true rfl) rfl dX10_member_1 ?_
  refine rx_if_eq (tgt := 16) C dX10_member_4 (by decide) hm (fun h_3 hm => ?_) (fun h_3 hm => ?_)
  · refine rx_iconst (v := (-1)) C dX10_member_16 rfl ?_
    exact rx_iret C dX10_member_17 hm
  refine rx_iload_n C 3 dX10_member_7 rfl ?_
  refine rx_if_lt (tgt := 16) C dX10_member_8 (by decide) hm (fun h_4 hm => ?_) (fun h_4 hm => ?_)
  · refine rx_iconst (v := (-1)) C dX10_member_16 rfl ?_
    exact rx_iret C dX10_member_17 hm
  refine rx_iload_n C 3 dX10_member_11 rfl ?_
  refine rx_iconst (v := 1) C dX10_member_12 rfl ?_
  refine rx_icmp_le (tgt := 18) C dX10_member_13 (by decide) hm (fun h_5 hm => ?_) (fun h_5 hm => ?_)
  · refine rx_aload_n C 0 dX10_member_18 rfl ?_
    refine gf_327 C m_v0 k_v0 dX10_member_19 hm (fun p_6 m_p_6 k_p_6 hm => ?_)
    refine rx_iload_n C 1 dX10_member_22 rfl ?_
    refine rx_ald15 C m_p_6 k_p_6 dX10_member_23 hm (fun p_7 m_p_7 k_p_7 hm => ?_)
    refine rx_astore (lv1 := [(4, .ref p_7), (0, .ref v0), (1, .int v1), (2, .int v2), (3, .int v3)]) C dX10_member_24 (by decide) rfl ?_
    refine rx_aload_n C 1 dX10_member_26 rfl ?_
    refine gf_330 C m_v0 k_v0 dX10_member_27 hm (fun p_8 m_p_8 k_p_8 hm => ?_)
    refine rx_aload C 0 dX10_member_30 rfl ?_
    obtain ⟨_, σ_9, hc_10, hm⟩ := rr_bd_some hm
    refine rr_callV (rest := []) (st1 := []) C 1 hll (c_Lev_prove l G hG fu p_8 m_p_8 k_p_8 p_7 m_p_7 k_p_7 σ _ hc_10) q_530 q_531 q_532 q_9 q_533 hd_Lev_prove ⟨_, rfl, rfl⟩ (by decide) m_p_8 k_p_8 ⟨by decide, by decide⟩ rfl rfl (Nat.le_of_ble_eq_true rfl) rfl dX10_member_32 ?_
    refine rx_iload_n C 3 dX10_member_35 rfl ?_
    refine rx_if_lt (tgt := 48) C dX10_member_36 (by decide) hm (fun h_11 hm => ?_) (fun h_11 hm => ?_)
    · refine rx_iconst (v := (-1)) C dX10_member_48 rfl ?_
      exact rx_iret C dX10_member_49 hm
    refine rx_iload_n C 3 dX10_member_39 rfl ?_
    refine rx_aload C 0 dX10_member_40 rfl ?_
    refine gf_51 C m_p_7 k_p_7 dX10_member_42 ?_
    refine rx_icmp_lt (tgt := 50) C dX10_member_45 (by decide) hm (fun h_12 hm => ?_) (fun h_12 hm => ?_)
    · refine rx_iload_n C 4 dX10_member_50 rfl ?_
      refine rx_if_ne (tgt := 64) C dX10_member_51 (by decide) hm (fun h_13 hm => ?_) (fun h_13 hm => ?_)
      · refine rx_aload C 0 dX10_member_64 rfl ?_
        refine gf_57 C m_p_7 k_p_7 dX10_member_66 hm (fun p_14 m_p_14 k_p_14 hm => ?_)
        refine rx_iload_n C 3 dX10_member_69 rfl ?_
        refine rx_iald C m_p_14 k_p_14 dX10_member_70 hm (fun hm => ?_)
        exact rx_iret C dX10_member_71 hm
      refine rx_aload C 0 dX10_member_54 rfl ?_
      refine gf_54 C m_p_7 k_p_7 dX10_member_56 hm (fun p_15 m_p_15 k_p_15 hm => ?_)
      refine rx_iload_n C 3 dX10_member_59 rfl ?_
      refine rx_iald C m_p_15 k_p_15 dX10_member_60 hm (fun hm => ?_)
      refine rx_goto (tgt := 71) C dX10_member_61 (by decide) ?_
      exact rx_iret C dX10_member_71 hm
    refine rx_iconst (v := (-1)) C dX10_member_48 rfl ?_
    exact rx_iret C dX10_member_49 hm
  refine rx_iconst (v := (-1)) C dX10_member_16 rfl ?_
  exact rx_iret C dX10_member_17 hm
def f_Roo_number (N : Nat → Nat) (v0 : Nat) (v1 : Int32) (v2 : Int32) (σ : rr_M) : Option (Int64) :=
    Option.bind (f_Roo_isTray v1) fun r_1 =>
    if r_1 = 0 then (some ((-1000000000000000000))) else
    Option.bind (f_Roo_isPower v2) fun r_4 =>
    if r_4 = 0 then (some ((-1000000000000000000))) else
    rr_lt (mg_r σ v0 0) fun p_7 =>
    (if rr_ix v1 (N p_7) then rr_lt (mg_r σ p_7 (rr_n v1)) fun p_8 =>
    rr_lt (mg_r σ p_8 0) fun p_9 =>
    (if rr_ix v2 (N p_9) then
    some (mg_l σ p_9 (rr_n v2)) else none) else none)
theorem c_Roo_number (l : Launch) (G : rr_G) (hG : G.2.2.1.Nodup) (v0 : Nat) (m_v0 : v0 ∈ G.2.2.1) (k_v0 : G.2.2.2.1 v0 = 8) (v1 : Int32) (v2 : Int32) (σ : rr_M) (r : Int64) (hm : f_Roo_number G.2.2.2.2 v0 v1 v2 σ = some r) : rr_Met l G yX10_number cX10_number 3 (some .long) 1 20 [.ref v0, .int v1, .int v2] σ σ (some (.long r)) := by
  refine rr_enter (lv0 := [(0, .ref v0), (1, .int v1), (2, .int v2)]) hp_Roo_number hG (Nat.le_of_ble_eq_true rfl) rfl (fun X hll C => ?_)
  replace C : rr_C X G cX10_number 3 "RootRows" (some .long) 1 20 := C
  unfold f_Roo_number at hm
  refine rx_iload_n C 1 dX10_number_0 rfl ?_
  obtain ⟨r_1, hc_2, hm⟩ := rr_b0_some hm
  refine rr_callS (rest := []) (st1 := [.int r_1]) C hll (c_Roo_isTray l G hG v1 σ _ hc_2) q_369 q_370 q_1 q_371 hd_Roo_isTray ⟨by decide, by decide⟩ rfl rfl (Nat.le_of_ble_eq_true rfl) rfl dX10_number_1 ?_
  refine rx_if_eq (tgt := 14) C dX10_number_4 (by decide) hm (fun h_3 hm => ?_) (fun h_3 hm => ?_)
  · refine rx_ldc2 C q_521 dX10_number_14 ?_
    exact rx_lretR C dX10_number_17 hm
  refine rx_iload_n C 2 dX10_number_7 rfl ?_
  obtain ⟨r_4, hc_5, hm⟩ := rr_b0_some hm
  refine rr_callS (rest := []) (st1 := [.int r_4]) C hll (c_Roo_isPower l G hG v2 σ _ hc_5) q_443 q_444 q_1 q_445 hd_Roo_isPower ⟨by decide, by decide⟩ rfl rfl (Nat.le_of_ble_eq_true rfl) rfl dX10_number_8 ?_
  refine rx_if_ne (tgt := 18) C dX10_number_11 (by decide) hm (fun h_6 hm => ?_) (fun h_6 hm => ?_)
  · refine rx_aload_n C 0 dX10_number_18 rfl ?_
    refine gf_327 C m_v0 k_v0 dX10_number_19 hm (fun p_7 m_p_7 k_p_7 hm => ?_)
    refine rx_iload_n C 1 dX10_number_22 rfl ?_
    refine rx_ald15 C m_p_7 k_p_7 dX10_number_23 hm (fun p_8 m_p_8 k_p_8 hm => ?_)
    refine gf_35 C m_p_8 k_p_8 dX10_number_24 hm (fun p_9 m_p_9 k_p_9 hm => ?_)
    refine rx_iload_n C 2 dX10_number_27 rfl ?_
    refine rx_lald C m_p_9 k_p_9 dX10_number_28 hm (fun hm => ?_)
    exact rx_lretR C dX10_number_29 hm
  refine rx_ldc2 C q_521 dX10_number_14 ?_
  exact rx_lretR C dX10_number_17 hm
def f_Roo_often (fu : Nat) (N : Nat → Nat) (v0 : Nat) (v1 : Int32) (v2 : Int32) (σ : rr_M) : Option (Int32 × rr_M) :=
    Option.bind (f_Roo_isTray v1) fun r_1 =>
    if r_1 = 0 then (some ((-1), σ)) else
    rr_lt (mg_r σ v0 0) fun p_4 =>
    (if rr_ix v1 (N p_4) then rr_lt (mg_r σ p_4 (rr_n v1)) fun p_5 =>
    rr_lt (mg_r σ v0 3) fun p_6 =>
    rr_bd (f_Lev_prove fu N p_6 p_5 σ) fun _ σ_7 =>
    rr_lt (mg_r σ_7 v0 4) fun p_9 =>
    rr_bd (f_Pla_place fu N p_9 p_5 σ_7) fun _ σ_10 =>
    Option.bind (f_Tra_placeOfRoot fu N p_5 v2 σ_10) fun r_12 =>
    if r_12 < 0 then (some ((-1), σ_10)) else
    if r_12 < 8 then (rr_lt (mg_r σ_10 p_5 12) fun p_16 =>
    (if rr_ix r_12 (N p_16) then
    some (mg_i σ_10 p_16 (rr_n r_12), σ_10) else none)) else
    some ((-1), σ_10) else none)
theorem c_Roo_often (l : Launch) (G : rr_G) (hG : G.2.2.1.Nodup) (fu : Nat) (v0 : Nat) (m_v0 : v0 ∈ G.2.2.1) (k_v0 : G.2.2.2.1 v0 = 8) (v1 : Int32) (v2 : Int32) (σ : rr_M) (r : Int32) (σr : rr_M) (hm : f_Roo_often fu G.2.2.2.2 v0 v1 v2 σ = some (r, σr)) : rr_Met l G yX10_often cX10_often 5 (some .int) 8 204 [.ref v0, .int v1, .int v2] σ σr (some (.int r)) := by
  refine rr_enter (lv0 := [(0, .ref v0), (1, .int v1), (2, .int v2)]) hp_Roo_often hG (Nat.le_of_ble_eq_true rfl) rfl (fun X hll C => ?_)
  replace C : rr_C X G cX10_often 5 "RootRows" (some .int) 8 204 := C
  unfold f_Roo_often at hm
  refine rx_iload_n C 1 dX10_often_0 rfl ?_
  obtain ⟨r_1, hc_2, hm⟩ := rr_b0_some hm
  refine rr_callS (rest := []) (st1 := [.int r_1]) C hll (c_Roo_isTray l G hG v1 σ _ hc_2) q_369 q_370 q_1 q_371 hd_Roo_isTray ⟨by decide, by decide⟩ rfl rfl (Nat.le_of_ble_eq_true rfl) rfl dX10_often_1 ?_
  refine rx_if_ne (tgt := 9) C dX10_often_4 (by decide) hm (fun h_3 hm => ?_) (fun h_3 hm => ?_)
  · refine rx_aload_n C 0 dX10_often_9 rfl ?_
    refine gf_327 C m_v0 k_v0 dX10_often_10 hm (fun p_4 m_p_4 k_p_4 hm => ?_)
    refine rx_iload_n C 1 dX10_often_13 rfl ?_
    refine rx_ald15 C m_p_4 k_p_4 dX10_often_14 hm (fun p_5 m_p_5 k_p_5 hm => ?_)
    refine rx_astore_n (lv1 := [(3, .ref p_5), (0, .ref v0), (1, .int v1), (2, .int v2)]) C dX10_often_15 (by decide) rfl ?_
    refine rx_aload_n C 1 dX10_often_16 rfl ?_
    refine gf_330 C m_v0 k_v0 dX10_often_17 hm (fun p_6 m_p_6 k_p_6 hm => ?_)
    refine rx_aload_n C 0 dX10_often_20 rfl ?_
    obtain ⟨_, σ_7, hc_8, hm⟩ := rr_bd_some hm
    refine rr_callV (rest := []) (st1 := []) C 1 hll (c_Lev_prove l G hG fu p_6 m_p_6 k_p_6 p_5 m_p_5 k_p_5 σ _ hc_8) q_530 q_531 q_532 q_9 q_533 hd_Lev_prove ⟨_, rfl, rfl⟩ (by decide) m_p_6 k_p_6 ⟨by decide, by decide⟩ rfl rfl (Nat.le_of_ble_eq_true rfl) rfl dX10_often_21 ?_
    refine rx_aload_n C 1 dX10_often_24 rfl ?_
    refine gf_331 C m_v0 k_v0 dX10_often_25 hm (fun p_9 m_p_9 k_p_9 hm => ?_)
    refine rx_aload_n C 0 dX10_often_28 rfl ?_
    obtain ⟨_, σ_10, hc_11, hm⟩ := rr_bd_some hm
    refine rr_callV (rest := []) (st1 := []) C 3 hll (c_Pla_place l G hG fu p_9 m_p_9 k_p_9 p_5 m_p_5 k_p_5 σ_7 _ hc_11) q_668 q_669 q_670 q_10 q_671 hd_Pla_place ⟨_, rfl, rfl⟩ (by decide) m_p_9 k_p_9 ⟨by decide, by decide⟩ rfl rfl (Nat.le_of_ble_eq_true rfl) rfl dX10_often_29 ?_
    refine rx_aload_n C 0 dX10_often_32 rfl ?_
    refine rx_iload_n C 3 dX10_often_33 rfl ?_
    obtain ⟨r_12, hc_13, hm⟩ := rr_b0_some hm
    refine rr_callV (rest := []) (st1 := [.int r_12]) C 7 hll (c_Tra_placeOfRoot l G hG fu p_5 m_p_5 k_p_5 v2 σ_10 _ hc_13) q_754 q_755 q_756 q_2 q_757 hd_Tra_placeOfRoot ⟨_, rfl, rfl⟩ (by decide) m_p_5 k_p_5 ⟨by decide, by decide⟩ rfl rfl (Nat.le_of_ble_eq_true rfl) rfl dX10_often_34 ?_
    refine rx_istore (lv1 := [(4, .int r_12), (3, .ref p_5), (0, .ref v0), (1, .int v1), (2, .int v2)]) C dX10_often_37 (by decide) rfl ?_
    refine rx_iload C 0 dX10_often_39 rfl ?_
    refine rx_if_lt (tgt := 51) C dX10_often_41 (by decide) hm (fun h_14 hm => ?_) (fun h_14 hm => ?_)
    · refine rx_iconst (v := (-1)) C dX10_often_51 rfl ?_
      exact rx_iret C dX10_often_52 hm
    refine rx_iload C 0 dX10_often_44 rfl ?_
    refine rx_bipush (v := 8) C dX10_often_46 rfl ?_
    refine rx_icmp_lt (tgt := 53) C dX10_often_48 (by decide) hm (fun h_15 hm => ?_) (fun h_15 hm => ?_)
    · refine rx_aload_n C 1 dX10_often_53 rfl ?_
      refine gf_66 C m_p_5 k_p_5 dX10_often_54 hm (fun p_16 m_p_16 k_p_16 hm => ?_)
      refine rx_iload C 0 dX10_often_57 rfl ?_
      refine rx_iald C m_p_16 k_p_16 dX10_often_59 hm (fun hm => ?_)
      exact rx_iret C dX10_often_60 hm
    refine rx_iconst (v := (-1)) C dX10_often_51 rfl ?_
    exact rx_iret C dX10_often_52 hm
  refine rx_iconst (v := (-1)) C dX10_often_7 rfl ?_
  exact rx_iret C dX10_often_8 hm
def f_Roo_operate (fu : Nat) (N : Nat → Nat) (v0 : Nat) (v1 : Int32) (v2 : Int32) (v3 : Int32) (v4 : Int32) (σ : rr_M) : Option (Int32 × rr_M) :=
    Option.bind (f_Roo_isTray v1) fun r_1 =>
    if r_1 = 0 then (if rr_b1 0 then some (0, σ) else none) else
    Option.bind (f_Roo_isTray v2) fun r_4 =>
    if r_4 = 0 then (if rr_b1 0 then some (0, σ) else none) else
    Option.bind (f_Roo_isFactor v4) fun r_7 =>
    if r_7 = 0 then (if rr_b1 0 then some (0, σ) else none) else
    rr_lt (mg_r σ v0 2) fun p_10 =>
    rr_lt (mg_r σ v0 0) fun p_11 =>
    (if rr_ix v2 (N p_11) then rr_lt (mg_r σ p_11 (rr_n v2)) fun p_12 =>
    rr_lt (mg_r σ p_12 0) fun p_13 =>
    rr_bd (f_Mak_apply fu N p_10 p_13 v3 v4 σ) fun r_14 σ_15 =>
    if r_14 = 0 then (if rr_b1 0 then some (0, σ_15) else none) else
    rr_lt (mg_r σ_15 v0 0) fun p_18 =>
    (if rr_ix v1 (N p_18) then rr_lt (mg_r σ_15 p_18 (rr_n v1)) fun p_19 =>
    rr_lt (mg_r σ_15 v0 2) fun p_20 =>
    rr_lt (mg_r σ_15 p_20 0) fun p_21 =>
    rr_bd (f_Tra_take fu N p_19 p_21 σ_15) fun _ σ_22 =>
    if rr_b1 1 then some (1, σ_22) else none else none) else none)
theorem c_Roo_operate (l : Launch) (G : rr_G) (hG : G.2.2.1.Nodup) (fu : Nat) (v0 : Nat) (m_v0 : v0 ∈ G.2.2.1) (k_v0 : G.2.2.2.1 v0 = 8) (v1 : Int32) (v2 : Int32) (v3 : Int32) (v4 : Int32) (σ : rr_M) (r : Int32) (σr : rr_M) (hm : f_Roo_operate fu G.2.2.2.2 v0 v1 v2 v3 v4 σ = some (r, σr)) : rr_Met l G yX10_operate cX10_operate 5 (some .boolean) 3 72 [.ref v0, .int v1, .int v2, .int v3, .int v4] σ σr (some (.int r)) := by
  refine rr_enter (lv0 := [(0, .ref v0), (1, .int v1), (2, .int v2), (3, .int v3), (4, .int v4)]) hp_Roo_operate hG (Nat.le_of_ble_eq_true rfl) rfl (fun X hll C => ?_)
  replace C : rr_C X G cX10_operate 5 "RootRows" (some .boolean) 3 72 := C
  unfold f_Roo_operate at hm
  refine rx_iload_n C 1 dX10_operate_0 rfl ?_
  obtain ⟨r_1, hc_2, hm⟩ := rr_b0_some hm
  refine rr_callS (rest := []) (st1 := [.int r_1]) C hll (c_Roo_isTray l G hG v1 σ _ hc_2) q_369 q_370 q_1 q_371 hd_Roo_isTray ⟨by decide, by decide⟩ rfl rfl (Nat.le_of_ble_eq_true rfl) rfl dX10_operate_1 ?_
  refine rx_if_eq (tgt := 22) C dX10_operate_4 (by decide) hm (fun h_3 hm => ?_) (fun h_3 hm => ?_)
  · refine rx_iconst (v := 0) C dX10_operate_22 rfl ?_
    exact rx_zret C dX10_operate_23 hm
  refine rx_iload_n C 2 dX10_operate_7 rfl ?_
  obtain ⟨r_4, hc_5, hm⟩ := rr_b0_some hm
  refine rr_callS (rest := []) (st1 := [.int r_4]) C hll (c_Roo_isTray l G hG v2 σ _ hc_5) q_369 q_370 q_1 q_371 hd_Roo_isTray ⟨by decide, by decide⟩ rfl rfl (Nat.le_of_ble_eq_true rfl) rfl dX10_operate_8 ?_
  refine rx_if_eq (tgt := 22) C dX10_operate_11 (by decide) hm (fun h_6 hm => ?_) (fun h_6 hm => ?_)
  · refine rx_iconst (v := 0) C dX10_operate_22 rfl ?_
    exact rx_zret C dX10_operate_23 hm
  refine rx_iload C 4 dX10_operate_14 rfl ?_
  obtain ⟨r_7, hc_8, hm⟩ := rr_b0_some hm
  refine rr_callS (rest := []) (st1 := [.int r_7]) C hll (c_Roo_isFactor l G hG v4 σ _ hc_8) q_456 q_457 q_1 q_458 hd_Roo_isFactor ⟨by decide, by decide⟩ rfl rfl (Nat.le_of_ble_eq_true rfl) rfl dX10_operate_16 ?_
  refine rx_if_ne (tgt := 24) C dX10_operate_19 (by decide) hm (fun h_9 hm => ?_) (fun h_9 hm => ?_)
  · refine rx_aload_n C 0 dX10_operate_24 rfl ?_
    refine gf_329 C m_v0 k_v0 dX10_operate_25 hm (fun p_10 m_p_10 k_p_10 hm => ?_)
    refine rx_aload_n C 0 dX10_operate_28 rfl ?_
    refine gf_327 C m_v0 k_v0 dX10_operate_29 hm (fun p_11 m_p_11 k_p_11 hm => ?_)
    refine rx_iload_n C 2 dX10_operate_32 rfl ?_
    refine rx_ald15 C m_p_11 k_p_11 dX10_operate_33 hm (fun p_12 m_p_12 k_p_12 hm => ?_)
    refine gf_35 C m_p_12 k_p_12 dX10_operate_34 hm (fun p_13 m_p_13 k_p_13 hm => ?_)
    refine rx_iload_n C 3 dX10_operate_37 rfl ?_
    refine rx_iload C 4 dX10_operate_38 rfl ?_
    obtain ⟨r_14, σ_15, hc_16, hm⟩ := rr_bd_some hm
    refine rr_callV (rest := []) (st1 := [.int r_14]) C 2 hll (c_Mak_apply l G hG fu p_10 m_p_10 k_p_10 p_13 m_p_13 k_p_13 v3 v4 σ _ _ hc_16) q_459 q_460 q_461 q_4 q_462 hd_Mak_apply ⟨_, rfl, rfl⟩ (by decide) m_p_10 k_p_10 ⟨by decide, by decide⟩ rfl rfl (Nat.le_of_ble_eq_true rfl) rfl dX10_operate_40 ?_
    refine rx_if_ne (tgt := 48) C dX10_operate_43 (by decide) hm (fun h_17 hm => ?_) (fun h_17 hm => ?_)
    · refine rx_aload_n C 0 dX10_operate_48 rfl ?_
      refine gf_327 C m_v0 k_v0 dX10_operate_49 hm (fun p_18 m_p_18 k_p_18 hm => ?_)
      refine rx_iload_n C 1 dX10_operate_52 rfl ?_
      refine rx_ald15 C m_p_18 k_p_18 dX10_operate_53 hm (fun p_19 m_p_19 k_p_19 hm => ?_)
      refine rx_aload_n C 0 dX10_operate_54 rfl ?_
      refine gf_329 C m_v0 k_v0 dX10_operate_55 hm (fun p_20 m_p_20 k_p_20 hm => ?_)
      refine gf_138 C m_p_20 k_p_20 dX10_operate_58 hm (fun p_21 m_p_21 k_p_21 hm => ?_)
      obtain ⟨_, σ_22, hc_23, hm⟩ := rr_bd_some hm
      refine rr_callV (rest := []) (st1 := []) C 7 hll (c_Tra_take l G hG fu p_19 m_p_19 k_p_19 p_21 m_p_21 k_p_21 σ_15 _ hc_23) q_427 q_428 q_429 q_2 q_430 hd_Tra_take ⟨_, rfl, rfl⟩ (by decide) m_p_19 k_p_19 ⟨by decide, by decide⟩ rfl rfl (Nat.le_of_ble_eq_true rfl) rfl dX10_operate_61 ?_
      refine rx_iconst (v := 1) C dX10_operate_64 rfl ?_
      exact rx_zret C dX10_operate_65 hm
    refine rx_iconst (v := 0) C dX10_operate_46 rfl ?_
    exact rx_zret C dX10_operate_47 hm
  refine rx_iconst (v := 0) C dX10_operate_22 rfl ?_
  exact rx_zret C dX10_operate_23 hm
def f_Roo_put (N : Nat → Nat) (v0 : Nat) (v1 : Int32) (v2 : Int32) (v3 : Int32) (σ : rr_M) : Option (Int32 × rr_M) :=
    Option.bind (f_Roo_isTray v1) fun r_1 =>
    if r_1 = 0 then (if rr_b1 0 then some (0, σ) else none) else
    Option.bind (f_Roo_isPower v2) fun r_4 =>
    if r_4 = 0 then (if rr_b1 0 then some (0, σ) else none) else
    if 100000000 < v3.toInt64 then (if rr_b1 0 then some (0, σ) else none) else
    if (-100000000) ≤ v3.toInt64 then (rr_lt (mg_r σ v0 0) fun p_9 =>
    (if rr_ix v1 (N p_9) then rr_lt (mg_r σ p_9 (rr_n v1)) fun p_10 =>
    rr_bd (f_Tra_change N p_10 v2 v3.toInt64 σ) fun _ σ_11 =>
    if rr_b1 1 then some (1, σ_11) else none else none)) else
    if rr_b1 0 then some (0, σ) else none
theorem c_Roo_put (l : Launch) (G : rr_G) (hG : G.2.2.1.Nodup) (v0 : Nat) (m_v0 : v0 ∈ G.2.2.1) (k_v0 : G.2.2.2.1 v0 = 8) (v1 : Int32) (v2 : Int32) (v3 : Int32) (σ : rr_M) (r : Int32) (σr : rr_M) (hm : f_Roo_put G.2.2.2.2 v0 v1 v2 v3 σ = some (r, σr)) : rr_Met l G yX10_put cX10_put 4 (some .boolean) 2 43 [.ref v0, .int v1, .int v2, .int v3] σ σr (some (.int r)) := by
  refine rr_enter (lv0 := [(0, .ref v0), (1, .int v1), (2, .int v2), (3, .int v3)]) hp_Roo_put hG (Nat.le_of_ble_eq_true rfl) rfl (fun X hll C => ?_)
  replace C : rr_C X G cX10_put 4 "RootRows" (some .boolean) 2 43 := C
  unfold f_Roo_put at hm
  refine rx_iload_n C 1 dX10_put_0 rfl ?_
  obtain ⟨r_1, hc_2, hm⟩ := rr_b0_some hm
  refine rr_callS (rest := []) (st1 := [.int r_1]) C hll (c_Roo_isTray l G hG v1 σ _ hc_2) q_369 q_370 q_1 q_371 hd_Roo_isTray ⟨by decide, by decide⟩ rfl rfl (Nat.le_of_ble_eq_true rfl) rfl dX10_put_1 ?_
  refine rx_if_eq (tgt := 32) C dX10_put_4 (by decide) hm (fun h_3 hm => ?_) (fun h_3 hm => ?_)
  · refine rx_iconst (v := 0) C dX10_put_32 rfl ?_
    exact rx_zret C dX10_put_33 hm
  refine rx_iload_n C 2 dX10_put_7 rfl ?_
  obtain ⟨r_4, hc_5, hm⟩ := rr_b0_some hm
  refine rr_callS (rest := []) (st1 := [.int r_4]) C hll (c_Roo_isPower l G hG v2 σ _ hc_5) q_443 q_444 q_1 q_445 hd_Roo_isPower ⟨by decide, by decide⟩ rfl rfl (Nat.le_of_ble_eq_true rfl) rfl dX10_put_8 ?_
  refine rx_if_eq (tgt := 32) C dX10_put_11 (by decide) hm (fun h_6 hm => ?_) (fun h_6 hm => ?_)
  · refine rx_iconst (v := 0) C dX10_put_32 rfl ?_
    exact rx_zret C dX10_put_33 hm
  refine rx_iload_n C 3 dX10_put_14 rfl ?_
  refine rx_i2l C dX10_put_15 ?_
  refine rx_ldc2 C q_446 dX10_put_16 ?_
  refine rx_lcmp_gt (tgt := 32) C dX10_put_19 dX10_put_20 (by decide) hm (fun h_7 hm => ?_) (fun h_7 hm => ?_)
  · refine rx_iconst (v := 0) C dX10_put_32 rfl ?_
    exact rx_zret C dX10_put_33 hm
  refine rx_iload_n C 3 dX10_put_23 rfl ?_
  refine rx_i2l C dX10_put_24 ?_
  refine rx_ldc2 C q_447 dX10_put_25 ?_
  refine rx_lcmp_ge (tgt := 34) C dX10_put_28 dX10_put_29 (by decide) hm (fun h_8 hm => ?_) (fun h_8 hm => ?_)
  · refine rx_aload_n C 0 dX10_put_34 rfl ?_
    refine gf_327 C m_v0 k_v0 dX10_put_35 hm (fun p_9 m_p_9 k_p_9 hm => ?_)
    refine rx_iload_n C 1 dX10_put_38 rfl ?_
    refine rx_ald15 C m_p_9 k_p_9 dX10_put_39 hm (fun p_10 m_p_10 k_p_10 hm => ?_)
    refine rx_iload_n C 2 dX10_put_40 rfl ?_
    refine rx_iload_n C 3 dX10_put_41 rfl ?_
    refine rx_i2l C dX10_put_42 ?_
    obtain ⟨_, σ_11, hc_12, hm⟩ := rr_bd_some hm
    refine rr_callV (rest := []) (st1 := []) C 7 hll (c_Tra_change l G hG p_10 m_p_10 k_p_10 v2 v3.toInt64 σ _ hc_12) q_448 q_449 q_450 q_2 q_451 hd_Tra_change ⟨_, rfl, rfl⟩ (by decide) m_p_10 k_p_10 ⟨by decide, by decide⟩ rfl rfl (Nat.le_of_ble_eq_true rfl) rfl dX10_put_43 ?_
    refine rx_iconst (v := 1) C dX10_put_46 rfl ?_
    exact rx_zret C dX10_put_47 hm
  refine rx_iconst (v := 0) C dX10_put_32 rfl ?_
  exact rx_zret C dX10_put_33 hm
def f_Roo_read (fu : Nat) (N : Nat → Nat) (v0 : Nat) (v1 : Int32) (σ : rr_M) : Option (Int32 × rr_M) :=
    Option.bind (f_Roo_isTray v1) fun r_1 =>
    if r_1 = 0 then (if rr_b1 0 then some (0, σ) else none) else
    rr_lt (mg_r σ v0 1) fun p_4 =>
    rr_bd (f_Tap_parse fu N p_4 σ) fun _ σ_5 =>
    rr_lt (mg_r σ_5 v0 1) fun p_7 =>
    rr_lt (ms_i σ_5 p_7 1 0) fun σ_8 =>
    rr_lt (mg_r σ_8 v0 1) fun p_9 =>
    if (mg_i σ_8 p_9 2) = 0 then (rr_lt (mg_r σ_8 v0 0) fun p_11 =>
    (if rr_ix v1 (N p_11) then rr_lt (mg_r σ_8 p_11 (rr_n v1)) fun p_12 =>
    rr_lt (mg_r σ_8 v0 1) fun p_13 =>
    rr_lt (mg_r σ_8 p_13 3) fun p_14 =>
    rr_bd (f_Tra_take fu N p_12 p_14 σ_8) fun _ σ_15 =>
    if rr_b1 1 then some (1, σ_15) else none else none)) else
    if rr_b1 0 then some (0, σ_8) else none
theorem c_Roo_read (l : Launch) (G : rr_G) (hG : G.2.2.1.Nodup) (fu : Nat) (v0 : Nat) (m_v0 : v0 ∈ G.2.2.1) (k_v0 : G.2.2.2.1 v0 = 8) (v1 : Int32) (σ : rr_M) (r : Int32) (σr : rr_M) (hm : f_Roo_read fu G.2.2.2.2 v0 v1 σ = some (r, σr)) : rr_Met l G yX10_read cX10_read 2 (some .boolean) 4 93 [.ref v0, .int v1] σ σr (some (.int r)) := by
  refine rr_enter (lv0 := [(0, .ref v0), (1, .int v1)]) hp_Roo_read hG (Nat.le_of_ble_eq_true rfl) rfl (fun X hll C => ?_)
  replace C : rr_C X G cX10_read 2 "RootRows" (some .boolean) 4 93 := C
  unfold f_Roo_read at hm
  refine rx_iload_n C 1 dX10_read_0 rfl ?_
  obtain ⟨r_1, hc_2, hm⟩ := rr_b0_some hm
  refine rr_callS (rest := []) (st1 := [.int r_1]) C hll (c_Roo_isTray l G hG v1 σ _ hc_2) q_369 q_370 q_1 q_371 hd_Roo_isTray ⟨by decide, by decide⟩ rfl rfl (Nat.le_of_ble_eq_true rfl) rfl dX10_read_1 ?_
  refine rx_if_ne (tgt := 9) C dX10_read_4 (by decide) hm (fun h_3 hm => ?_) (fun h_3 hm => ?_)
  · refine rx_aload_n C 0 dX10_read_9 rfl ?_
    refine gf_328 C m_v0 k_v0 dX10_read_10 hm (fun p_4 m_p_4 k_p_4 hm => ?_)
    obtain ⟨_, σ_5, hc_6, hm⟩ := rr_bd_some hm
    refine rr_callV (rest := []) (st1 := []) C 6 hll (c_Tap_parse l G hG fu p_4 m_p_4 k_p_4 σ _ hc_6) q_372 q_373 q_374 q_3 q_375 hd_Tap_parse ⟨_, rfl, rfl⟩ (by decide) m_p_4 k_p_4 ⟨by decide, by decide⟩ rfl rfl (Nat.le_of_ble_eq_true rfl) rfl dX10_read_13 ?_
    refine rx_aload_n C 0 dX10_read_16 rfl ?_
    refine gf_328 C m_v0 k_v0 dX10_read_17 hm (fun p_7 m_p_7 k_p_7 hm => ?_)
    refine rx_iconst (v := 0) C dX10_read_20 rfl ?_
    refine pf_105 C m_p_7 k_p_7 dX10_read_21 hm (fun σ_8 hm => ?_)
    refine rx_aload_n C 0 dX10_read_24 rfl ?_
    refine gf_328 C m_v0 k_v0 dX10_read_25 hm (fun p_9 m_p_9 k_p_9 hm => ?_)
    refine gf_107 C m_p_9 k_p_9 dX10_read_28 ?_
    refine rx_if_eq (tgt := 36) C dX10_read_31 (by decide) hm (fun h_10 hm => ?_) (fun h_10 hm => ?_)
    · refine rx_aload_n C 0 dX10_read_36 rfl ?_
      refine gf_327 C m_v0 k_v0 dX10_read_37 hm (fun p_11 m_p_11 k_p_11 hm => ?_)
      refine rx_iload_n C 1 dX10_read_40 rfl ?_
      refine rx_ald15 C m_p_11 k_p_11 dX10_read_41 hm (fun p_12 m_p_12 k_p_12 hm => ?_)
      refine rx_aload_n C 0 dX10_read_42 rfl ?_
      refine gf_328 C m_v0 k_v0 dX10_read_43 hm (fun p_13 m_p_13 k_p_13 hm => ?_)
      refine gf_109 C m_p_13 k_p_13 dX10_read_46 hm (fun p_14 m_p_14 k_p_14 hm => ?_)
      obtain ⟨_, σ_15, hc_16, hm⟩ := rr_bd_some hm
      refine rr_callV (rest := []) (st1 := []) C 7 hll (c_Tra_take l G hG fu p_12 m_p_12 k_p_12 p_14 m_p_14 k_p_14 σ_8 _ hc_16) q_427 q_428 q_429 q_2 q_430 hd_Tra_take ⟨_, rfl, rfl⟩ (by decide) m_p_12 k_p_12 ⟨by decide, by decide⟩ rfl rfl (Nat.le_of_ble_eq_true rfl) rfl dX10_read_49 ?_
      refine rx_iconst (v := 1) C dX10_read_52 rfl ?_
      exact rx_zret C dX10_read_53 hm
    refine rx_iconst (v := 0) C dX10_read_34 rfl ?_
    exact rx_zret C dX10_read_35 hm
  refine rx_iconst (v := 0) C dX10_read_7 rfl ?_
  exact rx_zret C dX10_read_8 hm
def f_Roo_root (fu : Nat) (N : Nat → Nat) (v0 : Nat) (v1 : Int32) (v2 : Int32) (v3 : Int32) (σ : rr_M) : Option (Int64 × rr_M) :=
    Option.bind (f_Roo_isTray v1) fun r_1 =>
    if r_1 = 0 then (some ((-1000000000000000000), σ)) else
    Option.bind (f_Roo_isFineness v3) fun r_4 =>
    if r_4 = 0 then (some ((-1000000000000000000), σ)) else
    rr_lt (mg_r σ v0 0) fun p_7 =>
    (if rr_ix v1 (N p_7) then rr_lt (mg_r σ p_7 (rr_n v1)) fun p_8 =>
    rr_lt (mg_r σ v0 3) fun p_9 =>
    rr_bd (f_Lev_prove fu N p_9 p_8 σ) fun _ σ_10 =>
    rr_lt (mg_r σ_10 v0 4) fun p_12 =>
    rr_bd (f_Pla_place fu N p_12 p_8 σ_10) fun _ σ_13 =>
    Option.bind (f_Tra_placeOfRoot fu N p_8 v2 σ_13) fun r_15 =>
    if r_15 < 0 then (some ((-1000000000000000000), σ_13)) else
    if r_15 < 8 then (Option.bind (f_Tra_floorOf N p_8 r_15 σ_13) fun r_19 =>
    some (r_19 >>> ((12 - v3).toInt64 &&& 63), σ_13)) else
    some ((-1000000000000000000), σ_13) else none)
theorem c_Roo_root (l : Launch) (G : rr_G) (hG : G.2.2.1.Nodup) (fu : Nat) (v0 : Nat) (m_v0 : v0 ∈ G.2.2.1) (k_v0 : G.2.2.2.1 v0 = 8) (v1 : Int32) (v2 : Int32) (v3 : Int32) (σ : rr_M) (r : Int64) (σr : rr_M) (hm : f_Roo_root fu G.2.2.2.2 v0 v1 v2 v3 σ = some (r, σr)) : rr_Met l G yX10_root cX10_root 6 (some .long) 8 204 [.ref v0, .int v1, .int v2, .int v3] σ σr (some (.long r)) := by
  refine rr_enter (lv0 := [(0, .ref v0), (1, .int v1), (2, .int v2), (3, .int v3)]) hp_Roo_root hG (Nat.le_of_ble_eq_true rfl) rfl (fun X hll C => ?_)
  replace C : rr_C X G cX10_root 6 "RootRows" (some .long) 8 204 := C
  unfold f_Roo_root at hm
  refine rx_iload_n C 1 dX10_root_0 rfl ?_
  obtain ⟨r_1, hc_2, hm⟩ := rr_b0_some hm
  refine rr_callS (rest := []) (st1 := [.int r_1]) C hll (c_Roo_isTray l G hG v1 σ _ hc_2) q_369 q_370 q_1 q_371 hd_Roo_isTray ⟨by decide, by decide⟩ rfl rfl (Nat.le_of_ble_eq_true rfl) rfl dX10_root_1 ?_
  refine rx_if_eq (tgt := 14) C dX10_root_4 (by decide) hm (fun h_3 hm => ?_) (fun h_3 hm => ?_)
  · refine rx_ldc2 C q_521 dX10_root_14 ?_
    exact rx_lret C dX10_root_17 hm
  refine rx_iload_n C 3 dX10_root_7 rfl ?_
  obtain ⟨r_4, hc_5, hm⟩ := rr_b0_some hm
  refine rr_callS (rest := []) (st1 := [.int r_4]) C hll (c_Roo_isFineness l G hG v3 σ _ hc_5) q_665 q_666 q_1 q_667 hd_Roo_isFineness ⟨by decide, by decide⟩ rfl rfl (Nat.le_of_ble_eq_true rfl) rfl dX10_root_8 ?_
  refine rx_if_ne (tgt := 18) C dX10_root_11 (by decide) hm (fun h_6 hm => ?_) (fun h_6 hm => ?_)
  · refine rx_aload_n C 0 dX10_root_18 rfl ?_
    refine gf_327 C m_v0 k_v0 dX10_root_19 hm (fun p_7 m_p_7 k_p_7 hm => ?_)
    refine rx_iload_n C 1 dX10_root_22 rfl ?_
    refine rx_ald15 C m_p_7 k_p_7 dX10_root_23 hm (fun p_8 m_p_8 k_p_8 hm => ?_)
    refine rx_astore (lv1 := [(4, .ref p_8), (0, .ref v0), (1, .int v1), (2, .int v2), (3, .int v3)]) C dX10_root_24 (by decide) rfl ?_
    refine rx_aload_n C 1 dX10_root_26 rfl ?_
    refine gf_330 C m_v0 k_v0 dX10_root_27 hm (fun p_9 m_p_9 k_p_9 hm => ?_)
    refine rx_aload C 0 dX10_root_30 rfl ?_
    obtain ⟨_, σ_10, hc_11, hm⟩ := rr_bd_some hm
    refine rr_callV (rest := []) (st1 := []) C 1 hll (c_Lev_prove l G hG fu p_9 m_p_9 k_p_9 p_8 m_p_8 k_p_8 σ _ hc_11) q_530 q_531 q_532 q_9 q_533 hd_Lev_prove ⟨_, rfl, rfl⟩ (by decide) m_p_9 k_p_9 ⟨by decide, by decide⟩ rfl rfl (Nat.le_of_ble_eq_true rfl) rfl dX10_root_32 ?_
    refine rx_aload_n C 1 dX10_root_35 rfl ?_
    refine gf_331 C m_v0 k_v0 dX10_root_36 hm (fun p_12 m_p_12 k_p_12 hm => ?_)
    refine rx_aload C 0 dX10_root_39 rfl ?_
    obtain ⟨_, σ_13, hc_14, hm⟩ := rr_bd_some hm
    refine rr_callV (rest := []) (st1 := []) C 3 hll (c_Pla_place l G hG fu p_12 m_p_12 k_p_12 p_8 m_p_8 k_p_8 σ_10 _ hc_14) q_668 q_669 q_670 q_10 q_671 hd_Pla_place ⟨_, rfl, rfl⟩ (by decide) m_p_12 k_p_12 ⟨by decide, by decide⟩ rfl rfl (Nat.le_of_ble_eq_true rfl) rfl dX10_root_41 ?_
    refine rx_aload C 0 dX10_root_44 rfl ?_
    refine rx_iload_n C 3 dX10_root_46 rfl ?_
    obtain ⟨r_15, hc_16, hm⟩ := rr_b0_some hm
    refine rr_callV (rest := []) (st1 := [.int r_15]) C 7 hll (c_Tra_placeOfRoot l G hG fu p_8 m_p_8 k_p_8 v2 σ_13 _ hc_16) q_754 q_755 q_756 q_2 q_757 hd_Tra_placeOfRoot ⟨_, rfl, rfl⟩ (by decide) m_p_8 k_p_8 ⟨by decide, by decide⟩ rfl rfl (Nat.le_of_ble_eq_true rfl) rfl dX10_root_47 ?_
    refine rx_istore (lv1 := [(5, .int r_15), (4, .ref p_8), (0, .ref v0), (1, .int v1), (2, .int v2), (3, .int v3)]) C dX10_root_50 (by decide) rfl ?_
    refine rx_iload C 0 dX10_root_52 rfl ?_
    refine rx_if_lt (tgt := 64) C dX10_root_54 (by decide) hm (fun h_17 hm => ?_) (fun h_17 hm => ?_)
    · refine rx_ldc2 C q_521 dX10_root_64 ?_
      exact rx_lret C dX10_root_67 hm
    refine rx_iload C 0 dX10_root_57 rfl ?_
    refine rx_bipush (v := 8) C dX10_root_59 rfl ?_
    refine rx_icmp_lt (tgt := 68) C dX10_root_61 (by decide) hm (fun h_18 hm => ?_) (fun h_18 hm => ?_)
    · refine rx_aload C 1 dX10_root_68 rfl ?_
      refine rx_iload C 0 dX10_root_70 rfl ?_
      obtain ⟨r_19, hc_20, hm⟩ := rr_b0_some hm
      refine rr_callV (rest := []) (st1 := [.long r_19]) C 7 hll (c_Tra_floorOf l G hG p_8 m_p_8 k_p_8 r_15 σ_13 _ hc_20) q_758 q_759 q_760 q_2 q_761 hd_Tra_floorOf ⟨_, rfl, rfl⟩ (by decide) m_p_8 k_p_8 ⟨by decide, by decide⟩ rfl rfl (Nat.le_of_ble_eq_true rfl) rfl dX10_root_72 ?_
      refine rx_bipush (v := 12) C dX10_root_75 rfl ?_
      refine rx_iload_n C 5 dX10_root_77 rfl ?_
      refine rx_isub C dX10_root_78 ?_
      refine rx_lshr C dX10_root_79 ?_
      exact rx_lret C dX10_root_80 hm
    refine rx_ldc2 C q_521 dX10_root_64 ?_
    exact rx_lret C dX10_root_67 hm
  refine rx_ldc2 C q_521 dX10_root_14 ?_
  exact rx_lret C dX10_root_17 hm
def f_Roo_row (fu : Nat) (N : Nat → Nat) (v0 : Nat) (v1 : Int32) (v2 : Int32) (σ : rr_M) : Option (Int32) :=
    Option.bind (f_Roo_isTray v1) fun r_1 =>
    if r_1 = 0 then (some ((-1))) else
    if v2 < 0 then (some ((-1))) else
    if v2 ≤ 4 then (rr_lt (mg_r σ v0 0) fun p_6 =>
    (if rr_ix v1 (N p_6) then rr_lt (mg_r σ p_6 (rr_n v1)) fun p_7 =>
    rr_lt (mg_r σ p_7 0) fun p_8 =>
    Option.bind (f_Num_degreeOf fu N p_8 σ) fun r_9 =>
    if 0 ≤ r_9 then (if v2 = 0 then (Option.bind (f_Row_firstAgainstNewton fu N p_8 r_9 σ) fun r_13 =>
    some (r_13)) else
    if v2 = 1 then (Option.bind (f_Row_firstNotConcave fu N p_8 r_9 σ) fun r_16 =>
    some (r_16)) else
    if v2 = 2 then (Option.bind (f_Row_holes fu N p_8 r_9 σ) fun r_19 =>
    some (r_19)) else
    if v2 = 3 then (Option.bind (f_Row_hasHump fu N p_8 r_9 σ) fun r_22 =>
    if r_22 = 0 then (some (0)) else
    some (1)) else
    (Option.bind (f_Row_modes fu N p_8 r_9 σ) fun r_25 =>
    some (r_25))) else
    some ((-2)) else none)) else
    some ((-1))
theorem c_Roo_row (l : Launch) (G : rr_G) (hG : G.2.2.1.Nodup) (fu : Nat) (v0 : Nat) (m_v0 : v0 ∈ G.2.2.1) (k_v0 : G.2.2.2.1 v0 = 8) (v1 : Int32) (v2 : Int32) (σ : rr_M) (r : Int32) (hm : f_Roo_row fu G.2.2.2.2 v0 v1 v2 σ = some r) : rr_Met l G yX10_row cX10_row 5 (some .int) 1 25 [.ref v0, .int v1, .int v2] σ σ (some (.int r)) := by
  refine rr_enter (lv0 := [(0, .ref v0), (1, .int v1), (2, .int v2)]) hp_Roo_row hG (Nat.le_of_ble_eq_true rfl) rfl (fun X hll C => ?_)
  replace C : rr_C X G cX10_row 5 "RootRows" (some .int) 1 25 := C
  unfold f_Roo_row at hm
  refine rx_iload_n C 1 dX10_row_0 rfl ?_
  obtain ⟨r_1, hc_2, hm⟩ := rr_b0_some hm
  refine rr_callS (rest := []) (st1 := [.int r_1]) C hll (c_Roo_isTray l G hG v1 σ _ hc_2) q_369 q_370 q_1 q_371 hd_Roo_isTray ⟨by decide, by decide⟩ rfl rfl (Nat.le_of_ble_eq_true rfl) rfl dX10_row_1 ?_
  refine rx_if_eq (tgt := 16) C dX10_row_4 (by decide) hm (fun h_3 hm => ?_) (fun h_3 hm => ?_)
  · refine rx_iconst (v := (-1)) C dX10_row_16 rfl ?_
    exact rx_iretR C dX10_row_17 hm
  refine rx_iload_n C 2 dX10_row_7 rfl ?_
  refine rx_if_lt (tgt := 16) C dX10_row_8 (by decide) hm (fun h_4 hm => ?_) (fun h_4 hm => ?_)
  · refine rx_iconst (v := (-1)) C dX10_row_16 rfl ?_
    exact rx_iretR C dX10_row_17 hm
  refine rx_iload_n C 2 dX10_row_11 rfl ?_
  refine rx_iconst (v := 4) C dX10_row_12 rfl ?_
  refine rx_icmp_le (tgt := 18) C dX10_row_13 (by decide) hm (fun h_5 hm => ?_) (fun h_5 hm => ?_)
  · refine rx_aload_n C 0 dX10_row_18 rfl ?_
    refine gf_327 C m_v0 k_v0 dX10_row_19 hm (fun p_6 m_p_6 k_p_6 hm => ?_)
    refine rx_iload_n C 1 dX10_row_22 rfl ?_
    refine rx_ald15 C m_p_6 k_p_6 dX10_row_23 hm (fun p_7 m_p_7 k_p_7 hm => ?_)
    refine gf_35 C m_p_7 k_p_7 dX10_row_24 hm (fun p_8 m_p_8 k_p_8 hm => ?_)
    refine rx_astore_n (lv1 := [(3, .ref p_8), (0, .ref v0), (1, .int v1), (2, .int v2)]) C dX10_row_27 (by decide) rfl ?_
    refine rx_aload_n C 0 dX10_row_28 rfl ?_
    obtain ⟨r_9, hc_10, hm⟩ := rr_b0_some hm
    refine rr_callS (rest := []) (st1 := [.int r_9]) C hll (c_Num_degreeOf l G hG fu p_8 m_p_8 k_p_8 σ _ hc_10) q_526 q_487 q_12 q_488 hd_Num_degreeOf ⟨by decide, by decide⟩ rfl rfl (Nat.le_of_ble_eq_true rfl) rfl dX10_row_29 ?_
    refine rx_istore (lv1 := [(4, .int r_9), (3, .ref p_8), (0, .ref v0), (1, .int v1), (2, .int v2)]) C dX10_row_32 (by decide) rfl ?_
    refine rx_iload C 0 dX10_row_34 rfl ?_
    refine rx_if_ge (tgt := 42) C dX10_row_36 (by decide) hm (fun h_11 hm => ?_) (fun h_11 hm => ?_)
    · refine rx_iload_n C 4 dX10_row_42 rfl ?_
      refine rr_if hm (fun h_12 hm => ?_) (fun h_12 hm => ?_)
      · refine rx_tin (tgt := 72) C h_12 dX10_row_43 (by decide) (by decide) rfl (by decide) ?_
        refine rx_aload_n C 1 dX10_row_72 rfl ?_
        refine rx_iload C 0 dX10_row_73 rfl ?_
        obtain ⟨r_13, hc_14, hm⟩ := rr_b0_some hm
        refine rr_callS (rest := []) (st1 := [.int r_13]) C hll (c_Row_firstAgainstNewton l G hG fu p_8 m_p_8 k_p_8 r_9 σ _ hc_14) q_813 q_814 q_13 q_815 hd_Row_firstAgainstNewton ⟨by decide, by decide⟩ rfl rfl (Nat.le_of_ble_eq_true rfl) rfl dX10_row_75 ?_
        exact rx_iretR C dX10_row_78 hm
      refine rr_if hm (fun h_15 hm => ?_) (fun h_15 hm => ?_)
      · refine rx_tin (tgt := 79) C h_15 dX10_row_43 (by decide) (by decide) rfl (by decide) ?_
        refine rx_aload_n C 1 dX10_row_79 rfl ?_
        refine rx_iload C 0 dX10_row_80 rfl ?_
        obtain ⟨r_16, hc_17, hm⟩ := rr_b0_some hm
        refine rr_callS (rest := []) (st1 := [.int r_16]) C hll (c_Row_firstNotConcave l G hG fu p_8 m_p_8 k_p_8 r_9 σ _ hc_17) q_816 q_817 q_13 q_818 hd_Row_firstNotConcave ⟨by decide, by decide⟩ rfl rfl (Nat.le_of_ble_eq_true rfl) rfl dX10_row_82 ?_
        exact rx_iretR C dX10_row_85 hm
      refine rr_if hm (fun h_18 hm => ?_) (fun h_18 hm => ?_)
      · refine rx_tin (tgt := 86) C h_18 dX10_row_43 (by decide) (by decide) rfl (by decide) ?_
        refine rx_aload_n C 1 dX10_row_86 rfl ?_
        refine rx_iload C 0 dX10_row_87 rfl ?_
        obtain ⟨r_19, hc_20, hm⟩ := rr_b0_some hm
        refine rr_callS (rest := []) (st1 := [.int r_19]) C hll (c_Row_holes l G hG fu p_8 m_p_8 k_p_8 r_9 σ _ hc_20) q_819 q_820 q_13 q_821 hd_Row_holes ⟨by decide, by decide⟩ rfl rfl (Nat.le_of_ble_eq_true rfl) rfl dX10_row_89 ?_
        exact rx_iretR C dX10_row_92 hm
      refine rr_if hm (fun h_21 hm => ?_) (fun h_21 hm => ?_)
      · refine rx_tin (tgt := 93) C h_21 dX10_row_43 (by decide) (by decide) rfl (by decide) ?_
        refine rx_aload_n C 1 dX10_row_93 rfl ?_
        refine rx_iload C 0 dX10_row_94 rfl ?_
        obtain ⟨r_22, hc_23, hm⟩ := rr_b0_some hm
        refine rr_callS (rest := []) (st1 := [.int r_22]) C hll (c_Row_hasHump l G hG fu p_8 m_p_8 k_p_8 r_9 σ _ hc_23) q_822 q_823 q_13 q_824 hd_Row_hasHump ⟨by decide, by decide⟩ rfl rfl (Nat.le_of_ble_eq_true rfl) rfl dX10_row_96 ?_
        refine rx_if_eq (tgt := 106) C dX10_row_99 (by decide) hm (fun h_24 hm => ?_) (fun h_24 hm => ?_)
        · refine rx_iconst (v := 0) C dX10_row_106 rfl ?_
          exact rx_iretR C dX10_row_107 hm
        refine rx_iconst (v := 1) C dX10_row_102 rfl ?_
        refine rx_goto (tgt := 107) C dX10_row_103 (by decide) ?_
        exact rx_iretR C dX10_row_107 hm
      refine rx_tout (tgt := 108) C dX10_row_43 (by have q0 := lv_neT (a := 0) h_12 (by decide); have q1 := lv_neT (a := 1) h_15 (by decide); have q2 := lv_neT (a := 2) h_18 (by decide); have q3 := lv_neT (a := 3) h_21 (by decide); omega) (by decide) ?_
      refine rx_aload_n C 1 dX10_row_108 rfl ?_
      refine rx_iload C 0 dX10_row_109 rfl ?_
      obtain ⟨r_25, hc_26, hm⟩ := rr_b0_some hm
      refine rr_callS (rest := []) (st1 := [.int r_25]) C hll (c_Row_modes l G hG fu p_8 m_p_8 k_p_8 r_9 σ _ hc_26) q_825 q_826 q_13 q_827 hd_Row_modes ⟨by decide, by decide⟩ rfl rfl (Nat.le_of_ble_eq_true rfl) rfl dX10_row_111 ?_
      exact rx_iretR C dX10_row_114 hm
    refine rx_bipush (v := (-2)) C dX10_row_39 rfl ?_
    exact rx_iretR C dX10_row_41 hm
  refine rx_iconst (v := (-1)) C dX10_row_16 rfl ?_
  exact rx_iretR C dX10_row_17 hm
def f_Roo_sign (fu : Nat) (N : Nat → Nat) (v0 : Nat) (v1 : Int32) (v2 : Int32) (v3 : Int32) (σ : rr_M) : Option (Int32 × rr_M) :=
    Option.bind (f_Roo_isTray v1) fun r_1 =>
    if r_1 = 0 then (some ((-2), σ)) else
    Option.bind (f_Roo_isFineness v3) fun r_4 =>
    if r_4 = 0 then (some ((-2), σ)) else
    rr_lt (mg_r σ v0 6) fun p_7 =>
    rr_bd (f_Poi_move fu N p_7 v2.toInt64 v3 σ) fun _ σ_8 =>
    rr_lt (mg_r σ_8 v0 6) fun p_10 =>
    rr_lt (mg_r σ_8 v0 0) fun p_11 =>
    (if rr_ix v1 (N p_11) then rr_lt (mg_r σ_8 p_11 (rr_n v1)) fun p_12 =>
    rr_lt (mg_r σ_8 p_12 0) fun p_13 =>
    rr_bd (f_Poi_signOf fu N p_10 p_13 σ_8) fun r_14 σ_15 =>
    some (r_14, σ_15) else none)
theorem c_Roo_sign (l : Launch) (G : rr_G) (hG : G.2.2.1.Nodup) (fu : Nat) (v0 : Nat) (m_v0 : v0 ∈ G.2.2.1) (k_v0 : G.2.2.2.1 v0 = 8) (v1 : Int32) (v2 : Int32) (v3 : Int32) (σ : rr_M) (r : Int32) (σr : rr_M) (hm : f_Roo_sign fu G.2.2.2.2 v0 v1 v2 v3 σ = some (r, σr)) : rr_Met l G yX10_sign cX10_sign 4 (some .int) 5 138 [.ref v0, .int v1, .int v2, .int v3] σ σr (some (.int r)) := by
  refine rr_enter (lv0 := [(0, .ref v0), (1, .int v1), (2, .int v2), (3, .int v3)]) hp_Roo_sign hG (Nat.le_of_ble_eq_true rfl) rfl (fun X hll C => ?_)
  replace C : rr_C X G cX10_sign 4 "RootRows" (some .int) 5 138 := C
  unfold f_Roo_sign at hm
  refine rx_iload_n C 1 dX10_sign_0 rfl ?_
  obtain ⟨r_1, hc_2, hm⟩ := rr_b0_some hm
  refine rr_callS (rest := []) (st1 := [.int r_1]) C hll (c_Roo_isTray l G hG v1 σ _ hc_2) q_369 q_370 q_1 q_371 hd_Roo_isTray ⟨by decide, by decide⟩ rfl rfl (Nat.le_of_ble_eq_true rfl) rfl dX10_sign_1 ?_
  refine rx_if_eq (tgt := 14) C dX10_sign_4 (by decide) hm (fun h_3 hm => ?_) (fun h_3 hm => ?_)
  · refine rx_bipush (v := (-2)) C dX10_sign_14 rfl ?_
    exact rx_iret C dX10_sign_16 hm
  refine rx_iload_n C 3 dX10_sign_7 rfl ?_
  obtain ⟨r_4, hc_5, hm⟩ := rr_b0_some hm
  refine rr_callS (rest := []) (st1 := [.int r_4]) C hll (c_Roo_isFineness l G hG v3 σ _ hc_5) q_665 q_666 q_1 q_667 hd_Roo_isFineness ⟨by decide, by decide⟩ rfl rfl (Nat.le_of_ble_eq_true rfl) rfl dX10_sign_8 ?_
  refine rx_if_ne (tgt := 17) C dX10_sign_11 (by decide) hm (fun h_6 hm => ?_) (fun h_6 hm => ?_)
  · refine rx_aload_n C 0 dX10_sign_17 rfl ?_
    refine gf_333 C m_v0 k_v0 dX10_sign_18 hm (fun p_7 m_p_7 k_p_7 hm => ?_)
    refine rx_iload_n C 2 dX10_sign_21 rfl ?_
    refine rx_i2l C dX10_sign_22 ?_
    refine rx_iload_n C 3 dX10_sign_23 rfl ?_
    obtain ⟨_, σ_8, hc_9, hm⟩ := rr_bd_some hm
    refine rr_callV (rest := []) (st1 := []) C 4 hll (c_Poi_move l G hG fu p_7 m_p_7 k_p_7 v2.toInt64 v3 σ _ hc_9) q_779 q_694 q_695 q_8 q_696 hd_Poi_move ⟨_, rfl, rfl⟩ (by decide) m_p_7 k_p_7 ⟨by decide, by decide⟩ rfl rfl (Nat.le_of_ble_eq_true rfl) rfl dX10_sign_24 ?_
    refine rx_aload_n C 0 dX10_sign_27 rfl ?_
    refine gf_333 C m_v0 k_v0 dX10_sign_28 hm (fun p_10 m_p_10 k_p_10 hm => ?_)
    refine rx_aload_n C 0 dX10_sign_31 rfl ?_
    refine gf_327 C m_v0 k_v0 dX10_sign_32 hm (fun p_11 m_p_11 k_p_11 hm => ?_)
    refine rx_iload_n C 1 dX10_sign_35 rfl ?_
    refine rx_ald15 C m_p_11 k_p_11 dX10_sign_36 hm (fun p_12 m_p_12 k_p_12 hm => ?_)
    refine gf_35 C m_p_12 k_p_12 dX10_sign_37 hm (fun p_13 m_p_13 k_p_13 hm => ?_)
    obtain ⟨r_14, σ_15, hc_16, hm⟩ := rr_bd_some hm
    refine rr_callV (rest := []) (st1 := [.int r_14]) C 4 hll (c_Poi_signOf l G hG fu p_10 m_p_10 k_p_10 p_13 m_p_13 k_p_13 σ_8 _ _ hc_16) q_780 q_749 q_750 q_8 q_751 hd_Poi_signOf ⟨_, rfl, rfl⟩ (by decide) m_p_10 k_p_10 ⟨by decide, by decide⟩ rfl rfl (Nat.le_of_ble_eq_true rfl) rfl dX10_sign_40 ?_
    exact rx_iret C dX10_sign_43 hm
  refine rx_bipush (v := (-2)) C dX10_sign_14 rfl ?_
  exact rx_iret C dX10_sign_16 hm
def f_Roo_times (fu : Nat) (N : Nat → Nat) (v0 : Nat) (v1 : Int32) (v2 : Int32) (v3 : Int32) (σ : rr_M) : Option (Int32 × rr_M) :=
    Option.bind (f_Roo_isTray v1) fun r_1 =>
    if r_1 = 0 then (if rr_b1 0 then some (0, σ) else none) else
    Option.bind (f_Roo_isTray v2) fun r_4 =>
    if r_4 = 0 then (if rr_b1 0 then some (0, σ) else none) else
    Option.bind (f_Roo_isTray v3) fun r_7 =>
    if r_7 = 0 then (if rr_b1 0 then some (0, σ) else none) else
    rr_lt (mg_r σ v0 2) fun p_10 =>
    rr_lt (mg_r σ v0 0) fun p_11 =>
    (if rr_ix v2 (N p_11) then rr_lt (mg_r σ p_11 (rr_n v2)) fun p_12 =>
    rr_lt (mg_r σ p_12 0) fun p_13 =>
    rr_lt (mg_r σ v0 0) fun p_14 =>
    (if rr_ix v3 (N p_14) then rr_lt (mg_r σ p_14 (rr_n v3)) fun p_15 =>
    rr_lt (mg_r σ p_15 0) fun p_16 =>
    rr_bd (f_Mak_product fu N p_10 p_13 p_16 σ) fun r_17 σ_18 =>
    if r_17 = 0 then (if rr_b1 0 then some (0, σ_18) else none) else
    rr_lt (mg_r σ_18 v0 0) fun p_21 =>
    (if rr_ix v1 (N p_21) then rr_lt (mg_r σ_18 p_21 (rr_n v1)) fun p_22 =>
    rr_lt (mg_r σ_18 v0 2) fun p_23 =>
    rr_lt (mg_r σ_18 p_23 0) fun p_24 =>
    rr_bd (f_Tra_take fu N p_22 p_24 σ_18) fun _ σ_25 =>
    if rr_b1 1 then some (1, σ_25) else none else none) else none) else none)
theorem c_Roo_times (l : Launch) (G : rr_G) (hG : G.2.2.1.Nodup) (fu : Nat) (v0 : Nat) (m_v0 : v0 ∈ G.2.2.1) (k_v0 : G.2.2.2.1 v0 = 8) (v1 : Int32) (v2 : Int32) (v3 : Int32) (σ : rr_M) (r : Int32) (σr : rr_M) (hm : f_Roo_times fu G.2.2.2.2 v0 v1 v2 v3 σ = some (r, σr)) : rr_Met l G yX10_times cX10_times 4 (some .boolean) 2 48 [.ref v0, .int v1, .int v2, .int v3] σ σr (some (.int r)) := by
  refine rr_enter (lv0 := [(0, .ref v0), (1, .int v1), (2, .int v2), (3, .int v3)]) hp_Roo_times hG (Nat.le_of_ble_eq_true rfl) rfl (fun X hll C => ?_)
  replace C : rr_C X G cX10_times 4 "RootRows" (some .boolean) 2 48 := C
  unfold f_Roo_times at hm
  refine rx_iload_n C 1 dX10_times_0 rfl ?_
  obtain ⟨r_1, hc_2, hm⟩ := rr_b0_some hm
  refine rr_callS (rest := []) (st1 := [.int r_1]) C hll (c_Roo_isTray l G hG v1 σ _ hc_2) q_369 q_370 q_1 q_371 hd_Roo_isTray ⟨by decide, by decide⟩ rfl rfl (Nat.le_of_ble_eq_true rfl) rfl dX10_times_1 ?_
  refine rx_if_eq (tgt := 21) C dX10_times_4 (by decide) hm (fun h_3 hm => ?_) (fun h_3 hm => ?_)
  · refine rx_iconst (v := 0) C dX10_times_21 rfl ?_
    exact rx_zret C dX10_times_22 hm
  refine rx_iload_n C 2 dX10_times_7 rfl ?_
  obtain ⟨r_4, hc_5, hm⟩ := rr_b0_some hm
  refine rr_callS (rest := []) (st1 := [.int r_4]) C hll (c_Roo_isTray l G hG v2 σ _ hc_5) q_369 q_370 q_1 q_371 hd_Roo_isTray ⟨by decide, by decide⟩ rfl rfl (Nat.le_of_ble_eq_true rfl) rfl dX10_times_8 ?_
  refine rx_if_eq (tgt := 21) C dX10_times_11 (by decide) hm (fun h_6 hm => ?_) (fun h_6 hm => ?_)
  · refine rx_iconst (v := 0) C dX10_times_21 rfl ?_
    exact rx_zret C dX10_times_22 hm
  refine rx_iload_n C 3 dX10_times_14 rfl ?_
  obtain ⟨r_7, hc_8, hm⟩ := rr_b0_some hm
  refine rr_callS (rest := []) (st1 := [.int r_7]) C hll (c_Roo_isTray l G hG v3 σ _ hc_8) q_369 q_370 q_1 q_371 hd_Roo_isTray ⟨by decide, by decide⟩ rfl rfl (Nat.le_of_ble_eq_true rfl) rfl dX10_times_15 ?_
  refine rx_if_ne (tgt := 23) C dX10_times_18 (by decide) hm (fun h_9 hm => ?_) (fun h_9 hm => ?_)
  · refine rx_aload_n C 0 dX10_times_23 rfl ?_
    refine gf_329 C m_v0 k_v0 dX10_times_24 hm (fun p_10 m_p_10 k_p_10 hm => ?_)
    refine rx_aload_n C 0 dX10_times_27 rfl ?_
    refine gf_327 C m_v0 k_v0 dX10_times_28 hm (fun p_11 m_p_11 k_p_11 hm => ?_)
    refine rx_iload_n C 2 dX10_times_31 rfl ?_
    refine rx_ald15 C m_p_11 k_p_11 dX10_times_32 hm (fun p_12 m_p_12 k_p_12 hm => ?_)
    refine gf_35 C m_p_12 k_p_12 dX10_times_33 hm (fun p_13 m_p_13 k_p_13 hm => ?_)
    refine rx_aload_n C 0 dX10_times_36 rfl ?_
    refine gf_327 C m_v0 k_v0 dX10_times_37 hm (fun p_14 m_p_14 k_p_14 hm => ?_)
    refine rx_iload_n C 3 dX10_times_40 rfl ?_
    refine rx_ald15 C m_p_14 k_p_14 dX10_times_41 hm (fun p_15 m_p_15 k_p_15 hm => ?_)
    refine gf_35 C m_p_15 k_p_15 dX10_times_42 hm (fun p_16 m_p_16 k_p_16 hm => ?_)
    obtain ⟨r_17, σ_18, hc_19, hm⟩ := rr_bd_some hm
    refine rr_callV (rest := []) (st1 := [.int r_17]) C 2 hll (c_Mak_product l G hG fu p_10 m_p_10 k_p_10 p_13 m_p_13 k_p_13 p_16 m_p_16 k_p_16 σ _ _ hc_19) q_513 q_514 q_515 q_4 q_516 hd_Mak_product ⟨_, rfl, rfl⟩ (by decide) m_p_10 k_p_10 ⟨by decide, by decide⟩ rfl rfl (Nat.le_of_ble_eq_true rfl) rfl dX10_times_45 ?_
    refine rx_if_ne (tgt := 53) C dX10_times_48 (by decide) hm (fun h_20 hm => ?_) (fun h_20 hm => ?_)
    · refine rx_aload_n C 0 dX10_times_53 rfl ?_
      refine gf_327 C m_v0 k_v0 dX10_times_54 hm (fun p_21 m_p_21 k_p_21 hm => ?_)
      refine rx_iload_n C 1 dX10_times_57 rfl ?_
      refine rx_ald15 C m_p_21 k_p_21 dX10_times_58 hm (fun p_22 m_p_22 k_p_22 hm => ?_)
      refine rx_aload_n C 0 dX10_times_59 rfl ?_
      refine gf_329 C m_v0 k_v0 dX10_times_60 hm (fun p_23 m_p_23 k_p_23 hm => ?_)
      refine gf_138 C m_p_23 k_p_23 dX10_times_63 hm (fun p_24 m_p_24 k_p_24 hm => ?_)
      obtain ⟨_, σ_25, hc_26, hm⟩ := rr_bd_some hm
      refine rr_callV (rest := []) (st1 := []) C 7 hll (c_Tra_take l G hG fu p_22 m_p_22 k_p_22 p_24 m_p_24 k_p_24 σ_18 _ hc_26) q_427 q_428 q_429 q_2 q_430 hd_Tra_take ⟨_, rfl, rfl⟩ (by decide) m_p_22 k_p_22 ⟨by decide, by decide⟩ rfl rfl (Nat.le_of_ble_eq_true rfl) rfl dX10_times_66 ?_
      refine rx_iconst (v := 1) C dX10_times_69 rfl ?_
      exact rx_zret C dX10_times_70 hm
    refine rx_iconst (v := 0) C dX10_times_51 rfl ?_
    exact rx_zret C dX10_times_52 hm
  refine rx_iconst (v := 0) C dX10_times_21 rfl ?_
  exact rx_zret C dX10_times_22 hm
