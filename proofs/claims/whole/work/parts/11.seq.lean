def l_Seq_changesBelow_4 (fu : Nat) (N : Nat → Nat) (v0 : Nat) (σ : rr_M) : Nat → Int32 → Int32 → (Int32 → Option (Int32)) → Option (Int32)
  | 0, _, _, _ => none
  | n + 1, v1, v2, kk =>
    if (mg_i σ v0 3) ≤ v2 then (kk v1) else
    if 10 ≤ v2 then (kk v1) else
    rr_lt (mg_r σ v0 1) fun p_3 =>
    (if rr_ix v2 (N p_3) then
    rr_lt (mg_r σ v0 1) fun p_4 =>
    (if rr_ix (v2 - 1) (N p_4) then
    rr_jn (fun (t_5 : Int32) =>
    rr_lt (mg_r σ v0 2) fun p_6 =>
    (if rr_ix v2 (N p_6) then
    rr_lt (mg_r σ v0 2) fun p_7 =>
    (if rr_ix (v2 - 1) (N p_7) then
    rr_jn (fun (t_8 : Int32) =>
    rr_jn (fun (v1_9 : Int32) =>
    rr_lt (v2 + 1) fun v2_10 =>
    l_Seq_changesBelow_4 fu N v0 σ n v1_9 v2_10 kk) fun j77 =>
    if t_5 = t_8 then (j77 v1) else
    rr_lt (v1 + 1) fun v1_12 =>
    j77 v1_12) fun j66 =>
    if (mg_i σ p_6 (rr_n v2)) = (mg_i σ p_7 (rr_n (v2 - 1))) then (j66 0) else
    j66 1 else none) else none)) fun j43 =>
    if (((mg_i σ p_3 (rr_n v2)) ^^^ (mg_i σ p_4 (rr_n (v2 - 1)))) &&& 1) = 0 then (j43 0) else
    j43 1 else none) else none)
theorem lw_Seq_changesBelow_4 {X : rr_X} {G : rr_G} {l : Launch} {fu : Nat} (hG : G.2.2.1.Nodup) (hll : X.2.1 = l) (C : rr_C X G cX7_changesBelow 5 "RootRows$Sequence" (some .int) 0 0) {r : Int32}  (σ : rr_M) (v0 : Nat) (m_v0 : v0 ∈ G.2.2.1) (k_v0 : G.2.2.2.1 v0 = 5) : ∀ (n : Nat) (v1 : Int32) (v2 : Int32) (K : Int32 → Option (Int32)), l_Seq_changesBelow_4 fu G.2.2.2.2 v0 σ n v1 v2 K = some r → (∀ (w1 : Int32), K w1 = some r → rr_J X G 5 (rr_E X G σ (some (.int r))) σ 83 [(1, .int w1)] []) → rr_J X G 5 (rr_E X G σ (some (.int r))) σ 4 [(0, .ref v0), (1, .int v1), (2, .int v2)] [] := by
  intro n
  induction n with
  | zero =>
    intro v1 v2 K hm
    cases hm
  | succ n ih =>
    intro v1 v2 K hm hk
    unfold l_Seq_changesBelow_4 at hm
    refine rx_iload_n C 2 dX7_changesBelow_4 rfl ?_
    refine rx_aload_n C 0 dX7_changesBelow_5 rfl ?_
    refine gf_174 C m_v0 k_v0 dX7_changesBelow_6 ?_
    refine rx_icmp_ge (tgt := 83) C dX7_changesBelow_9 (by decide) hm (fun h_1 hm => ?_) (fun h_1 hm => ?_)
    · refine rx_lv [1] rfl ?_
      exact hk _ hm
    refine rx_iload_n C 2 dX7_changesBelow_12 rfl ?_
    refine rx_bipush (v := 10) C dX7_changesBelow_13 rfl ?_
    refine rx_icmp_ge (tgt := 83) C dX7_changesBelow_15 (by decide) hm (fun h_2 hm => ?_) (fun h_2 hm => ?_)
    · refine rx_lv [1] rfl ?_
      exact hk _ hm
    refine rx_aload_n C 0 dX7_changesBelow_18 rfl ?_
    refine gf_167 C m_v0 k_v0 dX7_changesBelow_19 hm (fun p_3 m_p_3 k_p_3 hm => ?_)
    refine rx_iload_n C 2 dX7_changesBelow_22 rfl ?_
    refine rx_iald C m_p_3 k_p_3 dX7_changesBelow_23 hm (fun hm => ?_)
    refine rx_aload_n C 0 dX7_changesBelow_24 rfl ?_
    refine gf_167 C m_v0 k_v0 dX7_changesBelow_25 hm (fun p_4 m_p_4 k_p_4 hm => ?_)
    refine rx_iload_n C 2 dX7_changesBelow_28 rfl ?_
    refine rx_iconst (v := 1) C dX7_changesBelow_29 rfl ?_
    refine rx_isub C dX7_changesBelow_30 ?_
    refine rx_iald C m_p_4 k_p_4 dX7_changesBelow_31 hm (fun hm => ?_)
    refine rx_ixor C dX7_changesBelow_32 ?_
    refine rx_iconst (v := 1) C dX7_changesBelow_33 rfl ?_
    refine rx_iand C dX7_changesBelow_34 ?_
    refine rr_jn1 hm (fun j43 ej43 hm => ?_)
    have hj43 : ∀ (t_5 : Int32), j43 t_5 = some r → rr_J X G 5 (rr_E X G σ (some (.int r))) σ 43 [(0, .ref v0), (1, .int v1), (2, .int v2)] [.int t_5] := by
      intro t_5 hm
      replace hm := ej43 _ hm
      refine rx_istore_n (lv1 := [(3, .int t_5), (0, .ref v0), (1, .int v1), (2, .int v2)]) C dX7_changesBelow_43 (by decide) rfl ?_
      refine rx_aload_n C 1 dX7_changesBelow_44 rfl ?_
      refine gf_170 C m_v0 k_v0 dX7_changesBelow_45 hm (fun p_6 m_p_6 k_p_6 hm => ?_)
      refine rx_iload_n C 3 dX7_changesBelow_48 rfl ?_
      refine rx_iald C m_p_6 k_p_6 dX7_changesBelow_49 hm (fun hm => ?_)
      refine rx_aload_n C 1 dX7_changesBelow_50 rfl ?_
      refine gf_170 C m_v0 k_v0 dX7_changesBelow_51 hm (fun p_7 m_p_7 k_p_7 hm => ?_)
      refine rx_iload_n C 3 dX7_changesBelow_54 rfl ?_
      refine rx_iconst (v := 1) C dX7_changesBelow_55 rfl ?_
      refine rx_isub C dX7_changesBelow_56 ?_
      refine rx_iald C m_p_7 k_p_7 dX7_changesBelow_57 hm (fun hm => ?_)
      refine rr_jn1 hm (fun j66 ej66 hm => ?_)
      have hj66 : ∀ (t_8 : Int32), j66 t_8 = some r → rr_J X G 5 (rr_E X G σ (some (.int r))) σ 66 [(0, .ref v0), (1, .int v1), (2, .int v2), (3, .int t_5)] [.int t_8] := by
        intro t_8 hm
        replace hm := ej66 _ hm
        refine rx_istore (lv1 := [(4, .int t_8), (0, .ref v0), (1, .int v1), (2, .int v2), (3, .int t_5)]) C dX7_changesBelow_66 (by decide) rfl ?_
        refine rx_iload_n C 4 dX7_changesBelow_68 rfl ?_
        refine rx_iload C 0 dX7_changesBelow_69 rfl ?_
        refine rr_jn1 hm (fun j77 ej77 hm => ?_)
        have hj77 : ∀ (v1_9 : Int32), j77 v1_9 = some r → rr_J X G 5 (rr_E X G σ (some (.int r))) σ 77 [(0, .ref v0), (1, .int v1_9), (2, .int v2)] [] := by
          intro v1_9 hm
          replace hm := ej77 _ hm
          refine rx_iinc (d := 1) (lv1 := fun v => [(2, .int v), (0, .ref v0), (1, .int v1_9)]) C 2 dX7_changesBelow_77 hm rfl rfl (by decide) (fun _ => rfl) (fun v2_10 hm => ?_)
          refine rx_goto (tgt := 4) C dX7_changesBelow_80 (by decide) ?_
          refine rx_lv [1, 2, 0] rfl ?_
          exact ih _ _ _ hm hk
        refine rx_icmp_eq (tgt := 77) C dX7_changesBelow_71 (by decide) hm (fun h_11 hm => ?_) (fun h_11 hm => ?_)
        · refine rx_lv [1, 2, 3] rfl ?_
          exact hj77 _ hm
        refine rx_iinc (d := 1) (lv1 := fun v => [(1, .int v), (4, .int t_8), (0, .ref v0), (2, .int v2), (3, .int t_5)]) C 2 dX7_changesBelow_74 hm rfl rfl (by decide) (fun _ => rfl) (fun v1_12 hm => ?_)
        refine rx_lv [2, 0, 3] rfl ?_
        exact hj77 _ hm
      refine rx_icmp_eq (tgt := 65) C dX7_changesBelow_58 (by decide) hm (fun h_13 hm => ?_) (fun h_13 hm => ?_)
      · refine rx_iconst (v := 0) C dX7_changesBelow_65 rfl ?_
        refine rx_lv [1, 2, 3, 0] rfl ?_
        exact hj66 _ hm
      refine rx_iconst (v := 1) C dX7_changesBelow_61 rfl ?_
      refine rx_goto (tgt := 66) C dX7_changesBelow_62 (by decide) ?_
      refine rx_lv [1, 2, 3, 0] rfl ?_
      exact hj66 _ hm
    refine rx_if_eq (tgt := 42) C dX7_changesBelow_35 (by decide) hm (fun h_14 hm => ?_) (fun h_14 hm => ?_)
    · refine rx_iconst (v := 0) C dX7_changesBelow_42 rfl ?_
      refine rx_lv [0, 1, 2] rfl ?_
      exact hj43 _ hm
    refine rx_iconst (v := 1) C dX7_changesBelow_38 rfl ?_
    refine rx_goto (tgt := 43) C dX7_changesBelow_39 (by decide) ?_
    refine rx_lv [0, 1, 2] rfl ?_
    exact hj43 _ hm
def f_Seq_changesBelow (fu : Nat) (N : Nat → Nat) (v0 : Nat) (σ : rr_M) : Option (Int32) :=
    l_Seq_changesBelow_4 fu N v0 σ fu 0 1 (fun v1_15 =>
    some (v1_15))
theorem c_Seq_changesBelow (l : Launch) (G : rr_G) (hG : G.2.2.1.Nodup) (fu : Nat) (v0 : Nat) (m_v0 : v0 ∈ G.2.2.1) (k_v0 : G.2.2.2.1 v0 = 5) (σ : rr_M) (r : Int32) (hm : f_Seq_changesBelow fu G.2.2.2.2 v0 σ = some r) : rr_Met l G yX7_changesBelow cX7_changesBelow 5 (some .int) 0 0 [.ref v0] σ σ (some (.int r)) := by
  refine rr_enter (lv0 := [(0, .ref v0)]) hp_Seq_changesBelow hG (Nat.le_of_ble_eq_true rfl) rfl (fun X hll C => ?_)
  replace C : rr_C X G cX7_changesBelow 5 "RootRows$Sequence" (some .int) 0 0 := C
  unfold f_Seq_changesBelow at hm
  refine rx_iconst (v := 0) C dX7_changesBelow_0 rfl ?_
  refine rx_istore_n (lv1 := [(1, .int 0), (0, .ref v0)]) C dX7_changesBelow_1 (by decide) rfl ?_
  refine rx_iconst (v := 1) C dX7_changesBelow_2 rfl ?_
  refine rx_istore_n (lv1 := [(2, .int 1), (1, .int 0), (0, .ref v0)]) C dX7_changesBelow_3 (by decide) rfl ?_
  refine rx_lv [2, 1, 0] rfl ?_
  refine lw_Seq_changesBelow_4 hG hll C σ v0 m_v0 k_v0 _ _ _ _ hm (fun v1_15 hm => ?_)
  refine rx_iload_n C 0 dX7_changesBelow_83 rfl ?_
  exact rx_iretR C dX7_changesBelow_84 hm
def l_Seq_jumps_4 (fu : Nat) (N : Nat → Nat) (v0 : Nat) (σ : rr_M) : Nat → Int32 → Int32 → (Int32 → Option (Int32)) → Option (Int32)
  | 0, _, _, _ => none
  | n + 1, v1, v2, kk =>
    if (mg_i σ v0 3) ≤ v2 then (kk v1) else
    if 10 ≤ v2 then (kk v1) else
    rr_lt (mg_r σ v0 2) fun p_3 =>
    (if rr_ix v2 (N p_3) then
    rr_lt (mg_r σ v0 2) fun p_4 =>
    (if rr_ix (v2 - 1) (N p_4) then
    rr_jn (fun (v1_5 : Int32) =>
    rr_lt (v2 + 1) fun v2_6 =>
    l_Seq_jumps_4 fu N v0 σ n v1_5 v2_6 kk) fun j38 =>
    if (mg_i σ p_3 (rr_n v2)) = (mg_i σ p_4 (rr_n (v2 - 1))) then (j38 v1) else
    rr_lt (v1 + 1) fun v1_8 =>
    j38 v1_8 else none) else none)
theorem lw_Seq_jumps_4 {X : rr_X} {G : rr_G} {l : Launch} {fu : Nat} (hG : G.2.2.1.Nodup) (hll : X.2.1 = l) (C : rr_C X G cX7_jumps 3 "RootRows$Sequence" (some .int) 1 24) {r : Int32}  (σ : rr_M) (v0 : Nat) (m_v0 : v0 ∈ G.2.2.1) (k_v0 : G.2.2.2.1 v0 = 5) : ∀ (n : Nat) (v1 : Int32) (v2 : Int32) (K : Int32 → Option (Int32)), l_Seq_jumps_4 fu G.2.2.2.2 v0 σ n v1 v2 K = some r → (∀ (w1 : Int32), K w1 = some r → rr_J X G 3 (rr_E X G σ (some (.int r))) σ 44 [(0, .ref v0), (1, .int w1)] []) → rr_J X G 3 (rr_E X G σ (some (.int r))) σ 4 [(0, .ref v0), (1, .int v1), (2, .int v2)] [] := by
  intro n
  induction n with
  | zero =>
    intro v1 v2 K hm
    cases hm
  | succ n ih =>
    intro v1 v2 K hm hk
    unfold l_Seq_jumps_4 at hm
    refine rx_iload_n C 2 dX7_jumps_4 rfl ?_
    refine rx_aload_n C 0 dX7_jumps_5 rfl ?_
    refine gf_174 C m_v0 k_v0 dX7_jumps_6 ?_
    refine rx_icmp_ge (tgt := 44) C dX7_jumps_9 (by decide) hm (fun h_1 hm => ?_) (fun h_1 hm => ?_)
    · refine rx_lv [0, 1] rfl ?_
      exact hk _ hm
    refine rx_iload_n C 2 dX7_jumps_12 rfl ?_
    refine rx_bipush (v := 10) C dX7_jumps_13 rfl ?_
    refine rx_icmp_ge (tgt := 44) C dX7_jumps_15 (by decide) hm (fun h_2 hm => ?_) (fun h_2 hm => ?_)
    · refine rx_lv [0, 1] rfl ?_
      exact hk _ hm
    refine rx_aload_n C 0 dX7_jumps_18 rfl ?_
    refine gf_170 C m_v0 k_v0 dX7_jumps_19 hm (fun p_3 m_p_3 k_p_3 hm => ?_)
    refine rx_iload_n C 2 dX7_jumps_22 rfl ?_
    refine rx_iald C m_p_3 k_p_3 dX7_jumps_23 hm (fun hm => ?_)
    refine rx_aload_n C 0 dX7_jumps_24 rfl ?_
    refine gf_170 C m_v0 k_v0 dX7_jumps_25 hm (fun p_4 m_p_4 k_p_4 hm => ?_)
    refine rx_iload_n C 2 dX7_jumps_28 rfl ?_
    refine rx_iconst (v := 1) C dX7_jumps_29 rfl ?_
    refine rx_isub C dX7_jumps_30 ?_
    refine rx_iald C m_p_4 k_p_4 dX7_jumps_31 hm (fun hm => ?_)
    refine rr_jn1 hm (fun j38 ej38 hm => ?_)
    have hj38 : ∀ (v1_5 : Int32), j38 v1_5 = some r → rr_J X G 3 (rr_E X G σ (some (.int r))) σ 38 [(0, .ref v0), (1, .int v1_5), (2, .int v2)] [] := by
      intro v1_5 hm
      replace hm := ej38 _ hm
      refine rx_iinc (d := 1) (lv1 := fun v => [(2, .int v), (0, .ref v0), (1, .int v1_5)]) C 2 dX7_jumps_38 hm rfl rfl (by decide) (fun _ => rfl) (fun v2_6 hm => ?_)
      refine rx_goto (tgt := 4) C dX7_jumps_41 (by decide) ?_
      refine rx_lv [1, 2, 0] rfl ?_
      exact ih _ _ _ hm hk
    refine rx_icmp_eq (tgt := 38) C dX7_jumps_32 (by decide) hm (fun h_7 hm => ?_) (fun h_7 hm => ?_)
    · refine rx_lv [0, 1, 2] rfl ?_
      exact hj38 _ hm
    refine rx_iinc (d := 1) (lv1 := fun v => [(1, .int v), (0, .ref v0), (2, .int v2)]) C 1 dX7_jumps_35 hm rfl rfl (by decide) (fun _ => rfl) (fun v1_8 hm => ?_)
    refine rx_lv [1, 0, 2] rfl ?_
    exact hj38 _ hm
def f_Seq_jumps (fu : Nat) (N : Nat → Nat) (v0 : Nat) (σ : rr_M) : Option (Int32) :=
    l_Seq_jumps_4 fu N v0 σ fu 0 1 (fun v1_9 =>
    Option.bind (f_Seq_changesBelow fu N v0 σ) fun r_10 =>
    some (r_10 - v1_9))
theorem c_Seq_jumps (l : Launch) (G : rr_G) (hG : G.2.2.1.Nodup) (fu : Nat) (v0 : Nat) (m_v0 : v0 ∈ G.2.2.1) (k_v0 : G.2.2.2.1 v0 = 5) (σ : rr_M) (r : Int32) (hm : f_Seq_jumps fu G.2.2.2.2 v0 σ = some r) : rr_Met l G yX7_jumps cX7_jumps 3 (some .int) 1 24 [.ref v0] σ σ (some (.int r)) := by
  refine rr_enter (lv0 := [(0, .ref v0)]) hp_Seq_jumps hG (Nat.le_of_ble_eq_true rfl) rfl (fun X hll C => ?_)
  replace C : rr_C X G cX7_jumps 3 "RootRows$Sequence" (some .int) 1 24 := C
  unfold f_Seq_jumps at hm
  refine rx_iconst (v := 0) C dX7_jumps_0 rfl ?_
  refine rx_istore_n (lv1 := [(1, .int 0), (0, .ref v0)]) C dX7_jumps_1 (by decide) rfl ?_
  refine rx_iconst (v := 1) C dX7_jumps_2 rfl ?_
  refine rx_istore_n (lv1 := [(2, .int 1), (1, .int 0), (0, .ref v0)]) C dX7_jumps_3 (by decide) rfl ?_
  refine rx_lv [2, 1, 0] rfl ?_
  refine lw_Seq_jumps_4 hG hll C σ v0 m_v0 k_v0 _ _ _ _ hm (fun v1_9 hm => ?_)
  refine rx_aload_n C 0 dX7_jumps_44 rfl ?_
  obtain ⟨r_10, hc_11, hm⟩ := rr_b0_some hm
  refine rr_callV (rest := []) (st1 := [.int r_10]) C 5 hll (c_Seq_changesBelow l G hG fu v0 m_v0 k_v0 σ _ hc_11) q_636 q_637 q_638 q_5 q_639 hd_Seq_changesBelow ⟨_, rfl, rfl⟩ (by decide) m_v0 k_v0 ⟨by decide, by decide⟩ rfl rfl (Nat.le_of_ble_eq_true rfl) rfl dX7_jumps_45 ?_
  refine rx_iload_n C 1 dX7_jumps_48 rfl ?_
  refine rx_isub C dX7_jumps_49 ?_
  exact rx_iretR C dX7_jumps_50 hm
def f_Seq_lastDegree (N : Nat → Nat) (v0 : Nat) (σ : rr_M) : Option (Int32) :=
    if (mg_i σ v0 3) ≤ 0 then (some ((-1))) else
    if 10 < (mg_i σ v0 3) then (some ((-1))) else
    rr_lt (mg_r σ v0 1) fun p_3 =>
    (if rr_ix ((mg_i σ v0 3) - 1) (N p_3) then
    some (mg_i σ p_3 (rr_n ((mg_i σ v0 3) - 1))) else none)
theorem c_Seq_lastDegree (l : Launch) (G : rr_G) (hG : G.2.2.1.Nodup) (v0 : Nat) (m_v0 : v0 ∈ G.2.2.1) (k_v0 : G.2.2.2.1 v0 = 5) (σ : rr_M) (r : Int32) (hm : f_Seq_lastDegree G.2.2.2.2 v0 σ = some r) : rr_Met l G yX7_lastDegree cX7_lastDegree 1 (some .int) 0 0 [.ref v0] σ σ (some (.int r)) := by
  refine rr_enter (lv0 := [(0, .ref v0)]) hp_Seq_lastDegree hG (Nat.le_of_ble_eq_true rfl) rfl (fun X hll C => ?_)
  replace C : rr_C X G cX7_lastDegree 1 "RootRows$Sequence" (some .int) 0 0 := C
  unfold f_Seq_lastDegree at hm
  refine rx_aload_n C 0 dX7_lastDegree_0 rfl ?_
  refine gf_174 C m_v0 k_v0 dX7_lastDegree_1 ?_
  refine rx_if_le (tgt := 30) C dX7_lastDegree_4 (by decide) hm (fun h_1 hm => ?_) (fun h_1 hm => ?_)
  · refine rx_iconst (v := (-1)) C dX7_lastDegree_30 rfl ?_
    exact rx_iretR C dX7_lastDegree_31 hm
  refine rx_aload_n C 0 dX7_lastDegree_7 rfl ?_
  refine gf_174 C m_v0 k_v0 dX7_lastDegree_8 ?_
  refine rx_bipush (v := 10) C dX7_lastDegree_11 rfl ?_
  refine rx_icmp_gt (tgt := 30) C dX7_lastDegree_13 (by decide) hm (fun h_2 hm => ?_) (fun h_2 hm => ?_)
  · refine rx_iconst (v := (-1)) C dX7_lastDegree_30 rfl ?_
    exact rx_iretR C dX7_lastDegree_31 hm
  refine rx_aload_n C 0 dX7_lastDegree_16 rfl ?_
  refine gf_167 C m_v0 k_v0 dX7_lastDegree_17 hm (fun p_3 m_p_3 k_p_3 hm => ?_)
  refine rx_aload_n C 0 dX7_lastDegree_20 rfl ?_
  refine gf_174 C m_v0 k_v0 dX7_lastDegree_21 ?_
  refine rx_iconst (v := 1) C dX7_lastDegree_24 rfl ?_
  refine rx_isub C dX7_lastDegree_25 ?_
  refine rx_iald C m_p_3 k_p_3 dX7_lastDegree_26 hm (fun hm => ?_)
  refine rx_goto (tgt := 31) C dX7_lastDegree_27 (by decide) ?_
  exact rx_iretR C dX7_lastDegree_31 hm
def l_Seq_formRest_37 (fu : Nat) (N : Nat → Nat) (v0 : Nat) (v2 : Int32) (v4 : Int32) : Nat → Int32 → rr_M → (rr_M → Option (Unit × rr_M)) → Option (Unit × rr_M)
  | 0, _, _, _ => none
  | n + 1, v6, σ, kk =>
    if v4 < v6 then (kk σ) else
    rr_lt (mg_r σ v0 4) fun p_8 =>
    (if rr_ix v6 (N p_8) then rr_lt (mg_r σ p_8 (rr_n v6)) fun p_9 =>
    rr_lt (mg_r σ v0 0) fun p_10 =>
    (if rr_ix (v2 + v6) (N p_10) then rr_lt (mg_r σ p_10 (rr_n (v2 + v6))) fun p_11 =>
    rr_bd (f_Big_copy N p_9 p_11 σ) fun _ σ_12 =>
    rr_lt (v6 + 1) fun v6_14 =>
    l_Seq_formRest_37 fu N v0 v2 v4 n v6_14 σ_12 kk else none) else none)
theorem lw_Seq_formRest_37 {X : rr_X} {G : rr_G} {l : Launch} {fu : Nat} (hG : G.2.2.1.Nodup) (hll : X.2.1 = l) (C : rr_C X G cX7_formRest 9 "RootRows$Sequence" none 2 89) {σr : rr_M} (v0 : Nat) (m_v0 : v0 ∈ G.2.2.1) (k_v0 : G.2.2.2.1 v0 = 5) (v1 : Int32) (v2 : Int32) (v3 : Int32) (v4 : Int32) (v5 : Int32) : ∀ (n : Nat) (v6 : Int32) (σ : rr_M) (K : rr_M → Option (Unit × rr_M)), l_Seq_formRest_37 fu G.2.2.2.2 v0 v2 v4 n v6 σ K = some ((), σr) → (∀ (σ1 : rr_M), K σ1 = some ((), σr) → rr_J X G 9 (rr_E X G σr none) σ1 69 [(0, .ref v0), (1, .int v1), (3, .int v3), (4, .int v4), (5, .int v5)] []) → rr_J X G 9 (rr_E X G σr none) σ 37 [(0, .ref v0), (1, .int v1), (2, .int v2), (3, .int v3), (4, .int v4), (5, .int v5), (6, .int v6)] [] := by
  intro n
  induction n with
  | zero =>
    intro v6 σ K hm
    cases hm
  | succ n ih =>
    intro v6 σ K hm hk
    unfold l_Seq_formRest_37 at hm
    refine rx_iload C 6 dX7_formRest_37 rfl ?_
    refine rx_iload C 4 dX7_formRest_39 rfl ?_
    refine rx_icmp_gt (tgt := 69) C dX7_formRest_41 (by decide) hm (fun h_7 hm => ?_) (fun h_7 hm => ?_)
    · refine rx_lv [0, 1, 3, 4, 5] rfl ?_
      exact hk _ hm
    refine rx_aload_n C 0 dX7_formRest_44 rfl ?_
    refine gf_177 C m_v0 k_v0 dX7_formRest_45 hm (fun p_8 m_p_8 k_p_8 hm => ?_)
    refine rx_iload C 6 dX7_formRest_48 rfl ?_
    refine rx_ald14 C m_p_8 k_p_8 dX7_formRest_50 hm (fun p_9 m_p_9 k_p_9 hm => ?_)
    refine rx_aload_n C 0 dX7_formRest_51 rfl ?_
    refine gf_165 C m_v0 k_v0 dX7_formRest_52 hm (fun p_10 m_p_10 k_p_10 hm => ?_)
    refine rx_iload_n C 2 dX7_formRest_55 rfl ?_
    refine rx_iload C 6 dX7_formRest_56 rfl ?_
    refine rx_iadd C dX7_formRest_58 ?_
    refine rx_ald14 C m_p_10 k_p_10 dX7_formRest_59 hm (fun p_11 m_p_11 k_p_11 hm => ?_)
    obtain ⟨_, σ_12, hc_13, hm⟩ := rr_bd_some hm
    refine rr_callV (rest := []) (st1 := []) C 0 hll (c_Big_copy l G hG p_9 m_p_9 k_p_9 p_11 m_p_11 k_p_11 σ _ hc_13) q_562 q_563 q_564 q_6 q_565 hd_Big_copy ⟨_, rfl, rfl⟩ (by decide) m_p_9 k_p_9 ⟨by decide, by decide⟩ rfl rfl (Nat.le_of_ble_eq_true rfl) rfl dX7_formRest_60 ?_
    refine rx_iinc (d := 1) (lv1 := fun v => [(6, .int v), (0, .ref v0), (1, .int v1), (2, .int v2), (3, .int v3), (4, .int v4), (5, .int v5)]) C 6 dX7_formRest_63 hm rfl rfl (by decide) (fun _ => rfl) (fun v6_14 hm => ?_)
    refine rx_goto (tgt := 37) C dX7_formRest_66 (by decide) ?_
    refine rx_lv [1, 2, 3, 4, 5, 6, 0] rfl ?_
    exact ih _ _ _ hm hk
def l_Seq_formRest_135 (fu : Nat) (N : Nat → Nat) (v0 : Nat) (v3 : Int32) (v5 : Int32) (v6 : Int32) (v7 : Int32) : Nat → Int32 → rr_M → (rr_M → Option (Unit × rr_M)) → Option (Unit × rr_M)
  | 0, _, _, _ => none
  | n + 1, v8, σ, kk =>
    if v7 ≤ v8 then (kk σ) else
    rr_lt (mg_r σ v0 5) fun p_31 =>
    rr_lt (mg_r σ v0 4) fun p_32 =>
    (if rr_ix v8 (N p_32) then rr_lt (mg_r σ p_32 (rr_n v8)) fun p_33 =>
    rr_lt (mg_r σ v0 9) fun p_34 =>
    rr_bd (f_Big_setProduct fu N p_31 p_33 p_34 σ) fun _ σ_35 =>
    rr_jn (fun (σ_37 : rr_M) =>
    rr_lt (mg_r σ_37 v0 4) fun p_38 =>
    (if rr_ix v8 (N p_38) then rr_lt (mg_r σ_37 p_38 (rr_n v8)) fun p_39 =>
    rr_lt (mg_r σ_37 v0 5) fun p_40 =>
    rr_bd (f_Big_copy N p_39 p_40 σ_37) fun _ σ_41 =>
    rr_lt (v8 + 1) fun v8_43 =>
    l_Seq_formRest_135 fu N v0 v3 v5 v6 v7 n v8_43 σ_41 kk else none)) fun j212 =>
    if v8 < (v7 - v5) then (j212 σ_35) else
    rr_lt (mg_r σ_35 v0 6) fun p_45 =>
    rr_lt (mg_r σ_35 v0 7) fun p_46 =>
    rr_lt (mg_r σ_35 v0 0) fun p_47 =>
    (if rr_ix ((v3 + v8) - (v7 - v5)) (N p_47) then rr_lt (mg_r σ_35 p_47 (rr_n ((v3 + v8) - (v7 - v5)))) fun p_48 =>
    rr_bd (f_Big_setProduct fu N p_45 p_46 p_48 σ_35) fun _ σ_49 =>
    rr_lt (mg_r σ_49 v0 5) fun p_51 =>
    rr_lt (mg_r σ_49 v0 6) fun p_52 =>
    rr_bd (f_Big_addTimes fu N p_51 p_52 ((-v6).toInt64) 0 σ_49) fun _ σ_53 =>
    j212 σ_53 else none) else none)
theorem lw_Seq_formRest_135 {X : rr_X} {G : rr_G} {l : Launch} {fu : Nat} (hG : G.2.2.1.Nodup) (hll : X.2.1 = l) (C : rr_C X G cX7_formRest 9 "RootRows$Sequence" none 2 89) {σr : rr_M} (v0 : Nat) (m_v0 : v0 ∈ G.2.2.1) (k_v0 : G.2.2.2.1 v0 = 5) (v3 : Int32) (v5 : Int32) (v6 : Int32) (v7 : Int32) : ∀ (n : Nat) (v8 : Int32) (σ : rr_M) (K : rr_M → Option (Unit × rr_M)), l_Seq_formRest_135 fu G.2.2.2.2 v0 v3 v5 v6 v7 n v8 σ K = some ((), σr) → (∀ (σ1 : rr_M), K σ1 = some ((), σr) → rr_J X G 9 (rr_E X G σr none) σ1 232 [(0, .ref v0), (3, .int v3), (5, .int v5), (6, .int v6), (7, .int v7)] []) → rr_J X G 9 (rr_E X G σr none) σ 135 [(0, .ref v0), (3, .int v3), (5, .int v5), (6, .int v6), (7, .int v7), (8, .int v8)] [] := by
  intro n
  induction n with
  | zero =>
    intro v8 σ K hm
    cases hm
  | succ n ih =>
    intro v8 σ K hm hk
    unfold l_Seq_formRest_135 at hm
    refine rx_iload C 5 dX7_formRest_135 rfl ?_
    refine rx_iload C 4 dX7_formRest_137 rfl ?_
    refine rx_icmp_ge (tgt := 232) C dX7_formRest_139 (by decide) hm (fun h_30 hm => ?_) (fun h_30 hm => ?_)
    · refine rx_lv [0, 1, 2, 3, 4] rfl ?_
      exact hk _ hm
    refine rx_aload_n C 0 dX7_formRest_142 rfl ?_
    refine gf_178 C m_v0 k_v0 dX7_formRest_143 hm (fun p_31 m_p_31 k_p_31 hm => ?_)
    refine rx_aload_n C 0 dX7_formRest_146 rfl ?_
    refine gf_177 C m_v0 k_v0 dX7_formRest_147 hm (fun p_32 m_p_32 k_p_32 hm => ?_)
    refine rx_iload C 5 dX7_formRest_150 rfl ?_
    refine rx_ald14 C m_p_32 k_p_32 dX7_formRest_152 hm (fun p_33 m_p_33 k_p_33 hm => ?_)
    refine rx_aload_n C 0 dX7_formRest_153 rfl ?_
    refine gf_182 C m_v0 k_v0 dX7_formRest_154 hm (fun p_34 m_p_34 k_p_34 hm => ?_)
    obtain ⟨_, σ_35, hc_36, hm⟩ := rr_bd_some hm
    refine rr_callV (rest := []) (st1 := []) C 0 hll (c_Big_setProduct l G hG fu p_31 m_p_31 k_p_31 p_33 m_p_33 k_p_33 p_34 m_p_34 k_p_34 σ _ hc_36) q_575 q_576 q_577 q_6 q_578 hd_Big_setProduct ⟨_, rfl, rfl⟩ (by decide) m_p_31 k_p_31 ⟨by decide, by decide⟩ rfl rfl (Nat.le_of_ble_eq_true rfl) rfl dX7_formRest_157 ?_
    refine rx_iload C 5 dX7_formRest_160 rfl ?_
    refine rx_iload C 4 dX7_formRest_162 rfl ?_
    refine rx_iload C 2 dX7_formRest_164 rfl ?_
    refine rx_isub C dX7_formRest_166 ?_
    refine rr_jn1 hm (fun j212 ej212 hm => ?_)
    have hj212 : ∀ (σ_37 : rr_M), j212 σ_37 = some ((), σr) → rr_J X G 9 (rr_E X G σr none) σ_37 212 [(0, .ref v0), (3, .int v3), (5, .int v5), (6, .int v6), (7, .int v7), (8, .int v8)] [] := by
      intro σ_37 hm
      replace hm := ej212 _ hm
      refine rx_aload_n C 0 dX7_formRest_212 rfl ?_
      refine gf_177 C m_v0 k_v0 dX7_formRest_213 hm (fun p_38 m_p_38 k_p_38 hm => ?_)
      refine rx_iload C 5 dX7_formRest_216 rfl ?_
      refine rx_ald14 C m_p_38 k_p_38 dX7_formRest_218 hm (fun p_39 m_p_39 k_p_39 hm => ?_)
      refine rx_aload_n C 0 dX7_formRest_219 rfl ?_
      refine gf_178 C m_v0 k_v0 dX7_formRest_220 hm (fun p_40 m_p_40 k_p_40 hm => ?_)
      obtain ⟨_, σ_41, hc_42, hm⟩ := rr_bd_some hm
      refine rr_callV (rest := []) (st1 := []) C 0 hll (c_Big_copy l G hG p_39 m_p_39 k_p_39 p_40 m_p_40 k_p_40 σ_37 _ hc_42) q_562 q_563 q_564 q_6 q_565 hd_Big_copy ⟨_, rfl, rfl⟩ (by decide) m_p_39 k_p_39 ⟨by decide, by decide⟩ rfl rfl (Nat.le_of_ble_eq_true rfl) rfl dX7_formRest_223 ?_
      refine rx_iinc (d := 1) (lv1 := fun v => [(8, .int v), (0, .ref v0), (3, .int v3), (5, .int v5), (6, .int v6), (7, .int v7)]) C 5 dX7_formRest_226 hm rfl rfl (by decide) (fun _ => rfl) (fun v8_43 hm => ?_)
      refine rx_goto (tgt := 135) C dX7_formRest_229 (by decide) ?_
      refine rx_lv [1, 2, 3, 4, 5, 0] rfl ?_
      exact ih _ _ _ hm hk
    refine rx_icmp_lt (tgt := 212) C dX7_formRest_167 (by decide) hm (fun h_44 hm => ?_) (fun h_44 hm => ?_)
    · refine rx_lv [0, 1, 2, 3, 4, 5] rfl ?_
      exact hj212 _ hm
    refine rx_aload_n C 0 dX7_formRest_170 rfl ?_
    refine gf_179 C m_v0 k_v0 dX7_formRest_171 hm (fun p_45 m_p_45 k_p_45 hm => ?_)
    refine rx_aload_n C 0 dX7_formRest_174 rfl ?_
    refine gf_180 C m_v0 k_v0 dX7_formRest_175 hm (fun p_46 m_p_46 k_p_46 hm => ?_)
    refine rx_aload_n C 0 dX7_formRest_178 rfl ?_
    refine gf_165 C m_v0 k_v0 dX7_formRest_179 hm (fun p_47 m_p_47 k_p_47 hm => ?_)
    refine rx_iload_n C 1 dX7_formRest_182 rfl ?_
    refine rx_iload C 5 dX7_formRest_183 rfl ?_
    refine rx_iadd C dX7_formRest_185 ?_
    refine rx_iload C 4 dX7_formRest_186 rfl ?_
    refine rx_iload C 2 dX7_formRest_188 rfl ?_
    refine rx_isub C dX7_formRest_190 ?_
    refine rx_isub C dX7_formRest_191 ?_
    refine rx_ald14 C m_p_47 k_p_47 dX7_formRest_192 hm (fun p_48 m_p_48 k_p_48 hm => ?_)
    obtain ⟨_, σ_49, hc_50, hm⟩ := rr_bd_some hm
    refine rr_callV (rest := []) (st1 := []) C 0 hll (c_Big_setProduct l G hG fu p_45 m_p_45 k_p_45 p_46 m_p_46 k_p_46 p_48 m_p_48 k_p_48 σ_35 _ hc_50) q_575 q_576 q_577 q_6 q_578 hd_Big_setProduct ⟨_, rfl, rfl⟩ (by decide) m_p_45 k_p_45 ⟨by decide, by decide⟩ rfl rfl (Nat.le_of_ble_eq_true rfl) rfl dX7_formRest_193 ?_
    refine rx_aload_n C 0 dX7_formRest_196 rfl ?_
    refine gf_178 C m_v0 k_v0 dX7_formRest_197 hm (fun p_51 m_p_51 k_p_51 hm => ?_)
    refine rx_aload_n C 0 dX7_formRest_200 rfl ?_
    refine gf_179 C m_v0 k_v0 dX7_formRest_201 hm (fun p_52 m_p_52 k_p_52 hm => ?_)
    refine rx_iload C 3 dX7_formRest_204 rfl ?_
    refine rx_ineg C dX7_formRest_206 ?_
    refine rx_i2l C dX7_formRest_207 ?_
    refine rx_iconst (v := 0) C dX7_formRest_208 rfl ?_
    obtain ⟨_, σ_53, hc_54, hm⟩ := rr_bd_some hm
    refine rr_callV (rest := []) (st1 := []) C 0 hll (c_Big_addTimes l G hG fu p_51 m_p_51 k_p_51 p_52 m_p_52 k_p_52 ((-v6).toInt64) 0 σ_49 _ hc_54) q_579 q_580 q_581 q_6 q_582 hd_Big_addTimes ⟨_, rfl, rfl⟩ (by decide) m_p_51 k_p_51 ⟨by decide, by decide⟩ rfl rfl (Nat.le_of_ble_eq_true rfl) rfl dX7_formRest_209 ?_
    refine rx_lv [0, 1, 2, 3, 4, 5] rfl ?_
    exact hj212 _ hm
def l_Seq_formRest_111 (fu : Nat) (N : Nat → Nat) (v0 : Nat) (v3 : Int32) (v5 : Int32) (v6 : Int32) : Nat → Int32 → rr_M → (rr_M → Option (Unit × rr_M)) → Option (Unit × rr_M)
  | 0, _, _, _ => none
  | n + 1, v7, σ, kk =>
    if v7 < v5 then (kk σ) else
    rr_lt (mg_r σ v0 7) fun p_25 =>
    rr_lt (mg_r σ v0 4) fun p_26 =>
    (if rr_ix v7 (N p_26) then rr_lt (mg_r σ p_26 (rr_n v7)) fun p_27 =>
    rr_bd (f_Big_copy N p_25 p_27 σ) fun _ σ_28 =>
    l_Seq_formRest_135 fu N v0 v3 v5 v6 v7 fu 0 σ_28 (fun σ_55 =>
    rr_lt (v7 + (-1)) fun v7_56 =>
    l_Seq_formRest_111 fu N v0 v3 v5 v6 n v7_56 σ_55 kk) else none)
theorem lw_Seq_formRest_111 {X : rr_X} {G : rr_G} {l : Launch} {fu : Nat} (hG : G.2.2.1.Nodup) (hll : X.2.1 = l) (C : rr_C X G cX7_formRest 9 "RootRows$Sequence" none 2 89) {σr : rr_M} (v0 : Nat) (m_v0 : v0 ∈ G.2.2.1) (k_v0 : G.2.2.2.1 v0 = 5) (v3 : Int32) (v5 : Int32) (v6 : Int32) : ∀ (n : Nat) (v7 : Int32) (σ : rr_M) (K : rr_M → Option (Unit × rr_M)), l_Seq_formRest_111 fu G.2.2.2.2 v0 v3 v5 v6 n v7 σ K = some ((), σr) → (∀ (σ1 : rr_M), K σ1 = some ((), σr) → rr_J X G 9 (rr_E X G σr none) σ1 238 [] []) → rr_J X G 9 (rr_E X G σr none) σ 111 [(0, .ref v0), (3, .int v3), (5, .int v5), (6, .int v6), (7, .int v7)] [] := by
  intro n
  induction n with
  | zero =>
    intro v7 σ K hm
    cases hm
  | succ n ih =>
    intro v7 σ K hm hk
    unfold l_Seq_formRest_111 at hm
    refine rx_iload C 4 dX7_formRest_111 rfl ?_
    refine rx_iload C 2 dX7_formRest_113 rfl ?_
    refine rx_icmp_lt (tgt := 238) C dX7_formRest_115 (by decide) hm (fun h_24 hm => ?_) (fun h_24 hm => ?_)
    · refine rx_lv [] rfl ?_
      exact hk _ hm
    refine rx_aload_n C 0 dX7_formRest_118 rfl ?_
    refine gf_180 C m_v0 k_v0 dX7_formRest_119 hm (fun p_25 m_p_25 k_p_25 hm => ?_)
    refine rx_aload_n C 0 dX7_formRest_122 rfl ?_
    refine gf_177 C m_v0 k_v0 dX7_formRest_123 hm (fun p_26 m_p_26 k_p_26 hm => ?_)
    refine rx_iload C 4 dX7_formRest_126 rfl ?_
    refine rx_ald14 C m_p_26 k_p_26 dX7_formRest_128 hm (fun p_27 m_p_27 k_p_27 hm => ?_)
    obtain ⟨_, σ_28, hc_29, hm⟩ := rr_bd_some hm
    refine rr_callV (rest := []) (st1 := []) C 0 hll (c_Big_copy l G hG p_25 m_p_25 k_p_25 p_27 m_p_27 k_p_27 σ _ hc_29) q_562 q_563 q_564 q_6 q_565 hd_Big_copy ⟨_, rfl, rfl⟩ (by decide) m_p_25 k_p_25 ⟨by decide, by decide⟩ rfl rfl (Nat.le_of_ble_eq_true rfl) rfl dX7_formRest_129 ?_
    refine rx_iconst (v := 0) C dX7_formRest_132 rfl ?_
    refine rx_istore (lv1 := [(8, .int 0), (0, .ref v0), (3, .int v3), (5, .int v5), (6, .int v6), (7, .int v7)]) C dX7_formRest_133 (by decide) rfl ?_
    refine rx_lv [1, 2, 3, 4, 5, 0] rfl ?_
    refine lw_Seq_formRest_135 hG hll C v0 m_v0 k_v0 v3 v5 v6 v7 _ _ _ _ hm (fun σ_55 hm => ?_)
    refine rx_iinc (d := (-1)) (lv1 := fun v => [(7, .int v), (0, .ref v0), (3, .int v3), (5, .int v5), (6, .int v6)]) C 4 dX7_formRest_232 hm rfl rfl (by decide) (fun _ => rfl) (fun v7_56 hm => ?_)
    refine rx_goto (tgt := 111) C dX7_formRest_235 (by decide) ?_
    refine rx_lv [1, 2, 3, 4, 0] rfl ?_
    exact ih _ _ _ hm hk
def f_Seq_formRest (fu : Nat) (N : Nat → Nat) (v0 : Nat) (v1 : Int32) (σ : rr_M) : Option (Unit × rr_M) :=
    rr_lt ((v1 - 2) * 9) fun v2_1 =>
    rr_lt ((v1 - 1) * 9) fun v3_2 =>
    rr_lt (mg_r σ v0 1) fun p_3 =>
    (if rr_ix (v1 - 2) (N p_3) then
    rr_lt (mg_i σ p_3 (rr_n (v1 - 2))) fun v4_4 =>
    rr_lt (mg_r σ v0 1) fun p_5 =>
    (if rr_ix (v1 - 1) (N p_5) then
    rr_lt (mg_i σ p_5 (rr_n (v1 - 1))) fun v5_6 =>
    l_Seq_formRest_37 fu N v0 v2_1 v4_4 fu 0 σ (fun σ_15 =>
    rr_lt (mg_r σ_15 v0 2) fun p_16 =>
    (if rr_ix (v1 - 1) (N p_16) then
    rr_lt (mg_i σ_15 p_16 (rr_n (v1 - 1))) fun v6_17 =>
    rr_lt (mg_r σ_15 v0 9) fun p_18 =>
    rr_lt (mg_r σ_15 v0 0) fun p_19 =>
    (if rr_ix (v3_2 + v5_6) (N p_19) then rr_lt (mg_r σ_15 p_19 (rr_n (v3_2 + v5_6))) fun p_20 =>
    rr_bd (f_Big_copy N p_18 p_20 σ_15) fun _ σ_21 =>
    rr_jn (fun (σ_23 : rr_M) =>
    l_Seq_formRest_111 fu N v0 v3_2 v5_6 v6_17 fu v4_4 σ_23 (fun σ_57 =>
    some ((), σ_57))) fun j107 =>
    if 0 ≤ v6_17 then (j107 σ_21) else
    rr_lt (mg_r σ_21 v0 9) fun p_59 =>
    rr_bd (f_Big_negate fu N p_59 σ_21) fun _ σ_60 =>
    j107 σ_60 else none) else none)) else none) else none)
theorem c_Seq_formRest (l : Launch) (G : rr_G) (hG : G.2.2.1.Nodup) (fu : Nat) (v0 : Nat) (m_v0 : v0 ∈ G.2.2.1) (k_v0 : G.2.2.2.1 v0 = 5) (v1 : Int32) (σ : rr_M) (σr : rr_M) (hm : f_Seq_formRest fu G.2.2.2.2 v0 v1 σ = some ((), σr)) : rr_Met l G yX7_formRest cX7_formRest 9 none 2 89 [.ref v0, .int v1] σ σr none := by
  refine rr_enter (lv0 := [(0, .ref v0), (1, .int v1)]) hp_Seq_formRest hG (Nat.le_of_ble_eq_true rfl) rfl (fun X hll C => ?_)
  replace C : rr_C X G cX7_formRest 9 "RootRows$Sequence" none 2 89 := C
  unfold f_Seq_formRest at hm
  refine rx_iload_n C 1 dX7_formRest_0 rfl ?_
  refine rx_iconst (v := 2) C dX7_formRest_1 rfl ?_
  refine rx_isub C dX7_formRest_2 ?_
  refine rx_bipush (v := 9) C dX7_formRest_3 rfl ?_
  refine rx_imul C dX7_formRest_5 ?_
  refine rx_nmi hm (fun v2_1 ev2_1 hm => ?_)
  refine rx_istore_n (lv1 := [(2, .int v2_1), (0, .ref v0), (1, .int v1)]) C dX7_formRest_6 (by decide) rfl ?_
  refine rx_iload_n C 2 dX7_formRest_7 rfl ?_
  refine rx_iconst (v := 1) C dX7_formRest_8 rfl ?_
  refine rx_isub C dX7_formRest_9 ?_
  refine rx_bipush (v := 9) C dX7_formRest_10 rfl ?_
  refine rx_imul C dX7_formRest_12 ?_
  refine rx_nmi hm (fun v3_2 ev3_2 hm => ?_)
  refine rx_istore_n (lv1 := [(3, .int v3_2), (2, .int v2_1), (0, .ref v0), (1, .int v1)]) C dX7_formRest_13 (by decide) rfl ?_
  refine rx_aload_n C 2 dX7_formRest_14 rfl ?_
  refine gf_167 C m_v0 k_v0 dX7_formRest_15 hm (fun p_3 m_p_3 k_p_3 hm => ?_)
  refine rx_iload_n C 3 dX7_formRest_18 rfl ?_
  refine rx_iconst (v := 2) C dX7_formRest_19 rfl ?_
  refine rx_isub C dX7_formRest_20 ?_
  refine rx_iald C m_p_3 k_p_3 dX7_formRest_21 hm (fun hm => ?_)
  refine rx_nmi hm (fun v4_4 ev4_4 hm => ?_)
  refine rx_istore (lv1 := [(4, .int v4_4), (3, .int v3_2), (2, .int v2_1), (0, .ref v0), (1, .int v1)]) C dX7_formRest_22 (by decide) rfl ?_
  refine rx_aload_n C 3 dX7_formRest_24 rfl ?_
  refine gf_167 C m_v0 k_v0 dX7_formRest_25 hm (fun p_5 m_p_5 k_p_5 hm => ?_)
  refine rx_iload_n C 4 dX7_formRest_28 rfl ?_
  refine rx_iconst (v := 1) C dX7_formRest_29 rfl ?_
  refine rx_isub C dX7_formRest_30 ?_
  refine rx_iald C m_p_5 k_p_5 dX7_formRest_31 hm (fun hm => ?_)
  refine rx_nmi hm (fun v5_6 ev5_6 hm => ?_)
  refine rx_istore (lv1 := [(5, .int v5_6), (4, .int v4_4), (3, .int v3_2), (2, .int v2_1), (0, .ref v0), (1, .int v1)]) C dX7_formRest_32 (by decide) rfl ?_
  refine rx_iconst (v := 0) C dX7_formRest_34 rfl ?_
  refine rx_istore (lv1 := [(6, .int 0), (5, .int v5_6), (4, .int v4_4), (3, .int v3_2), (2, .int v2_1), (0, .ref v0), (1, .int v1)]) C dX7_formRest_35 (by decide) rfl ?_
  refine rx_lv [5, 6, 4, 3, 2, 1, 0] rfl ?_
  refine lw_Seq_formRest_37 hG hll C v0 m_v0 k_v0 v1 v2_1 v3_2 v4_4 v5_6 _ _ _ _ hm (fun σ_15 hm => ?_)
  refine rx_aload_n C 0 dX7_formRest_69 rfl ?_
  refine gf_170 C m_v0 k_v0 dX7_formRest_70 hm (fun p_16 m_p_16 k_p_16 hm => ?_)
  refine rx_iload_n C 1 dX7_formRest_73 rfl ?_
  refine rx_iconst (v := 1) C dX7_formRest_74 rfl ?_
  refine rx_isub C dX7_formRest_75 ?_
  refine rx_iald C m_p_16 k_p_16 dX7_formRest_76 hm (fun hm => ?_)
  refine rx_nmi hm (fun v6_17 ev6_17 hm => ?_)
  refine rx_istore (lv1 := [(6, .int v6_17), (0, .ref v0), (1, .int v1), (3, .int v3_2), (4, .int v4_4), (5, .int v5_6)]) C dX7_formRest_77 (by decide) rfl ?_
  refine rx_aload_n C 1 dX7_formRest_79 rfl ?_
  refine gf_182 C m_v0 k_v0 dX7_formRest_80 hm (fun p_18 m_p_18 k_p_18 hm => ?_)
  refine rx_aload_n C 1 dX7_formRest_83 rfl ?_
  refine gf_165 C m_v0 k_v0 dX7_formRest_84 hm (fun p_19 m_p_19 k_p_19 hm => ?_)
  refine rx_iload_n C 3 dX7_formRest_87 rfl ?_
  refine rx_iload C 5 dX7_formRest_88 rfl ?_
  refine rx_iadd C dX7_formRest_90 ?_
  refine rx_ald14 C m_p_19 k_p_19 dX7_formRest_91 hm (fun p_20 m_p_20 k_p_20 hm => ?_)
  obtain ⟨_, σ_21, hc_22, hm⟩ := rr_bd_some hm
  refine rr_callV (rest := []) (st1 := []) C 0 hll (c_Big_copy l G hG p_18 m_p_18 k_p_18 p_20 m_p_20 k_p_20 σ_15 _ hc_22) q_562 q_563 q_564 q_6 q_565 hd_Big_copy ⟨_, rfl, rfl⟩ (by decide) m_p_18 k_p_18 ⟨by decide, by decide⟩ rfl rfl (Nat.le_of_ble_eq_true rfl) rfl dX7_formRest_92 ?_
  refine rx_iload C 0 dX7_formRest_95 rfl ?_
  refine rr_jn1 hm (fun j107 ej107 hm => ?_)
  have hj107 : ∀ (σ_23 : rr_M), j107 σ_23 = some ((), σr) → rr_J X G 9 (rr_E X G σr none) σ_23 107 [(0, .ref v0), (3, .int v3_2), (4, .int v4_4), (5, .int v5_6), (6, .int v6_17)] [] := by
    intro σ_23 hm
    replace hm := ej107 _ hm
    refine rx_iload C 2 dX7_formRest_107 rfl ?_
    refine rx_istore (lv1 := [(7, .int v4_4), (0, .ref v0), (3, .int v3_2), (4, .int v4_4), (5, .int v5_6), (6, .int v6_17)]) C dX7_formRest_109 (by decide) rfl ?_
    refine rx_lv [1, 2, 4, 5, 0] rfl ?_
    refine lw_Seq_formRest_111 hG hll C v0 m_v0 k_v0 v3_2 v5_6 v6_17 _ _ _ _ hm (fun σ_57 hm => ?_)
    exact rx_vret C dX7_formRest_238 hm
  refine rx_if_ge (tgt := 107) C dX7_formRest_97 (by decide) hm (fun h_58 hm => ?_) (fun h_58 hm => ?_)
  · refine rx_lv [1, 3, 4, 5, 0] rfl ?_
    exact hj107 _ hm
  refine rx_aload_n C 1 dX7_formRest_100 rfl ?_
  refine gf_182 C m_v0 k_v0 dX7_formRest_101 hm (fun p_59 m_p_59 k_p_59 hm => ?_)
  obtain ⟨_, σ_60, hc_61, hm⟩ := rr_bd_some hm
  refine rr_callV (rest := []) (st1 := []) C 0 hll (c_Big_negate l G hG fu p_59 m_p_59 k_p_59 σ_21 _ hc_61) q_571 q_572 q_573 q_6 q_574 hd_Big_negate ⟨_, rfl, rfl⟩ (by decide) m_p_59 k_p_59 ⟨by decide, by decide⟩ rfl rfl (Nat.le_of_ble_eq_true rfl) rfl dX7_formRest_104 ?_
  refine rx_lv [1, 3, 4, 5, 0] rfl ?_
  exact hj107 _ hm
def l_Seq_load_35 (fu : Nat) (N : Nat → Nat) (v0 : Nat) (v1 : Int32) (v2 : Nat) : Nat → Int32 → rr_M → (rr_M → Option (Unit × rr_M)) → Option (Unit × rr_M)
  | 0, _, _, _ => none
  | n + 1, v4, σ, kk =>
    if 9 ≤ v4 then (kk σ) else
    if (nI (N v2)) ≤ v4 then (kk σ) else
    rr_lt (mg_r σ v0 0) fun p_10 =>
    (if rr_ix ((v1 * 9) + v4) (N p_10) then rr_lt (mg_r σ p_10 (rr_n ((v1 * 9) + v4))) fun p_11 =>
    (if rr_ix v4 (N v2) then
    rr_bd (f_Big_set fu N p_11 (mg_l σ v2 (rr_n v4)) σ) fun _ σ_12 =>
    rr_lt (v4 + 1) fun v4_14 =>
    l_Seq_load_35 fu N v0 v1 v2 n v4_14 σ_12 kk else none) else none)
theorem lw_Seq_load_35 {X : rr_X} {G : rr_G} {l : Launch} {fu : Nat} (hG : G.2.2.1.Nodup) (hll : X.2.1 = l) (C : rr_C X G cX7_load 5 "RootRows$Sequence" none 2 44) {σr : rr_M} (v0 : Nat) (m_v0 : v0 ∈ G.2.2.1) (k_v0 : G.2.2.2.1 v0 = 5) (v1 : Int32) (v2 : Nat) (m_v2 : v2 ∈ G.2.2.1) (k_v2 : G.2.2.2.1 v2 = 12) : ∀ (n : Nat) (v4 : Int32) (σ : rr_M) (K : rr_M → Option (Unit × rr_M)), l_Seq_load_35 fu G.2.2.2.2 v0 v1 v2 n v4 σ K = some ((), σr) → (∀ (σ1 : rr_M), K σ1 = some ((), σr) → rr_J X G 5 (rr_E X G σr none) σ1 74 [] []) → rr_J X G 5 (rr_E X G σr none) σ 35 [(0, .ref v0), (1, .int v1), (2, .ref v2), (4, .int v4)] [] := by
  intro n
  induction n with
  | zero =>
    intro v4 σ K hm
    cases hm
  | succ n ih =>
    intro v4 σ K hm hk
    unfold l_Seq_load_35 at hm
    refine rx_iload C 3 dX7_load_35 rfl ?_
    refine rx_bipush (v := 9) C dX7_load_37 rfl ?_
    refine rx_icmp_ge (tgt := 74) C dX7_load_39 (by decide) hm (fun h_8 hm => ?_) (fun h_8 hm => ?_)
    · refine rx_lv [] rfl ?_
      exact hk _ hm
    refine rx_iload C 3 dX7_load_42 rfl ?_
    refine rx_aload_n C 2 dX7_load_44 rfl ?_
    refine rx_alen C m_v2 k_v2 (by decide) dX7_load_45 ?_
    refine rx_icmp_ge (tgt := 74) C dX7_load_46 (by decide) hm (fun h_9 hm => ?_) (fun h_9 hm => ?_)
    · refine rx_lv [] rfl ?_
      exact hk _ hm
    refine rx_aload_n C 0 dX7_load_49 rfl ?_
    refine gf_165 C m_v0 k_v0 dX7_load_50 hm (fun p_10 m_p_10 k_p_10 hm => ?_)
    refine rx_iload_n C 1 dX7_load_53 rfl ?_
    refine rx_bipush (v := 9) C dX7_load_54 rfl ?_
    refine rx_imul C dX7_load_56 ?_
    refine rx_iload C 3 dX7_load_57 rfl ?_
    refine rx_iadd C dX7_load_59 ?_
    refine rx_ald14 C m_p_10 k_p_10 dX7_load_60 hm (fun p_11 m_p_11 k_p_11 hm => ?_)
    refine rx_aload_n C 2 dX7_load_61 rfl ?_
    refine rx_iload C 3 dX7_load_62 rfl ?_
    refine rx_lald C m_v2 k_v2 dX7_load_64 hm (fun hm => ?_)
    obtain ⟨_, σ_12, hc_13, hm⟩ := rr_bd_some hm
    refine rr_callV (rest := []) (st1 := []) C 0 hll (c_Big_set l G hG fu p_11 m_p_11 k_p_11 (mg_l σ v2 (rr_n v4)) σ _ hc_13) q_557 q_271 q_272 q_6 q_273 hd_Big_set ⟨_, rfl, rfl⟩ (by decide) m_p_11 k_p_11 ⟨by decide, by decide⟩ rfl rfl (Nat.le_of_ble_eq_true rfl) rfl dX7_load_65 ?_
    refine rx_iinc (d := 1) (lv1 := fun v => [(4, .int v), (0, .ref v0), (1, .int v1), (2, .ref v2)]) C 3 dX7_load_68 hm rfl rfl (by decide) (fun _ => rfl) (fun v4_14 hm => ?_)
    refine rx_goto (tgt := 35) C dX7_load_71 (by decide) ?_
    refine rx_lv [1, 2, 3, 0] rfl ?_
    exact ih _ _ _ hm hk
def f_Seq_load (fu : Nat) (N : Nat → Nat) (v0 : Nat) (v1 : Int32) (v2 : Nat) (σ : rr_M) : Option (Unit × rr_M) :=
    Option.bind (f_Num_degreeOf fu N v2 σ) fun r_1 =>
    rr_lt (mg_r σ v0 1) fun p_3 =>
    (if rr_ix v1 (N p_3) then rr_lt (ms_i σ p_3 (rr_n v1) r_1) fun σ_4 =>
    rr_lt (mg_r σ_4 v0 2) fun p_5 =>
    rr_jn (fun (t_6 : Int32) =>
    (if rr_ix v1 (N p_5) then rr_lt (ms_i σ_4 p_5 (rr_n v1) t_6) fun σ_7 =>
    l_Seq_load_35 fu N v0 v1 v2 fu 0 σ_7 (fun σ_15 =>
    some ((), σ_15)) else none)) fun j31 =>
    if 0 ≤ r_1 then ((if rr_ix r_1 (N v2) then
    Option.bind (f_Jlo_signum_l (mg_l σ_4 v2 (rr_n r_1))) fun r_17 =>
    j31 r_17 else none)) else
    j31 0 else none)
theorem c_Seq_load (l : Launch) (G : rr_G) (hG : G.2.2.1.Nodup) (fu : Nat) (v0 : Nat) (m_v0 : v0 ∈ G.2.2.1) (k_v0 : G.2.2.2.1 v0 = 5) (v1 : Int32) (v2 : Nat) (m_v2 : v2 ∈ G.2.2.1) (k_v2 : G.2.2.2.1 v2 = 12) (σ : rr_M) (σr : rr_M) (hm : f_Seq_load fu G.2.2.2.2 v0 v1 v2 σ = some ((), σr)) : rr_Met l G yX7_load cX7_load 5 none 2 44 [.ref v0, .int v1, .ref v2] σ σr none := by
  refine rr_enter (lv0 := [(0, .ref v0), (1, .int v1), (2, .ref v2)]) hp_Seq_load hG (Nat.le_of_ble_eq_true rfl) rfl (fun X hll C => ?_)
  replace C : rr_C X G cX7_load 5 "RootRows$Sequence" none 2 44 := C
  unfold f_Seq_load at hm
  refine rx_aload_n C 2 dX7_load_0 rfl ?_
  obtain ⟨r_1, hc_2, hm⟩ := rr_b0_some hm
  refine rr_callS (rest := []) (st1 := [.int r_1]) C hll (c_Num_degreeOf l G hG fu v2 m_v2 k_v2 σ _ hc_2) q_553 q_487 q_12 q_488 hd_Num_degreeOf ⟨by decide, by decide⟩ rfl rfl (Nat.le_of_ble_eq_true rfl) rfl dX7_load_1 ?_
  refine rx_istore_n (lv1 := [(3, .int r_1), (0, .ref v0), (1, .int v1), (2, .ref v2)]) C dX7_load_4 (by decide) rfl ?_
  refine rx_aload_n C 1 dX7_load_5 rfl ?_
  refine gf_167 C m_v0 k_v0 dX7_load_6 hm (fun p_3 m_p_3 k_p_3 hm => ?_)
  refine rx_iload_n C 2 dX7_load_9 rfl ?_
  refine rx_iload_n C 0 dX7_load_10 rfl ?_
  refine rx_iast C m_p_3 k_p_3 dX7_load_11 hm (fun σ_4 hm => ?_)
  refine rx_aload_n C 1 dX7_load_12 rfl ?_
  refine gf_170 C m_v0 k_v0 dX7_load_13 hm (fun p_5 m_p_5 k_p_5 hm => ?_)
  refine rx_iload_n C 2 dX7_load_16 rfl ?_
  refine rx_iload_n C 0 dX7_load_17 rfl ?_
  refine rr_jn1 hm (fun j31 ej31 hm => ?_)
  have hj31 : ∀ (t_6 : Int32), j31 t_6 = some ((), σr) → rr_J X G 5 (rr_E X G σr none) σ_4 31 [(0, .ref v0), (1, .int v1), (2, .ref v2)] [.int t_6, .int v1, .ref p_5] := by
    intro t_6 hm
    replace hm := ej31 _ hm
    refine rx_iast C m_p_5 k_p_5 dX7_load_31 hm (fun σ_7 hm => ?_)
    refine rx_iconst (v := 0) C dX7_load_32 rfl ?_
    refine rx_istore (lv1 := [(4, .int 0), (0, .ref v0), (1, .int v1), (2, .ref v2)]) C dX7_load_33 (by decide) rfl ?_
    refine rx_lv [1, 2, 3, 0] rfl ?_
    refine lw_Seq_load_35 hG hll C v0 m_v0 k_v0 v1 v2 m_v2 k_v2 _ _ _ _ hm (fun σ_15 hm => ?_)
    exact rx_vret C dX7_load_74 hm
  refine rx_if_ge (tgt := 25) C dX7_load_18 (by decide) hm (fun h_16 hm => ?_) (fun h_16 hm => ?_)
  · refine rx_aload_n C 3 dX7_load_25 rfl ?_
    refine rx_iload_n C 0 dX7_load_26 rfl ?_
    refine rx_lald C m_v2 k_v2 dX7_load_27 hm (fun hm => ?_)
    obtain ⟨r_17, hc_18, hm⟩ := rr_b0_some hm
    refine rr_callS (rest := [.int v1, .ref p_5]) (st1 := [.int r_17, .int v1, .ref p_5]) C hll (c_Jlo_signum_l l G hG (mg_l σ_4 v2 (rr_n r_1)) σ_4 _ hc_18) q_554 q_555 q_15 q_556 hd_Jlo_signum_l ⟨by decide, by decide⟩ rfl rfl (Nat.le_of_ble_eq_true rfl) rfl dX7_load_28 ?_
    refine rx_lv [1, 2, 3] rfl ?_
    exact hj31 _ hm
  refine rx_iconst (v := 0) C dX7_load_21 rfl ?_
  refine rx_goto (tgt := 31) C dX7_load_22 (by decide) ?_
  refine rx_lv [1, 2, 3] rfl ?_
  exact hj31 _ hm
def l_Seq_raiseHeight_38 (fu : Nat) (N : Nat → Nat) (v0 : Nat) (v1 : Int32) : Nat → Int32 → rr_M → (rr_M → Option (Unit × rr_M)) → Option (Unit × rr_M)
  | 0, _, _, _ => none
  | n + 1, v2, σ, kk =>
    if v1 ≤ v2 then (kk σ) else
    rr_lt (mg_r σ v0 6) fun p_14 =>
    rr_lt (mg_r σ v0 5) fun p_15 =>
    rr_lt (mg_r σ v0 10) fun p_16 =>
    rr_bd (f_Big_setProduct fu N p_14 p_15 p_16 σ) fun _ σ_17 =>
    rr_lt (mg_r σ_17 v0 5) fun p_19 =>
    rr_lt (mg_r σ_17 v0 6) fun p_20 =>
    rr_bd (f_Big_copy N p_19 p_20 σ_17) fun _ σ_21 =>
    rr_lt (mg_r σ_21 v0 6) fun p_23 =>
    rr_lt (mg_r σ_21 v0 8) fun p_24 =>
    rr_lt (mg_r σ_21 v0 11) fun p_25 =>
    rr_bd (f_Big_setProduct fu N p_23 p_24 p_25 σ_21) fun _ σ_26 =>
    rr_lt (mg_r σ_26 v0 8) fun p_28 =>
    rr_lt (mg_r σ_26 v0 6) fun p_29 =>
    rr_bd (f_Big_copy N p_28 p_29 σ_26) fun _ σ_30 =>
    rr_lt (v2 + 1) fun v2_32 =>
    l_Seq_raiseHeight_38 fu N v0 v1 n v2_32 σ_30 kk
theorem lw_Seq_raiseHeight_38 {X : rr_X} {G : rr_G} {l : Launch} {fu : Nat} (hG : G.2.2.1.Nodup) (hll : X.2.1 = l) (C : rr_C X G cX7_raiseHeight 3 "RootRows$Sequence" none 3 89) {σr : rr_M} (v0 : Nat) (m_v0 : v0 ∈ G.2.2.1) (k_v0 : G.2.2.2.1 v0 = 5) (v1 : Int32) : ∀ (n : Nat) (v2 : Int32) (σ : rr_M) (K : rr_M → Option (Unit × rr_M)), l_Seq_raiseHeight_38 fu G.2.2.2.2 v0 v1 n v2 σ K = some ((), σr) → (∀ (σ1 : rr_M), K σ1 = some ((), σr) → rr_J X G 3 (rr_E X G σr none) σ1 101 [(0, .ref v0)] []) → rr_J X G 3 (rr_E X G σr none) σ 38 [(0, .ref v0), (1, .int v1), (2, .int v2)] [] := by
  intro n
  induction n with
  | zero =>
    intro v2 σ K hm
    cases hm
  | succ n ih =>
    intro v2 σ K hm hk
    unfold l_Seq_raiseHeight_38 at hm
    refine rx_iload_n C 2 dX7_raiseHeight_38 rfl ?_
    refine rx_iload_n C 1 dX7_raiseHeight_39 rfl ?_
    refine rx_icmp_ge (tgt := 101) C dX7_raiseHeight_40 (by decide) hm (fun h_13 hm => ?_) (fun h_13 hm => ?_)
    · refine rx_lv [0] rfl ?_
      exact hk _ hm
    refine rx_aload_n C 0 dX7_raiseHeight_43 rfl ?_
    refine gf_179 C m_v0 k_v0 dX7_raiseHeight_44 hm (fun p_14 m_p_14 k_p_14 hm => ?_)
    refine rx_aload_n C 0 dX7_raiseHeight_47 rfl ?_
    refine gf_178 C m_v0 k_v0 dX7_raiseHeight_48 hm (fun p_15 m_p_15 k_p_15 hm => ?_)
    refine rx_aload_n C 0 dX7_raiseHeight_51 rfl ?_
    refine gf_183 C m_v0 k_v0 dX7_raiseHeight_52 hm (fun p_16 m_p_16 k_p_16 hm => ?_)
    obtain ⟨_, σ_17, hc_18, hm⟩ := rr_bd_some hm
    refine rr_callV (rest := []) (st1 := []) C 0 hll (c_Big_setProduct l G hG fu p_14 m_p_14 k_p_14 p_15 m_p_15 k_p_15 p_16 m_p_16 k_p_16 σ _ hc_18) q_575 q_576 q_577 q_6 q_578 hd_Big_setProduct ⟨_, rfl, rfl⟩ (by decide) m_p_14 k_p_14 ⟨by decide, by decide⟩ rfl rfl (Nat.le_of_ble_eq_true rfl) rfl dX7_raiseHeight_55 ?_
    refine rx_aload_n C 0 dX7_raiseHeight_58 rfl ?_
    refine gf_178 C m_v0 k_v0 dX7_raiseHeight_59 hm (fun p_19 m_p_19 k_p_19 hm => ?_)
    refine rx_aload_n C 0 dX7_raiseHeight_62 rfl ?_
    refine gf_179 C m_v0 k_v0 dX7_raiseHeight_63 hm (fun p_20 m_p_20 k_p_20 hm => ?_)
    obtain ⟨_, σ_21, hc_22, hm⟩ := rr_bd_some hm
    refine rr_callV (rest := []) (st1 := []) C 0 hll (c_Big_copy l G hG p_19 m_p_19 k_p_19 p_20 m_p_20 k_p_20 σ_17 _ hc_22) q_562 q_563 q_564 q_6 q_565 hd_Big_copy ⟨_, rfl, rfl⟩ (by decide) m_p_19 k_p_19 ⟨by decide, by decide⟩ rfl rfl (Nat.le_of_ble_eq_true rfl) rfl dX7_raiseHeight_66 ?_
    refine rx_aload_n C 0 dX7_raiseHeight_69 rfl ?_
    refine gf_179 C m_v0 k_v0 dX7_raiseHeight_70 hm (fun p_23 m_p_23 k_p_23 hm => ?_)
    refine rx_aload_n C 0 dX7_raiseHeight_73 rfl ?_
    refine gf_181 C m_v0 k_v0 dX7_raiseHeight_74 hm (fun p_24 m_p_24 k_p_24 hm => ?_)
    refine rx_aload_n C 0 dX7_raiseHeight_77 rfl ?_
    refine gf_184 C m_v0 k_v0 dX7_raiseHeight_78 hm (fun p_25 m_p_25 k_p_25 hm => ?_)
    obtain ⟨_, σ_26, hc_27, hm⟩ := rr_bd_some hm
    refine rr_callV (rest := []) (st1 := []) C 0 hll (c_Big_setProduct l G hG fu p_23 m_p_23 k_p_23 p_24 m_p_24 k_p_24 p_25 m_p_25 k_p_25 σ_21 _ hc_27) q_575 q_576 q_577 q_6 q_578 hd_Big_setProduct ⟨_, rfl, rfl⟩ (by decide) m_p_23 k_p_23 ⟨by decide, by decide⟩ rfl rfl (Nat.le_of_ble_eq_true rfl) rfl dX7_raiseHeight_81 ?_
    refine rx_aload_n C 0 dX7_raiseHeight_84 rfl ?_
    refine gf_181 C m_v0 k_v0 dX7_raiseHeight_85 hm (fun p_28 m_p_28 k_p_28 hm => ?_)
    refine rx_aload_n C 0 dX7_raiseHeight_88 rfl ?_
    refine gf_179 C m_v0 k_v0 dX7_raiseHeight_89 hm (fun p_29 m_p_29 k_p_29 hm => ?_)
    obtain ⟨_, σ_30, hc_31, hm⟩ := rr_bd_some hm
    refine rr_callV (rest := []) (st1 := []) C 0 hll (c_Big_copy l G hG p_28 m_p_28 k_p_28 p_29 m_p_29 k_p_29 σ_26 _ hc_31) q_562 q_563 q_564 q_6 q_565 hd_Big_copy ⟨_, rfl, rfl⟩ (by decide) m_p_28 k_p_28 ⟨by decide, by decide⟩ rfl rfl (Nat.le_of_ble_eq_true rfl) rfl dX7_raiseHeight_92 ?_
    refine rx_iinc (d := 1) (lv1 := fun v => [(2, .int v), (0, .ref v0), (1, .int v1)]) C 2 dX7_raiseHeight_95 hm rfl rfl (by decide) (fun _ => rfl) (fun v2_32 hm => ?_)
    refine rx_goto (tgt := 38) C dX7_raiseHeight_98 (by decide) ?_
    refine rx_lv [1, 2, 0] rfl ?_
    exact ih _ _ _ hm hk
def f_Seq_raiseHeight (fu : Nat) (N : Nat → Nat) (v0 : Nat) (v1 : Int32) (σ : rr_M) : Option (Unit × rr_M) :=
    rr_lt (mg_r σ v0 10) fun p_1 =>
    rr_lt (mg_r σ v0 9) fun p_2 =>
    rr_bd (f_Big_copy N p_1 p_2 σ) fun _ σ_3 =>
    if 1 ≤ v1 then (rr_lt (mg_r σ_3 v0 5) fun p_6 =>
    rr_lt (mg_r σ_3 v0 10) fun p_7 =>
    rr_bd (f_Big_copy N p_6 p_7 σ_3) fun _ σ_8 =>
    rr_lt (mg_r σ_8 v0 8) fun p_10 =>
    rr_bd (f_Big_set fu N p_10 1 σ_8) fun _ σ_11 =>
    l_Seq_raiseHeight_38 fu N v0 v1 fu 1 σ_11 (fun σ_33 =>
    rr_lt (mg_r σ_33 v0 8) fun p_34 =>
    Option.bind (f_Big_trailingZeros fu N p_34 σ_33) fun r_35 =>
    rr_lt (mg_r σ_33 v0 8) fun p_37 =>
    rr_bd (f_Big_shiftDown fu N p_37 r_35 σ_33) fun _ σ_38 =>
    rr_lt (mg_r σ_38 v0 5) fun p_40 =>
    rr_bd (f_Big_shiftDown fu N p_40 r_35 σ_38) fun _ σ_41 =>
    rr_lt (mg_r σ_41 v0 11) fun p_43 =>
    rr_lt (mg_r σ_41 v0 5) fun p_44 =>
    rr_lt (mg_r σ_41 v0 8) fun p_45 =>
    rr_bd (f_Big_setQuotient fu N p_43 p_44 p_45 σ_41) fun _ σ_46 =>
    some ((), σ_46))) else
    some ((), σ_3)
theorem c_Seq_raiseHeight (l : Launch) (G : rr_G) (hG : G.2.2.1.Nodup) (fu : Nat) (v0 : Nat) (m_v0 : v0 ∈ G.2.2.1) (k_v0 : G.2.2.2.1 v0 = 5) (v1 : Int32) (σ : rr_M) (σr : rr_M) (hm : f_Seq_raiseHeight fu G.2.2.2.2 v0 v1 σ = some ((), σr)) : rr_Met l G yX7_raiseHeight cX7_raiseHeight 3 none 3 89 [.ref v0, .int v1] σ σr none := by
  refine rr_enter (lv0 := [(0, .ref v0), (1, .int v1)]) hp_Seq_raiseHeight hG (Nat.le_of_ble_eq_true rfl) rfl (fun X hll C => ?_)
  replace C : rr_C X G cX7_raiseHeight 3 "RootRows$Sequence" none 3 89 := C
  unfold f_Seq_raiseHeight at hm
  refine rx_aload_n C 0 dX7_raiseHeight_0 rfl ?_
  refine gf_183 C m_v0 k_v0 dX7_raiseHeight_1 hm (fun p_1 m_p_1 k_p_1 hm => ?_)
  refine rx_aload_n C 0 dX7_raiseHeight_4 rfl ?_
  refine gf_182 C m_v0 k_v0 dX7_raiseHeight_5 hm (fun p_2 m_p_2 k_p_2 hm => ?_)
  obtain ⟨_, σ_3, hc_4, hm⟩ := rr_bd_some hm
  refine rr_callV (rest := []) (st1 := []) C 0 hll (c_Big_copy l G hG p_1 m_p_1 k_p_1 p_2 m_p_2 k_p_2 σ _ hc_4) q_562 q_563 q_564 q_6 q_565 hd_Big_copy ⟨_, rfl, rfl⟩ (by decide) m_p_1 k_p_1 ⟨by decide, by decide⟩ rfl rfl (Nat.le_of_ble_eq_true rfl) rfl dX7_raiseHeight_8 ?_
  refine rx_iload_n C 1 dX7_raiseHeight_11 rfl ?_
  refine rx_iconst (v := 1) C dX7_raiseHeight_12 rfl ?_
  refine rx_icmp_ge (tgt := 17) C dX7_raiseHeight_13 (by decide) hm (fun h_5 hm => ?_) (fun h_5 hm => ?_)
  · refine rx_aload_n C 0 dX7_raiseHeight_17 rfl ?_
    refine gf_178 C m_v0 k_v0 dX7_raiseHeight_18 hm (fun p_6 m_p_6 k_p_6 hm => ?_)
    refine rx_aload_n C 0 dX7_raiseHeight_21 rfl ?_
    refine gf_183 C m_v0 k_v0 dX7_raiseHeight_22 hm (fun p_7 m_p_7 k_p_7 hm => ?_)
    obtain ⟨_, σ_8, hc_9, hm⟩ := rr_bd_some hm
    refine rr_callV (rest := []) (st1 := []) C 0 hll (c_Big_copy l G hG p_6 m_p_6 k_p_6 p_7 m_p_7 k_p_7 σ_3 _ hc_9) q_562 q_563 q_564 q_6 q_565 hd_Big_copy ⟨_, rfl, rfl⟩ (by decide) m_p_6 k_p_6 ⟨by decide, by decide⟩ rfl rfl (Nat.le_of_ble_eq_true rfl) rfl dX7_raiseHeight_25 ?_
    refine rx_aload_n C 0 dX7_raiseHeight_28 rfl ?_
    refine gf_181 C m_v0 k_v0 dX7_raiseHeight_29 hm (fun p_10 m_p_10 k_p_10 hm => ?_)
    refine rx_lconst (v := 1) C dX7_raiseHeight_32 rfl ?_
    obtain ⟨_, σ_11, hc_12, hm⟩ := rr_bd_some hm
    refine rr_callV (rest := []) (st1 := []) C 0 hll (c_Big_set l G hG fu p_10 m_p_10 k_p_10 1 σ_8 _ hc_12) q_557 q_271 q_272 q_6 q_273 hd_Big_set ⟨_, rfl, rfl⟩ (by decide) m_p_10 k_p_10 ⟨by decide, by decide⟩ rfl rfl (Nat.le_of_ble_eq_true rfl) rfl dX7_raiseHeight_33 ?_
    refine rx_iconst (v := 1) C dX7_raiseHeight_36 rfl ?_
    refine rx_istore_n (lv1 := [(2, .int 1), (0, .ref v0), (1, .int v1)]) C dX7_raiseHeight_37 (by decide) rfl ?_
    refine rx_lv [1, 2, 0] rfl ?_
    refine lw_Seq_raiseHeight_38 hG hll C v0 m_v0 k_v0 v1 _ _ _ _ hm (fun σ_33 hm => ?_)
    refine rx_aload_n C 0 dX7_raiseHeight_101 rfl ?_
    refine gf_181 C m_v0 k_v0 dX7_raiseHeight_102 hm (fun p_34 m_p_34 k_p_34 hm => ?_)
    obtain ⟨r_35, hc_36, hm⟩ := rr_b0_some hm
    refine rr_callV (rest := []) (st1 := [.int r_35]) C 0 hll (c_Big_trailingZeros l G hG fu p_34 m_p_34 k_p_34 σ_33 _ hc_36) q_596 q_597 q_598 q_6 q_599 hd_Big_trailingZeros ⟨_, rfl, rfl⟩ (by decide) m_p_34 k_p_34 ⟨by decide, by decide⟩ rfl rfl (Nat.le_of_ble_eq_true rfl) rfl dX7_raiseHeight_105 ?_
    refine rx_istore_n (lv1 := [(2, .int r_35), (0, .ref v0)]) C dX7_raiseHeight_108 (by decide) rfl ?_
    refine rx_aload_n C 1 dX7_raiseHeight_109 rfl ?_
    refine gf_181 C m_v0 k_v0 dX7_raiseHeight_110 hm (fun p_37 m_p_37 k_p_37 hm => ?_)
    refine rx_iload_n C 0 dX7_raiseHeight_113 rfl ?_
    obtain ⟨_, σ_38, hc_39, hm⟩ := rr_bd_some hm
    refine rr_callV (rest := []) (st1 := []) C 0 hll (c_Big_shiftDown l G hG fu p_37 m_p_37 k_p_37 r_35 σ_33 _ hc_39) q_607 q_608 q_609 q_6 q_610 hd_Big_shiftDown ⟨_, rfl, rfl⟩ (by decide) m_p_37 k_p_37 ⟨by decide, by decide⟩ rfl rfl (Nat.le_of_ble_eq_true rfl) rfl dX7_raiseHeight_114 ?_
    refine rx_aload_n C 1 dX7_raiseHeight_117 rfl ?_
    refine gf_178 C m_v0 k_v0 dX7_raiseHeight_118 hm (fun p_40 m_p_40 k_p_40 hm => ?_)
    refine rx_iload_n C 0 dX7_raiseHeight_121 rfl ?_
    obtain ⟨_, σ_41, hc_42, hm⟩ := rr_bd_some hm
    refine rr_callV (rest := []) (st1 := []) C 0 hll (c_Big_shiftDown l G hG fu p_40 m_p_40 k_p_40 r_35 σ_38 _ hc_42) q_607 q_608 q_609 q_6 q_610 hd_Big_shiftDown ⟨_, rfl, rfl⟩ (by decide) m_p_40 k_p_40 ⟨by decide, by decide⟩ rfl rfl (Nat.le_of_ble_eq_true rfl) rfl dX7_raiseHeight_122 ?_
    refine rx_aload_n C 1 dX7_raiseHeight_125 rfl ?_
    refine gf_184 C m_v0 k_v0 dX7_raiseHeight_126 hm (fun p_43 m_p_43 k_p_43 hm => ?_)
    refine rx_aload_n C 1 dX7_raiseHeight_129 rfl ?_
    refine gf_178 C m_v0 k_v0 dX7_raiseHeight_130 hm (fun p_44 m_p_44 k_p_44 hm => ?_)
    refine rx_aload_n C 1 dX7_raiseHeight_133 rfl ?_
    refine gf_181 C m_v0 k_v0 dX7_raiseHeight_134 hm (fun p_45 m_p_45 k_p_45 hm => ?_)
    obtain ⟨_, σ_46, hc_47, hm⟩ := rr_bd_some hm
    refine rr_callV (rest := []) (st1 := []) C 0 hll (c_Big_setQuotient l G hG fu p_43 m_p_43 k_p_43 p_44 m_p_44 k_p_44 p_45 m_p_45 k_p_45 σ_41 _ hc_47) q_615 q_616 q_617 q_6 q_618 hd_Big_setQuotient ⟨_, rfl, rfl⟩ (by decide) m_p_43 k_p_43 ⟨by decide, by decide⟩ rfl rfl (Nat.le_of_ble_eq_true rfl) rfl dX7_raiseHeight_137 ?_
    exact rx_vret C dX7_raiseHeight_140 hm
  exact rx_vret C dX7_raiseHeight_16 hm
def l_Seq_restDegree_11 (fu : Nat) (N : Nat → Nat) (v0 : Nat) (σ : rr_M) : Nat → Int32 → (Int32 → Option (Int32)) → Option (Int32)
  | 0, _, _ => none
  | n + 1, v2, kk =>
    if v2 < 0 then (kk v2) else
    rr_lt (mg_r σ v0 4) fun p_4 =>
    (if rr_ix v2 (N p_4) then rr_lt (mg_r σ p_4 (rr_n v2)) fun p_5 =>
    Option.bind (f_Big_signum N p_5 σ) fun r_6 =>
    if r_6 = 0 then (rr_lt (v2 + (-1)) fun v2_9 =>
    l_Seq_restDegree_11 fu N v0 σ n v2_9 kk) else
    kk v2 else none)
theorem lw_Seq_restDegree_11 {X : rr_X} {G : rr_G} {l : Launch} {fu : Nat} (hG : G.2.2.1.Nodup) (hll : X.2.1 = l) (C : rr_C X G cX7_restDegree 3 "RootRows$Sequence" (some .int) 2 41) {r : Int32}  (σ : rr_M) (v0 : Nat) (m_v0 : v0 ∈ G.2.2.1) (k_v0 : G.2.2.2.1 v0 = 5) : ∀ (n : Nat) (v2 : Int32) (K : Int32 → Option (Int32)), l_Seq_restDegree_11 fu G.2.2.2.2 v0 σ n v2 K = some r → (∀ (w2 : Int32), K w2 = some r → rr_J X G 3 (rr_E X G σ (some (.int r))) σ 33 [(2, .int w2)] []) → rr_J X G 3 (rr_E X G σ (some (.int r))) σ 11 [(0, .ref v0), (2, .int v2)] [] := by
  intro n
  induction n with
  | zero =>
    intro v2 K hm
    cases hm
  | succ n ih =>
    intro v2 K hm hk
    unfold l_Seq_restDegree_11 at hm
    refine rx_iload_n C 1 dX7_restDegree_11 rfl ?_
    refine rx_if_lt (tgt := 33) C dX7_restDegree_12 (by decide) hm (fun h_3 hm => ?_) (fun h_3 hm => ?_)
    · refine rx_lv [1] rfl ?_
      exact hk _ hm
    refine rx_aload_n C 0 dX7_restDegree_15 rfl ?_
    refine gf_177 C m_v0 k_v0 dX7_restDegree_16 hm (fun p_4 m_p_4 k_p_4 hm => ?_)
    refine rx_iload_n C 1 dX7_restDegree_19 rfl ?_
    refine rx_ald14 C m_p_4 k_p_4 dX7_restDegree_20 hm (fun p_5 m_p_5 k_p_5 hm => ?_)
    obtain ⟨r_6, hc_7, hm⟩ := rr_b0_some hm
    refine rr_callV (rest := []) (st1 := [.int r_6]) C 0 hll (c_Big_signum l G hG p_5 m_p_5 k_p_5 σ _ hc_7) q_587 q_588 q_589 q_6 q_590 hd_Big_signum ⟨_, rfl, rfl⟩ (by decide) m_p_5 k_p_5 ⟨by decide, by decide⟩ rfl rfl (Nat.le_of_ble_eq_true rfl) rfl dX7_restDegree_21 ?_
    refine rx_if_ne (tgt := 33) C dX7_restDegree_24 (by decide) hm (fun h_8 hm => ?_) (fun h_8 hm => ?_)
    · refine rx_lv [1] rfl ?_
      exact hk _ hm
    refine rx_iinc (d := (-1)) (lv1 := fun v => [(2, .int v), (0, .ref v0)]) C 1 dX7_restDegree_27 hm rfl rfl (by decide) (fun _ => rfl) (fun v2_9 hm => ?_)
    refine rx_goto (tgt := 11) C dX7_restDegree_30 (by decide) ?_
    refine rx_lv [1, 0] rfl ?_
    exact ih _ _ hm hk
def f_Seq_restDegree (fu : Nat) (N : Nat → Nat) (v0 : Nat) (v1 : Int32) (σ : rr_M) : Option (Int32) :=
    rr_lt (mg_r σ v0 1) fun p_1 =>
    (if rr_ix (v1 - 1) (N p_1) then
    rr_lt ((mg_i σ p_1 (rr_n (v1 - 1))) - 1) fun v2_2 =>
    l_Seq_restDegree_11 fu N v0 σ fu v2_2 (fun v2_10 =>
    some (v2_10)) else none)
theorem c_Seq_restDegree (l : Launch) (G : rr_G) (hG : G.2.2.1.Nodup) (fu : Nat) (v0 : Nat) (m_v0 : v0 ∈ G.2.2.1) (k_v0 : G.2.2.2.1 v0 = 5) (v1 : Int32) (σ : rr_M) (r : Int32) (hm : f_Seq_restDegree fu G.2.2.2.2 v0 v1 σ = some r) : rr_Met l G yX7_restDegree cX7_restDegree 3 (some .int) 2 41 [.ref v0, .int v1] σ σ (some (.int r)) := by
  refine rr_enter (lv0 := [(0, .ref v0), (1, .int v1)]) hp_Seq_restDegree hG (Nat.le_of_ble_eq_true rfl) rfl (fun X hll C => ?_)
  replace C : rr_C X G cX7_restDegree 3 "RootRows$Sequence" (some .int) 2 41 := C
  unfold f_Seq_restDegree at hm
  refine rx_aload_n C 0 dX7_restDegree_0 rfl ?_
  refine gf_167 C m_v0 k_v0 dX7_restDegree_1 hm (fun p_1 m_p_1 k_p_1 hm => ?_)
  refine rx_iload_n C 1 dX7_restDegree_4 rfl ?_
  refine rx_iconst (v := 1) C dX7_restDegree_5 rfl ?_
  refine rx_isub C dX7_restDegree_6 ?_
  refine rx_iald C m_p_1 k_p_1 dX7_restDegree_7 hm (fun hm => ?_)
  refine rx_iconst (v := 1) C dX7_restDegree_8 rfl ?_
  refine rx_isub C dX7_restDegree_9 ?_
  refine rx_nmi hm (fun v2_2 ev2_2 hm => ?_)
  refine rx_istore_n (lv1 := [(2, .int v2_2), (0, .ref v0), (1, .int v1)]) C dX7_restDegree_10 (by decide) rfl ?_
  refine rx_lv [1, 0] rfl ?_
  refine lw_Seq_restDegree_11 hG hll C σ v0 m_v0 k_v0 _ _ _ hm (fun v2_10 hm => ?_)
  refine rx_iload_n C 0 dX7_restDegree_33 rfl ?_
  exact rx_iretR C dX7_restDegree_34 hm
def l_Seq_shortenRest_32 (fu : Nat) (N : Nat → Nat) (v0 : Nat) (v3 : Int32) : Nat → Int32 → rr_M → (rr_M → Option (Unit × rr_M)) → Option (Unit × rr_M)
  | 0, _, _, _ => none
  | n + 1, v4, σ, kk =>
    if v3 ≤ v4 then (kk σ) else
    rr_lt (mg_r σ v0 5) fun p_9 =>
    rr_lt (mg_r σ v0 8) fun p_10 =>
    rr_lt (mg_r σ v0 11) fun p_11 =>
    rr_bd (f_Big_setProduct fu N p_9 p_10 p_11 σ) fun _ σ_12 =>
    rr_lt (mg_r σ_12 v0 8) fun p_14 =>
    rr_lt (mg_r σ_12 v0 5) fun p_15 =>
    rr_bd (f_Big_copy N p_14 p_15 σ_12) fun _ σ_16 =>
    rr_lt (v4 + 1) fun v4_18 =>
    l_Seq_shortenRest_32 fu N v0 v3 n v4_18 σ_16 kk
theorem lw_Seq_shortenRest_32 {X : rr_X} {G : rr_G} {l : Launch} {fu : Nat} (hG : G.2.2.1.Nodup) (hll : X.2.1 = l) (C : rr_C X G cX7_shortenRest 7 "RootRows$Sequence" none 3 89) {σr : rr_M} (v0 : Nat) (m_v0 : v0 ∈ G.2.2.1) (k_v0 : G.2.2.2.1 v0 = 5) (v1 : Int32) (v2 : Int32) (v3 : Int32) : ∀ (n : Nat) (v4 : Int32) (σ : rr_M) (K : rr_M → Option (Unit × rr_M)), l_Seq_shortenRest_32 fu G.2.2.2.2 v0 v3 n v4 σ K = some ((), σr) → (∀ (σ1 : rr_M), K σ1 = some ((), σr) → rr_J X G 7 (rr_E X G σr none) σ1 70 [(0, .ref v0), (1, .int v1), (2, .int v2)] []) → rr_J X G 7 (rr_E X G σr none) σ 32 [(0, .ref v0), (1, .int v1), (2, .int v2), (3, .int v3), (4, .int v4)] [] := by
  intro n
  induction n with
  | zero =>
    intro v4 σ K hm
    cases hm
  | succ n ih =>
    intro v4 σ K hm hk
    unfold l_Seq_shortenRest_32 at hm
    refine rx_iload C 4 dX7_shortenRest_32 rfl ?_
    refine rx_iload_n C 3 dX7_shortenRest_34 rfl ?_
    refine rx_icmp_ge (tgt := 70) C dX7_shortenRest_35 (by decide) hm (fun h_8 hm => ?_) (fun h_8 hm => ?_)
    · refine rx_lv [0, 1, 2] rfl ?_
      exact hk _ hm
    refine rx_aload_n C 0 dX7_shortenRest_38 rfl ?_
    refine gf_178 C m_v0 k_v0 dX7_shortenRest_39 hm (fun p_9 m_p_9 k_p_9 hm => ?_)
    refine rx_aload_n C 0 dX7_shortenRest_42 rfl ?_
    refine gf_181 C m_v0 k_v0 dX7_shortenRest_43 hm (fun p_10 m_p_10 k_p_10 hm => ?_)
    refine rx_aload_n C 0 dX7_shortenRest_46 rfl ?_
    refine gf_184 C m_v0 k_v0 dX7_shortenRest_47 hm (fun p_11 m_p_11 k_p_11 hm => ?_)
    obtain ⟨_, σ_12, hc_13, hm⟩ := rr_bd_some hm
    refine rr_callV (rest := []) (st1 := []) C 0 hll (c_Big_setProduct l G hG fu p_9 m_p_9 k_p_9 p_10 m_p_10 k_p_10 p_11 m_p_11 k_p_11 σ _ hc_13) q_575 q_576 q_577 q_6 q_578 hd_Big_setProduct ⟨_, rfl, rfl⟩ (by decide) m_p_9 k_p_9 ⟨by decide, by decide⟩ rfl rfl (Nat.le_of_ble_eq_true rfl) rfl dX7_shortenRest_50 ?_
    refine rx_aload_n C 0 dX7_shortenRest_53 rfl ?_
    refine gf_181 C m_v0 k_v0 dX7_shortenRest_54 hm (fun p_14 m_p_14 k_p_14 hm => ?_)
    refine rx_aload_n C 0 dX7_shortenRest_57 rfl ?_
    refine gf_178 C m_v0 k_v0 dX7_shortenRest_58 hm (fun p_15 m_p_15 k_p_15 hm => ?_)
    obtain ⟨_, σ_16, hc_17, hm⟩ := rr_bd_some hm
    refine rr_callV (rest := []) (st1 := []) C 0 hll (c_Big_copy l G hG p_14 m_p_14 k_p_14 p_15 m_p_15 k_p_15 σ_12 _ hc_17) q_562 q_563 q_564 q_6 q_565 hd_Big_copy ⟨_, rfl, rfl⟩ (by decide) m_p_14 k_p_14 ⟨by decide, by decide⟩ rfl rfl (Nat.le_of_ble_eq_true rfl) rfl dX7_shortenRest_61 ?_
    refine rx_iinc (d := 1) (lv1 := fun v => [(4, .int v), (0, .ref v0), (1, .int v1), (2, .int v2), (3, .int v3)]) C 4 dX7_shortenRest_64 hm rfl rfl (by decide) (fun _ => rfl) (fun v4_18 hm => ?_)
    refine rx_goto (tgt := 32) C dX7_shortenRest_67 (by decide) ?_
    refine rx_lv [1, 2, 3, 4, 0] rfl ?_
    exact ih _ _ _ hm hk
def l_Seq_shortenRest_98 (fu : Nat) (N : Nat → Nat) (v0 : Nat) (v1 : Int32) (v2 : Int32) (v4 : Int32) : Nat → Int32 → rr_M → (rr_M → Option (Unit × rr_M)) → Option (Unit × rr_M)
  | 0, _, _, _ => none
  | n + 1, v5, σ, kk =>
    if 9 ≤ v5 then (kk σ) else
    rr_lt (mg_r σ v0 0) fun p_30 =>
    (if rr_ix ((v1 * 9) + v5) (N p_30) then rr_lt (mg_r σ p_30 (rr_n ((v1 * 9) + v5))) fun p_31 =>
    rr_jn (fun (σ_32 : rr_M) =>
    rr_lt (v5 + 1) fun v5_33 =>
    l_Seq_shortenRest_98 fu N v0 v1 v2 v4 n v5_33 σ_32 kk) fun j162 =>
    if v5 ≤ v2 then (rr_lt (mg_r σ v0 4) fun p_35 =>
    (if rr_ix v5 (N p_35) then rr_lt (mg_r σ p_35 (rr_n v5)) fun p_36 =>
    rr_bd (f_Big_shiftDown fu N p_36 v4 σ) fun _ σ_37 =>
    rr_lt (mg_r σ_37 v0 4) fun p_39 =>
    (if rr_ix v5 (N p_39) then rr_lt (mg_r σ_37 p_39 (rr_n v5)) fun p_40 =>
    rr_lt (mg_r σ_37 v0 8) fun p_41 =>
    rr_bd (f_Big_setQuotient fu N p_31 p_40 p_41 σ_37) fun _ σ_42 =>
    j162 σ_42 else none) else none)) else
    rr_bd (f_Big_set fu N p_31 0 σ) fun _ σ_44 =>
    j162 σ_44 else none)
theorem lw_Seq_shortenRest_98 {X : rr_X} {G : rr_G} {l : Launch} {fu : Nat} (hG : G.2.2.1.Nodup) (hll : X.2.1 = l) (C : rr_C X G cX7_shortenRest 7 "RootRows$Sequence" none 3 89) {σr : rr_M} (v0 : Nat) (m_v0 : v0 ∈ G.2.2.1) (k_v0 : G.2.2.2.1 v0 = 5) (v1 : Int32) (v2 : Int32) (v4 : Int32) : ∀ (n : Nat) (v5 : Int32) (σ : rr_M) (K : rr_M → Option (Unit × rr_M)), l_Seq_shortenRest_98 fu G.2.2.2.2 v0 v1 v2 v4 n v5 σ K = some ((), σr) → (∀ (σ1 : rr_M), K σ1 = some ((), σr) → rr_J X G 7 (rr_E X G σr none) σ1 168 [(0, .ref v0), (1, .int v1), (2, .int v2)] []) → rr_J X G 7 (rr_E X G σr none) σ 98 [(0, .ref v0), (1, .int v1), (2, .int v2), (4, .int v4), (5, .int v5)] [] := by
  intro n
  induction n with
  | zero =>
    intro v5 σ K hm
    cases hm
  | succ n ih =>
    intro v5 σ K hm hk
    unfold l_Seq_shortenRest_98 at hm
    refine rx_iload C 4 dX7_shortenRest_98 rfl ?_
    refine rx_bipush (v := 9) C dX7_shortenRest_100 rfl ?_
    refine rx_icmp_ge (tgt := 168) C dX7_shortenRest_102 (by decide) hm (fun h_29 hm => ?_) (fun h_29 hm => ?_)
    · refine rx_lv [0, 1, 2] rfl ?_
      exact hk _ hm
    refine rx_aload_n C 0 dX7_shortenRest_105 rfl ?_
    refine gf_165 C m_v0 k_v0 dX7_shortenRest_106 hm (fun p_30 m_p_30 k_p_30 hm => ?_)
    refine rx_iload_n C 1 dX7_shortenRest_109 rfl ?_
    refine rx_bipush (v := 9) C dX7_shortenRest_110 rfl ?_
    refine rx_imul C dX7_shortenRest_112 ?_
    refine rx_iload C 4 dX7_shortenRest_113 rfl ?_
    refine rx_iadd C dX7_shortenRest_115 ?_
    refine rx_ald14 C m_p_30 k_p_30 dX7_shortenRest_116 hm (fun p_31 m_p_31 k_p_31 hm => ?_)
    refine rx_astore (lv1 := [(6, .ref p_31), (0, .ref v0), (1, .int v1), (2, .int v2), (4, .int v4), (5, .int v5)]) C dX7_shortenRest_117 (by decide) rfl ?_
    refine rx_iload C 5 dX7_shortenRest_119 rfl ?_
    refine rx_iload_n C 3 dX7_shortenRest_121 rfl ?_
    refine rr_jn1 hm (fun j162 ej162 hm => ?_)
    have hj162 : ∀ (σ_32 : rr_M), j162 σ_32 = some ((), σr) → rr_J X G 7 (rr_E X G σr none) σ_32 162 [(0, .ref v0), (1, .int v1), (2, .int v2), (4, .int v4), (5, .int v5)] [] := by
      intro σ_32 hm
      replace hm := ej162 _ hm
      refine rx_iinc (d := 1) (lv1 := fun v => [(5, .int v), (0, .ref v0), (1, .int v1), (2, .int v2), (4, .int v4)]) C 4 dX7_shortenRest_162 hm rfl rfl (by decide) (fun _ => rfl) (fun v5_33 hm => ?_)
      refine rx_goto (tgt := 98) C dX7_shortenRest_165 (by decide) ?_
      refine rx_lv [1, 2, 3, 4, 0] rfl ?_
      exact ih _ _ _ hm hk
    refine rx_icmp_le (tgt := 134) C dX7_shortenRest_122 (by decide) hm (fun h_34 hm => ?_) (fun h_34 hm => ?_)
    · refine rx_aload_n C 1 dX7_shortenRest_134 rfl ?_
      refine gf_177 C m_v0 k_v0 dX7_shortenRest_135 hm (fun p_35 m_p_35 k_p_35 hm => ?_)
      refine rx_iload C 5 dX7_shortenRest_138 rfl ?_
      refine rx_ald14 C m_p_35 k_p_35 dX7_shortenRest_140 hm (fun p_36 m_p_36 k_p_36 hm => ?_)
      refine rx_iload C 4 dX7_shortenRest_141 rfl ?_
      obtain ⟨_, σ_37, hc_38, hm⟩ := rr_bd_some hm
      refine rr_callV (rest := []) (st1 := []) C 0 hll (c_Big_shiftDown l G hG fu p_36 m_p_36 k_p_36 v4 σ _ hc_38) q_607 q_608 q_609 q_6 q_610 hd_Big_shiftDown ⟨_, rfl, rfl⟩ (by decide) m_p_36 k_p_36 ⟨by decide, by decide⟩ rfl rfl (Nat.le_of_ble_eq_true rfl) rfl dX7_shortenRest_143 ?_
      refine rx_aload C 0 dX7_shortenRest_146 rfl ?_
      refine rx_aload_n C 1 dX7_shortenRest_148 rfl ?_
      refine gf_177 C m_v0 k_v0 dX7_shortenRest_149 hm (fun p_39 m_p_39 k_p_39 hm => ?_)
      refine rx_iload C 5 dX7_shortenRest_152 rfl ?_
      refine rx_ald14 C m_p_39 k_p_39 dX7_shortenRest_154 hm (fun p_40 m_p_40 k_p_40 hm => ?_)
      refine rx_aload_n C 1 dX7_shortenRest_155 rfl ?_
      refine gf_181 C m_v0 k_v0 dX7_shortenRest_156 hm (fun p_41 m_p_41 k_p_41 hm => ?_)
      obtain ⟨_, σ_42, hc_43, hm⟩ := rr_bd_some hm
      refine rr_callV (rest := []) (st1 := []) C 0 hll (c_Big_setQuotient l G hG fu p_31 m_p_31 k_p_31 p_40 m_p_40 k_p_40 p_41 m_p_41 k_p_41 σ_37 _ hc_43) q_615 q_616 q_617 q_6 q_618 hd_Big_setQuotient ⟨_, rfl, rfl⟩ (by decide) m_p_31 k_p_31 ⟨by decide, by decide⟩ rfl rfl (Nat.le_of_ble_eq_true rfl) rfl dX7_shortenRest_159 ?_
      refine rx_lv [1, 2, 3, 4, 5] rfl ?_
      exact hj162 _ hm
    refine rx_aload C 0 dX7_shortenRest_125 rfl ?_
    refine rx_lconst (v := 0) C dX7_shortenRest_127 rfl ?_
    obtain ⟨_, σ_44, hc_45, hm⟩ := rr_bd_some hm
    refine rr_callV (rest := []) (st1 := []) C 0 hll (c_Big_set l G hG fu p_31 m_p_31 k_p_31 0 σ _ hc_45) q_557 q_271 q_272 q_6 q_273 hd_Big_set ⟨_, rfl, rfl⟩ (by decide) m_p_31 k_p_31 ⟨by decide, by decide⟩ rfl rfl (Nat.le_of_ble_eq_true rfl) rfl dX7_shortenRest_128 ?_
    refine rx_goto (tgt := 162) C dX7_shortenRest_131 (by decide) ?_
    refine rx_lv [1, 2, 3, 4, 5] rfl ?_
    exact hj162 _ hm
def f_Seq_shortenRest (fu : Nat) (N : Nat → Nat) (v0 : Nat) (v1 : Int32) (v2 : Int32) (σ : rr_M) : Option (Unit × rr_M) :=
    rr_lt (mg_r σ v0 1) fun p_1 =>
    (if rr_ix (v1 - 2) (N p_1) then
    rr_lt (mg_r σ v0 1) fun p_2 =>
    (if rr_ix (v1 - 1) (N p_2) then
    rr_lt ((mg_i σ p_1 (rr_n (v1 - 2))) - (mg_i σ p_2 (rr_n (v1 - 1)))) fun v3_3 =>
    rr_lt (mg_r σ v0 8) fun p_4 =>
    rr_lt (mg_r σ v0 10) fun p_5 =>
    rr_bd (f_Big_copy N p_4 p_5 σ) fun _ σ_6 =>
    l_Seq_shortenRest_32 fu N v0 v3_3 fu 0 σ_6 (fun σ_19 =>
    rr_lt (mg_r σ_19 v0 8) fun p_20 =>
    rr_bd (f_Big_negate fu N p_20 σ_19) fun _ σ_21 =>
    rr_lt (mg_r σ_21 v0 8) fun p_23 =>
    Option.bind (f_Big_trailingZeros fu N p_23 σ_21) fun r_24 =>
    rr_lt (mg_r σ_21 v0 8) fun p_26 =>
    rr_bd (f_Big_shiftDown fu N p_26 r_24 σ_21) fun _ σ_27 =>
    l_Seq_shortenRest_98 fu N v0 v1 v2 r_24 fu 0 σ_27 (fun σ_46 =>
    rr_lt (mg_r σ_46 v0 1) fun p_47 =>
    (if rr_ix v1 (N p_47) then rr_lt (ms_i σ_46 p_47 (rr_n v1) v2) fun σ_48 =>
    rr_lt (mg_r σ_48 v0 2) fun p_49 =>
    rr_lt (mg_r σ_48 v0 0) fun p_50 =>
    (if rr_ix ((v1 * 9) + v2) (N p_50) then rr_lt (mg_r σ_48 p_50 (rr_n ((v1 * 9) + v2))) fun p_51 =>
    Option.bind (f_Big_signum N p_51 σ_48) fun r_52 =>
    (if rr_ix v1 (N p_49) then rr_lt (ms_i σ_48 p_49 (rr_n v1) r_52) fun σ_54 =>
    some ((), σ_54) else none) else none) else none))) else none) else none)
theorem c_Seq_shortenRest (l : Launch) (G : rr_G) (hG : G.2.2.1.Nodup) (fu : Nat) (v0 : Nat) (m_v0 : v0 ∈ G.2.2.1) (k_v0 : G.2.2.2.1 v0 = 5) (v1 : Int32) (v2 : Int32) (σ : rr_M) (σr : rr_M) (hm : f_Seq_shortenRest fu G.2.2.2.2 v0 v1 v2 σ = some ((), σr)) : rr_Met l G yX7_shortenRest cX7_shortenRest 7 none 3 89 [.ref v0, .int v1, .int v2] σ σr none := by
  refine rr_enter (lv0 := [(0, .ref v0), (1, .int v1), (2, .int v2)]) hp_Seq_shortenRest hG (Nat.le_of_ble_eq_true rfl) rfl (fun X hll C => ?_)
  replace C : rr_C X G cX7_shortenRest 7 "RootRows$Sequence" none 3 89 := C
  unfold f_Seq_shortenRest at hm
  refine rx_aload_n C 0 dX7_shortenRest_0 rfl ?_
  refine gf_167 C m_v0 k_v0 dX7_shortenRest_1 hm (fun p_1 m_p_1 k_p_1 hm => ?_)
  refine rx_iload_n C 1 dX7_shortenRest_4 rfl ?_
  refine rx_iconst (v := 2) C dX7_shortenRest_5 rfl ?_
  refine rx_isub C dX7_shortenRest_6 ?_
  refine rx_iald C m_p_1 k_p_1 dX7_shortenRest_7 hm (fun hm => ?_)
  refine rx_aload_n C 0 dX7_shortenRest_8 rfl ?_
  refine gf_167 C m_v0 k_v0 dX7_shortenRest_9 hm (fun p_2 m_p_2 k_p_2 hm => ?_)
  refine rx_iload_n C 1 dX7_shortenRest_12 rfl ?_
  refine rx_iconst (v := 1) C dX7_shortenRest_13 rfl ?_
  refine rx_isub C dX7_shortenRest_14 ?_
  refine rx_iald C m_p_2 k_p_2 dX7_shortenRest_15 hm (fun hm => ?_)
  refine rx_isub C dX7_shortenRest_16 ?_
  refine rx_nmi hm (fun v3_3 ev3_3 hm => ?_)
  refine rx_istore_n (lv1 := [(3, .int v3_3), (0, .ref v0), (1, .int v1), (2, .int v2)]) C dX7_shortenRest_17 (by decide) rfl ?_
  refine rx_aload_n C 1 dX7_shortenRest_18 rfl ?_
  refine gf_181 C m_v0 k_v0 dX7_shortenRest_19 hm (fun p_4 m_p_4 k_p_4 hm => ?_)
  refine rx_aload_n C 1 dX7_shortenRest_22 rfl ?_
  refine gf_183 C m_v0 k_v0 dX7_shortenRest_23 hm (fun p_5 m_p_5 k_p_5 hm => ?_)
  obtain ⟨_, σ_6, hc_7, hm⟩ := rr_bd_some hm
  refine rr_callV (rest := []) (st1 := []) C 0 hll (c_Big_copy l G hG p_4 m_p_4 k_p_4 p_5 m_p_5 k_p_5 σ _ hc_7) q_562 q_563 q_564 q_6 q_565 hd_Big_copy ⟨_, rfl, rfl⟩ (by decide) m_p_4 k_p_4 ⟨by decide, by decide⟩ rfl rfl (Nat.le_of_ble_eq_true rfl) rfl dX7_shortenRest_26 ?_
  refine rx_iconst (v := 0) C dX7_shortenRest_29 rfl ?_
  refine rx_istore (lv1 := [(4, .int 0), (3, .int v3_3), (0, .ref v0), (1, .int v1), (2, .int v2)]) C dX7_shortenRest_30 (by decide) rfl ?_
  refine rx_lv [2, 3, 4, 1, 0] rfl ?_
  refine lw_Seq_shortenRest_32 hG hll C v0 m_v0 k_v0 v1 v2 v3_3 _ _ _ _ hm (fun σ_19 hm => ?_)
  refine rx_aload_n C 0 dX7_shortenRest_70 rfl ?_
  refine gf_181 C m_v0 k_v0 dX7_shortenRest_71 hm (fun p_20 m_p_20 k_p_20 hm => ?_)
  obtain ⟨_, σ_21, hc_22, hm⟩ := rr_bd_some hm
  refine rr_callV (rest := []) (st1 := []) C 0 hll (c_Big_negate l G hG fu p_20 m_p_20 k_p_20 σ_19 _ hc_22) q_571 q_572 q_573 q_6 q_574 hd_Big_negate ⟨_, rfl, rfl⟩ (by decide) m_p_20 k_p_20 ⟨by decide, by decide⟩ rfl rfl (Nat.le_of_ble_eq_true rfl) rfl dX7_shortenRest_74 ?_
  refine rx_aload_n C 0 dX7_shortenRest_77 rfl ?_
  refine gf_181 C m_v0 k_v0 dX7_shortenRest_78 hm (fun p_23 m_p_23 k_p_23 hm => ?_)
  obtain ⟨r_24, hc_25, hm⟩ := rr_b0_some hm
  refine rr_callV (rest := []) (st1 := [.int r_24]) C 0 hll (c_Big_trailingZeros l G hG fu p_23 m_p_23 k_p_23 σ_21 _ hc_25) q_596 q_597 q_598 q_6 q_599 hd_Big_trailingZeros ⟨_, rfl, rfl⟩ (by decide) m_p_23 k_p_23 ⟨by decide, by decide⟩ rfl rfl (Nat.le_of_ble_eq_true rfl) rfl dX7_shortenRest_81 ?_
  refine rx_istore (lv1 := [(4, .int r_24), (0, .ref v0), (1, .int v1), (2, .int v2)]) C dX7_shortenRest_84 (by decide) rfl ?_
  refine rx_aload_n C 1 dX7_shortenRest_86 rfl ?_
  refine gf_181 C m_v0 k_v0 dX7_shortenRest_87 hm (fun p_26 m_p_26 k_p_26 hm => ?_)
  refine rx_iload C 0 dX7_shortenRest_90 rfl ?_
  obtain ⟨_, σ_27, hc_28, hm⟩ := rr_bd_some hm
  refine rr_callV (rest := []) (st1 := []) C 0 hll (c_Big_shiftDown l G hG fu p_26 m_p_26 k_p_26 r_24 σ_21 _ hc_28) q_607 q_608 q_609 q_6 q_610 hd_Big_shiftDown ⟨_, rfl, rfl⟩ (by decide) m_p_26 k_p_26 ⟨by decide, by decide⟩ rfl rfl (Nat.le_of_ble_eq_true rfl) rfl dX7_shortenRest_92 ?_
  refine rx_iconst (v := 0) C dX7_shortenRest_95 rfl ?_
  refine rx_istore (lv1 := [(5, .int 0), (4, .int r_24), (0, .ref v0), (1, .int v1), (2, .int v2)]) C dX7_shortenRest_96 (by decide) rfl ?_
  refine rx_lv [2, 3, 4, 1, 0] rfl ?_
  refine lw_Seq_shortenRest_98 hG hll C v0 m_v0 k_v0 v1 v2 r_24 _ _ _ _ hm (fun σ_46 hm => ?_)
  refine rx_aload_n C 0 dX7_shortenRest_168 rfl ?_
  refine gf_167 C m_v0 k_v0 dX7_shortenRest_169 hm (fun p_47 m_p_47 k_p_47 hm => ?_)
  refine rx_iload_n C 1 dX7_shortenRest_172 rfl ?_
  refine rx_iload_n C 2 dX7_shortenRest_173 rfl ?_
  refine rx_iast C m_p_47 k_p_47 dX7_shortenRest_174 hm (fun σ_48 hm => ?_)
  refine rx_aload_n C 0 dX7_shortenRest_175 rfl ?_
  refine gf_170 C m_v0 k_v0 dX7_shortenRest_176 hm (fun p_49 m_p_49 k_p_49 hm => ?_)
  refine rx_iload_n C 1 dX7_shortenRest_179 rfl ?_
  refine rx_aload_n C 0 dX7_shortenRest_180 rfl ?_
  refine gf_165 C m_v0 k_v0 dX7_shortenRest_181 hm (fun p_50 m_p_50 k_p_50 hm => ?_)
  refine rx_iload_n C 1 dX7_shortenRest_184 rfl ?_
  refine rx_bipush (v := 9) C dX7_shortenRest_185 rfl ?_
  refine rx_imul C dX7_shortenRest_187 ?_
  refine rx_iload_n C 2 dX7_shortenRest_188 rfl ?_
  refine rx_iadd C dX7_shortenRest_189 ?_
  refine rx_ald14 C m_p_50 k_p_50 dX7_shortenRest_190 hm (fun p_51 m_p_51 k_p_51 hm => ?_)
  obtain ⟨r_52, hc_53, hm⟩ := rr_b0_some hm
  refine rr_callV (rest := [.int v1, .ref p_49]) (st1 := [.int r_52, .int v1, .ref p_49]) C 0 hll (c_Big_signum l G hG p_51 m_p_51 k_p_51 σ_48 _ hc_53) q_587 q_588 q_589 q_6 q_590 hd_Big_signum ⟨_, rfl, rfl⟩ (by decide) m_p_51 k_p_51 ⟨by decide, by decide⟩ rfl rfl (Nat.le_of_ble_eq_true rfl) rfl dX7_shortenRest_191 ?_
  refine rx_iast C m_p_49 k_p_49 dX7_shortenRest_194 hm (fun σ_54 hm => ?_)
  exact rx_vret C dX7_shortenRest_195 hm
def l_Seq_run_48 (fu : Nat) (N : Nat → Nat) (v0 : Nat) : Nat → Int32 → rr_M → (rr_M → Option (Unit × rr_M)) → Option (Unit × rr_M)
  | 0, _, _, _ => none
  | n + 1, v3, σ, kk =>
    if 10 ≤ v3 then (kk σ) else
    if (mg_i σ v0 3) = v3 then (rr_lt (mg_r σ v0 1) fun p_16 =>
    (if rr_ix (v3 - 1) (N p_16) then
    if (mg_i σ p_16 (rr_n (v3 - 1))) ≤ 0 then (kk σ) else
    rr_bd (f_Seq_formRest fu N v0 v3 σ) fun _ σ_18 =>
    Option.bind (f_Seq_restDegree fu N v0 v3 σ_18) fun r_20 =>
    rr_jn (fun (σ_22 : rr_M) =>
    rr_lt (v3 + 1) fun v3_23 =>
    l_Seq_run_48 fu N v0 n v3_23 σ_22 kk) fun j125 =>
    if r_20 < 0 then (j125 σ_18) else
    rr_bd (f_Seq_shortenRest fu N v0 v3 r_20 σ_18) fun _ σ_25 =>
    rr_lt (mg_r σ_25 v0 1) fun p_27 =>
    (if rr_ix (v3 - 2) (N p_27) then
    rr_lt (mg_r σ_25 v0 1) fun p_28 =>
    (if rr_ix (v3 - 1) (N p_28) then
    rr_bd (f_Seq_raiseHeight fu N v0 ((mg_i σ_25 p_27 (rr_n (v3 - 2))) - (mg_i σ_25 p_28 (rr_n (v3 - 1)))) σ_25) fun _ σ_29 =>
    rr_lt (ms_i σ_29 v0 3 (v3 + 1)) fun σ_31 =>
    j125 σ_31 else none) else none) else none)) else
    kk σ
theorem lw_Seq_run_48 {X : rr_X} {G : rr_G} {l : Launch} {fu : Nat} (hG : G.2.2.1.Nodup) (hll : X.2.1 = l) (C : rr_C X G cX7_run 5 "RootRows$Sequence" none 4 117) {σr : rr_M} (v0 : Nat) (m_v0 : v0 ∈ G.2.2.1) (k_v0 : G.2.2.2.1 v0 = 5) : ∀ (n : Nat) (v3 : Int32) (σ : rr_M) (K : rr_M → Option (Unit × rr_M)), l_Seq_run_48 fu G.2.2.2.2 v0 n v3 σ K = some ((), σr) → (∀ (σ1 : rr_M), K σ1 = some ((), σr) → rr_J X G 5 (rr_E X G σr none) σ1 131 [] []) → rr_J X G 5 (rr_E X G σr none) σ 48 [(0, .ref v0), (3, .int v3)] [] := by
  intro n
  induction n with
  | zero =>
    intro v3 σ K hm
    cases hm
  | succ n ih =>
    intro v3 σ K hm hk
    unfold l_Seq_run_48 at hm
    refine rx_iload_n C 1 dX7_run_48 rfl ?_
    refine rx_bipush (v := 10) C dX7_run_49 rfl ?_
    refine rx_icmp_ge (tgt := 131) C dX7_run_51 (by decide) hm (fun h_14 hm => ?_) (fun h_14 hm => ?_)
    · refine rx_lv [] rfl ?_
      exact hk _ hm
    refine rx_aload_n C 0 dX7_run_54 rfl ?_
    refine gf_174 C m_v0 k_v0 dX7_run_55 ?_
    refine rx_iload_n C 1 dX7_run_58 rfl ?_
    refine rx_icmp_ne (tgt := 131) C dX7_run_59 (by decide) hm (fun h_15 hm => ?_) (fun h_15 hm => ?_)
    · refine rx_lv [] rfl ?_
      exact hk _ hm
    refine rx_aload_n C 0 dX7_run_62 rfl ?_
    refine gf_167 C m_v0 k_v0 dX7_run_63 hm (fun p_16 m_p_16 k_p_16 hm => ?_)
    refine rx_iload_n C 1 dX7_run_66 rfl ?_
    refine rx_iconst (v := 1) C dX7_run_67 rfl ?_
    refine rx_isub C dX7_run_68 ?_
    refine rx_iald C m_p_16 k_p_16 dX7_run_69 hm (fun hm => ?_)
    refine rx_if_le (tgt := 131) C dX7_run_70 (by decide) hm (fun h_17 hm => ?_) (fun h_17 hm => ?_)
    · refine rx_lv [] rfl ?_
      exact hk _ hm
    refine rx_aload_n C 0 dX7_run_73 rfl ?_
    refine rx_iload_n C 1 dX7_run_74 rfl ?_
    obtain ⟨_, σ_18, hc_19, hm⟩ := rr_bd_some hm
    refine rr_callV (rest := []) (st1 := []) C 5 hll (c_Seq_formRest l G hG fu v0 m_v0 k_v0 v3 σ _ hc_19) q_558 q_560 qs_18 q_5 q_561 hd_Seq_formRest ⟨_, rfl, rfl⟩ (by decide) m_v0 k_v0 ⟨by decide, by decide⟩ rfl rfl (Nat.le_of_ble_eq_true rfl) rfl dX7_run_75 ?_
    refine rx_aload_n C 0 dX7_run_78 rfl ?_
    refine rx_iload_n C 1 dX7_run_79 rfl ?_
    obtain ⟨r_20, hc_21, hm⟩ := rr_b0_some hm
    refine rr_callV (rest := []) (st1 := [.int r_20]) C 5 hll (c_Seq_restDegree l G hG fu v0 m_v0 k_v0 v3 σ_18 _ hc_21) q_583 q_585 qs_20 q_5 q_586 hd_Seq_restDegree ⟨_, rfl, rfl⟩ (by decide) m_v0 k_v0 ⟨by decide, by decide⟩ rfl rfl (Nat.le_of_ble_eq_true rfl) rfl dX7_run_80 ?_
    refine rx_istore (lv1 := [(4, .int r_20), (0, .ref v0), (3, .int v3)]) C dX7_run_83 (by decide) rfl ?_
    refine rx_iload C 0 dX7_run_85 rfl ?_
    refine rr_jn1 hm (fun j125 ej125 hm => ?_)
    have hj125 : ∀ (σ_22 : rr_M), j125 σ_22 = some ((), σr) → rr_J X G 5 (rr_E X G σr none) σ_22 125 [(0, .ref v0), (3, .int v3)] [] := by
      intro σ_22 hm
      replace hm := ej125 _ hm
      refine rx_iinc (d := 1) (lv1 := fun v => [(3, .int v), (0, .ref v0)]) C 1 dX7_run_125 hm rfl rfl (by decide) (fun _ => rfl) (fun v3_23 hm => ?_)
      refine rx_goto (tgt := 48) C dX7_run_128 (by decide) ?_
      refine rx_lv [1, 0] rfl ?_
      exact ih _ _ _ hm hk
    refine rx_if_lt (tgt := 125) C dX7_run_87 (by decide) hm (fun h_24 hm => ?_) (fun h_24 hm => ?_)
    · refine rx_lv [1, 2] rfl ?_
      exact hj125 _ hm
    refine rx_aload_n C 1 dX7_run_90 rfl ?_
    refine rx_iload_n C 2 dX7_run_91 rfl ?_
    refine rx_iload C 0 dX7_run_92 rfl ?_
    obtain ⟨_, σ_25, hc_26, hm⟩ := rr_bd_some hm
    refine rr_callV (rest := []) (st1 := []) C 5 hll (c_Seq_shortenRest l G hG fu v0 m_v0 k_v0 v3 r_20 σ_18 _ hc_26) q_592 q_594 qs_21 q_5 q_595 hd_Seq_shortenRest ⟨_, rfl, rfl⟩ (by decide) m_v0 k_v0 ⟨by decide, by decide⟩ rfl rfl (Nat.le_of_ble_eq_true rfl) rfl dX7_run_94 ?_
    refine rx_aload_n C 1 dX7_run_97 rfl ?_
    refine rx_aload_n C 1 dX7_run_98 rfl ?_
    refine gf_167 C m_v0 k_v0 dX7_run_99 hm (fun p_27 m_p_27 k_p_27 hm => ?_)
    refine rx_iload_n C 2 dX7_run_102 rfl ?_
    refine rx_iconst (v := 2) C dX7_run_103 rfl ?_
    refine rx_isub C dX7_run_104 ?_
    refine rx_iald C m_p_27 k_p_27 dX7_run_105 hm (fun hm => ?_)
    refine rx_aload_n C 1 dX7_run_106 rfl ?_
    refine gf_167 C m_v0 k_v0 dX7_run_107 hm (fun p_28 m_p_28 k_p_28 hm => ?_)
    refine rx_iload_n C 2 dX7_run_110 rfl ?_
    refine rx_iconst (v := 1) C dX7_run_111 rfl ?_
    refine rx_isub C dX7_run_112 ?_
    refine rx_iald C m_p_28 k_p_28 dX7_run_113 hm (fun hm => ?_)
    refine rx_isub C dX7_run_114 ?_
    obtain ⟨_, σ_29, hc_30, hm⟩ := rr_bd_some hm
    refine rr_callV (rest := []) (st1 := []) C 5 hll (c_Seq_raiseHeight l G hG fu v0 m_v0 k_v0 ((mg_i σ_25 p_27 (rr_n (v3 - 2))) - (mg_i σ_25 p_28 (rr_n (v3 - 1)))) σ_25 _ hc_30) q_624 q_626 qs_23 q_5 q_627 hd_Seq_raiseHeight ⟨_, rfl, rfl⟩ (by decide) m_v0 k_v0 ⟨by decide, by decide⟩ rfl rfl (Nat.le_of_ble_eq_true rfl) rfl dX7_run_115 ?_
    refine rx_aload_n C 1 dX7_run_118 rfl ?_
    refine rx_iload_n C 2 dX7_run_119 rfl ?_
    refine rx_iconst (v := 1) C dX7_run_120 rfl ?_
    refine rx_iadd C dX7_run_121 ?_
    refine pf_174 C m_v0 k_v0 dX7_run_122 hm (fun σ_31 hm => ?_)
    refine rx_lv [1, 2] rfl ?_
    exact hj125 _ hm
def f_Seq_run (fu : Nat) (N : Nat → Nat) (v0 : Nat) (v1 : Nat) (v2 : Nat) (σ : rr_M) : Option (Unit × rr_M) :=
    rr_bd (f_Seq_load fu N v0 0 v1 σ) fun _ σ_1 =>
    rr_bd (f_Seq_load fu N v0 1 v2 σ_1) fun _ σ_3 =>
    rr_lt (mg_r σ_3 v0 1) fun p_5 =>
    (if rr_ix 1 (N p_5) then
    rr_jn (fun (t_6 : Int32) =>
    rr_lt (ms_i σ_3 v0 3 t_6) fun σ_7 =>
    rr_lt (mg_r σ_7 v0 10) fun p_8 =>
    rr_bd (f_Big_set fu N p_8 1 σ_7) fun _ σ_9 =>
    rr_lt (mg_r σ_9 v0 11) fun p_11 =>
    rr_bd (f_Big_set fu N p_11 1 σ_9) fun _ σ_12 =>
    l_Seq_run_48 fu N v0 fu 2 σ_12 (fun σ_32 =>
    some ((), σ_32))) fun j27 =>
    if 0 ≤ (mg_i σ_3 p_5 (rr_n 1)) then (j27 2) else
    j27 1 else none)
theorem c_Seq_run (l : Launch) (G : rr_G) (hG : G.2.2.1.Nodup) (fu : Nat) (v0 : Nat) (m_v0 : v0 ∈ G.2.2.1) (k_v0 : G.2.2.2.1 v0 = 5) (v1 : Nat) (m_v1 : v1 ∈ G.2.2.1) (k_v1 : G.2.2.2.1 v1 = 12) (v2 : Nat) (m_v2 : v2 ∈ G.2.2.1) (k_v2 : G.2.2.2.1 v2 = 12) (σ : rr_M) (σr : rr_M) (hm : f_Seq_run fu G.2.2.2.2 v0 v1 v2 σ = some ((), σr)) : rr_Met l G yX7_run cX7_run 5 none 4 117 [.ref v0, .ref v1, .ref v2] σ σr none := by
  refine rr_enter (lv0 := [(0, .ref v0), (1, .ref v1), (2, .ref v2)]) hp_Seq_run hG (Nat.le_of_ble_eq_true rfl) rfl (fun X hll C => ?_)
  replace C : rr_C X G cX7_run 5 "RootRows$Sequence" none 4 117 := C
  unfold f_Seq_run at hm
  refine rx_aload_n C 0 dX7_run_0 rfl ?_
  refine rx_iconst (v := 0) C dX7_run_1 rfl ?_
  refine rx_aload_n C 1 dX7_run_2 rfl ?_
  obtain ⟨_, σ_1, hc_2, hm⟩ := rr_bd_some hm
  refine rr_callV (rest := []) (st1 := []) C 5 hll (c_Seq_load l G hG fu v0 m_v0 k_v0 0 v1 m_v1 k_v1 σ _ hc_2) q_549 q_551 qs_17 q_5 q_552 hd_Seq_load ⟨_, rfl, rfl⟩ (by decide) m_v0 k_v0 ⟨by decide, by decide⟩ rfl rfl (Nat.le_of_ble_eq_true rfl) rfl dX7_run_3 ?_
  refine rx_aload_n C 0 dX7_run_6 rfl ?_
  refine rx_iconst (v := 1) C dX7_run_7 rfl ?_
  refine rx_aload_n C 2 dX7_run_8 rfl ?_
  obtain ⟨_, σ_3, hc_4, hm⟩ := rr_bd_some hm
  refine rr_callV (rest := []) (st1 := []) C 5 hll (c_Seq_load l G hG fu v0 m_v0 k_v0 1 v2 m_v2 k_v2 σ_1 _ hc_4) q_549 q_551 qs_17 q_5 q_552 hd_Seq_load ⟨_, rfl, rfl⟩ (by decide) m_v0 k_v0 ⟨by decide, by decide⟩ rfl rfl (Nat.le_of_ble_eq_true rfl) rfl dX7_run_9 ?_
  refine rx_aload_n C 0 dX7_run_12 rfl ?_
  refine rx_aload_n C 0 dX7_run_13 rfl ?_
  refine gf_167 C m_v0 k_v0 dX7_run_14 hm (fun p_5 m_p_5 k_p_5 hm => ?_)
  refine rx_iconst (v := 1) C dX7_run_17 rfl ?_
  refine rx_iald C m_p_5 k_p_5 dX7_run_18 hm (fun hm => ?_)
  refine rr_jn1 hm (fun j27 ej27 hm => ?_)
  have hj27 : ∀ (t_6 : Int32), j27 t_6 = some ((), σr) → rr_J X G 5 (rr_E X G σr none) σ_3 27 [(0, .ref v0)] [.int t_6, .ref v0] := by
    intro t_6 hm
    replace hm := ej27 _ hm
    refine pf_174 C m_v0 k_v0 dX7_run_27 hm (fun σ_7 hm => ?_)
    refine rx_aload_n C 0 dX7_run_30 rfl ?_
    refine gf_183 C m_v0 k_v0 dX7_run_31 hm (fun p_8 m_p_8 k_p_8 hm => ?_)
    refine rx_lconst (v := 1) C dX7_run_34 rfl ?_
    obtain ⟨_, σ_9, hc_10, hm⟩ := rr_bd_some hm
    refine rr_callV (rest := []) (st1 := []) C 0 hll (c_Big_set l G hG fu p_8 m_p_8 k_p_8 1 σ_7 _ hc_10) q_557 q_271 q_272 q_6 q_273 hd_Big_set ⟨_, rfl, rfl⟩ (by decide) m_p_8 k_p_8 ⟨by decide, by decide⟩ rfl rfl (Nat.le_of_ble_eq_true rfl) rfl dX7_run_35 ?_
    refine rx_aload_n C 0 dX7_run_38 rfl ?_
    refine gf_184 C m_v0 k_v0 dX7_run_39 hm (fun p_11 m_p_11 k_p_11 hm => ?_)
    refine rx_lconst (v := 1) C dX7_run_42 rfl ?_
    obtain ⟨_, σ_12, hc_13, hm⟩ := rr_bd_some hm
    refine rr_callV (rest := []) (st1 := []) C 0 hll (c_Big_set l G hG fu p_11 m_p_11 k_p_11 1 σ_9 _ hc_13) q_557 q_271 q_272 q_6 q_273 hd_Big_set ⟨_, rfl, rfl⟩ (by decide) m_p_11 k_p_11 ⟨by decide, by decide⟩ rfl rfl (Nat.le_of_ble_eq_true rfl) rfl dX7_run_43 ?_
    refine rx_iconst (v := 2) C dX7_run_46 rfl ?_
    refine rx_istore_n (lv1 := [(3, .int 2), (0, .ref v0)]) C dX7_run_47 (by decide) rfl ?_
    refine rx_lv [1, 0] rfl ?_
    refine lw_Seq_run_48 hG hll C v0 m_v0 k_v0 _ _ _ _ hm (fun σ_32 hm => ?_)
    exact rx_vret C dX7_run_131 hm
  refine rx_if_ge (tgt := 26) C dX7_run_19 (by decide) hm (fun h_33 hm => ?_) (fun h_33 hm => ?_)
  · refine rx_iconst (v := 2) C dX7_run_26 rfl ?_
    refine rx_lv [0] rfl ?_
    exact hj27 _ hm
  refine rx_iconst (v := 1) C dX7_run_22 rfl ?_
  refine rx_goto (tgt := 27) C dX7_run_23 (by decide) ?_
  refine rx_lv [0] rfl ?_
  exact hj27 _ hm
def l_Seq_copyDivisor_2 (fu : Nat) (N : Nat → Nat) (v1 : Nat) : Nat → Int32 → rr_M → (rr_M → Option (Unit × rr_M)) → Option (Unit × rr_M)
  | 0, _, _, _ => none
  | n + 1, v2, σ, kk =>
    if (nI (N v1)) ≤ v2 then (kk σ) else
    (if rr_ix v2 (N v1) then rr_lt (ms_l σ v1 (rr_n v2) 0) fun σ_2 =>
    rr_lt (v2 + 1) fun v2_3 =>
    l_Seq_copyDivisor_2 fu N v1 n v2_3 σ_2 kk else none)
theorem lw_Seq_copyDivisor_2 {X : rr_X} {G : rr_G} {l : Launch} {fu : Nat} (hG : G.2.2.1.Nodup) (hll : X.2.1 = l) (C : rr_C X G cX7_copyDivisor 6 "RootRows$Sequence" none 3 89) {σr : rr_M} (v0 : Nat) (m_v0 : v0 ∈ G.2.2.1) (k_v0 : G.2.2.2.1 v0 = 5) (v1 : Nat) (m_v1 : v1 ∈ G.2.2.1) (k_v1 : G.2.2.2.1 v1 = 12) : ∀ (n : Nat) (v2 : Int32) (σ : rr_M) (K : rr_M → Option (Unit × rr_M)), l_Seq_copyDivisor_2 fu G.2.2.2.2 v1 n v2 σ K = some ((), σr) → (∀ (σ1 : rr_M), K σ1 = some ((), σr) → rr_J X G 6 (rr_E X G σr none) σ1 18 [(0, .ref v0), (1, .ref v1)] []) → rr_J X G 6 (rr_E X G σr none) σ 2 [(0, .ref v0), (1, .ref v1), (2, .int v2)] [] := by
  intro n
  induction n with
  | zero =>
    intro v2 σ K hm
    cases hm
  | succ n ih =>
    intro v2 σ K hm hk
    unfold l_Seq_copyDivisor_2 at hm
    refine rx_iload_n C 2 dX7_copyDivisor_2 rfl ?_
    refine rx_aload_n C 1 dX7_copyDivisor_3 rfl ?_
    refine rx_alen C m_v1 k_v1 (by decide) dX7_copyDivisor_4 ?_
    refine rx_icmp_ge (tgt := 18) C dX7_copyDivisor_5 (by decide) hm (fun h_1 hm => ?_) (fun h_1 hm => ?_)
    · refine rx_lv [0, 1] rfl ?_
      exact hk _ hm
    refine rx_aload_n C 1 dX7_copyDivisor_8 rfl ?_
    refine rx_iload_n C 2 dX7_copyDivisor_9 rfl ?_
    refine rx_lconst (v := 0) C dX7_copyDivisor_10 rfl ?_
    refine rx_last C m_v1 k_v1 dX7_copyDivisor_11 hm (fun σ_2 hm => ?_)
    refine rx_iinc (d := 1) (lv1 := fun v => [(2, .int v), (0, .ref v0), (1, .ref v1)]) C 2 dX7_copyDivisor_12 hm rfl rfl (by decide) (fun _ => rfl) (fun v2_3 hm => ?_)
    refine rx_goto (tgt := 2) C dX7_copyDivisor_15 (by decide) ?_
    refine rx_lv [1, 2, 0] rfl ?_
    exact ih _ _ _ hm hk
def l_Seq_copyDivisor_78 (fu : Nat) (N : Nat → Nat) (v0 : Nat) (v1 : Nat) (v2 : Int32) (v3 : Int32) (v4 : Int32) : Nat → Int32 → rr_M → (rr_M → Option (Unit × rr_M)) → Option (Unit × rr_M)
  | 0, _, _, _ => none
  | n + 1, v5, σ, kk =>
    if v2 < v5 then (kk σ) else
    if (nI (N v1)) ≤ v5 then (kk σ) else
    rr_lt (mg_r σ v0 5) fun p_22 =>
    rr_lt (mg_r σ v0 0) fun p_23 =>
    (if rr_ix (v3 + v5) (N p_23) then rr_lt (mg_r σ p_23 (rr_n (v3 + v5))) fun p_24 =>
    rr_lt (mg_r σ v0 0) fun p_25 =>
    rr_lt (mg_r σ v0 1) fun p_26 =>
    (if rr_ix 0 (N p_26) then
    (if rr_ix (mg_i σ p_26 (rr_n 0)) (N p_25) then rr_lt (mg_r σ p_25 (rr_n (mg_i σ p_26 (rr_n 0)))) fun p_27 =>
    rr_bd (f_Big_setProduct fu N p_22 p_24 p_27 σ) fun _ σ_28 =>
    rr_lt (mg_r σ_28 v0 5) fun p_30 =>
    rr_bd (f_Big_shiftDown fu N p_30 v4 σ_28) fun _ σ_31 =>
    rr_lt (mg_r σ_31 v0 6) fun p_33 =>
    rr_lt (mg_r σ_31 v0 5) fun p_34 =>
    rr_lt (mg_r σ_31 v0 8) fun p_35 =>
    rr_bd (f_Big_setQuotient fu N p_33 p_34 p_35 σ_31) fun _ σ_36 =>
    rr_lt (mg_r σ_36 v0 6) fun p_38 =>
    Option.bind (f_Big_toLong fu N p_38 σ_36) fun r_39 =>
    (if rr_ix v5 (N v1) then rr_lt (ms_l σ_36 v1 (rr_n v5) r_39) fun σ_41 =>
    rr_lt (v5 + 1) fun v5_42 =>
    l_Seq_copyDivisor_78 fu N v0 v1 v2 v3 v4 n v5_42 σ_41 kk else none) else none) else none) else none)
theorem lw_Seq_copyDivisor_78 {X : rr_X} {G : rr_G} {l : Launch} {fu : Nat} (hG : G.2.2.1.Nodup) (hll : X.2.1 = l) (C : rr_C X G cX7_copyDivisor 6 "RootRows$Sequence" none 3 89) {σr : rr_M} (v0 : Nat) (m_v0 : v0 ∈ G.2.2.1) (k_v0 : G.2.2.2.1 v0 = 5) (v1 : Nat) (m_v1 : v1 ∈ G.2.2.1) (k_v1 : G.2.2.2.1 v1 = 12) (v2 : Int32) (v3 : Int32) (v4 : Int32) : ∀ (n : Nat) (v5 : Int32) (σ : rr_M) (K : rr_M → Option (Unit × rr_M)), l_Seq_copyDivisor_78 fu G.2.2.2.2 v0 v1 v2 v3 v4 n v5 σ K = some ((), σr) → (∀ (σ1 : rr_M), K σ1 = some ((), σr) → rr_J X G 6 (rr_E X G σr none) σ1 159 [(1, .ref v1)] []) → rr_J X G 6 (rr_E X G σr none) σ 78 [(0, .ref v0), (1, .ref v1), (2, .int v2), (3, .int v3), (4, .int v4), (5, .int v5)] [] := by
  intro n
  induction n with
  | zero =>
    intro v5 σ K hm
    cases hm
  | succ n ih =>
    intro v5 σ K hm hk
    unfold l_Seq_copyDivisor_78 at hm
    refine rx_iload C 5 dX7_copyDivisor_78 rfl ?_
    refine rx_iload_n C 2 dX7_copyDivisor_80 rfl ?_
    refine rx_icmp_gt (tgt := 159) C dX7_copyDivisor_81 (by decide) hm (fun h_20 hm => ?_) (fun h_20 hm => ?_)
    · refine rx_lv [1] rfl ?_
      exact hk _ hm
    refine rx_iload C 5 dX7_copyDivisor_84 rfl ?_
    refine rx_aload_n C 1 dX7_copyDivisor_86 rfl ?_
    refine rx_alen C m_v1 k_v1 (by decide) dX7_copyDivisor_87 ?_
    refine rx_icmp_ge (tgt := 159) C dX7_copyDivisor_88 (by decide) hm (fun h_21 hm => ?_) (fun h_21 hm => ?_)
    · refine rx_lv [1] rfl ?_
      exact hk _ hm
    refine rx_aload_n C 0 dX7_copyDivisor_91 rfl ?_
    refine gf_178 C m_v0 k_v0 dX7_copyDivisor_92 hm (fun p_22 m_p_22 k_p_22 hm => ?_)
    refine rx_aload_n C 0 dX7_copyDivisor_95 rfl ?_
    refine gf_165 C m_v0 k_v0 dX7_copyDivisor_96 hm (fun p_23 m_p_23 k_p_23 hm => ?_)
    refine rx_iload_n C 3 dX7_copyDivisor_99 rfl ?_
    refine rx_iload C 5 dX7_copyDivisor_100 rfl ?_
    refine rx_iadd C dX7_copyDivisor_102 ?_
    refine rx_ald14 C m_p_23 k_p_23 dX7_copyDivisor_103 hm (fun p_24 m_p_24 k_p_24 hm => ?_)
    refine rx_aload_n C 0 dX7_copyDivisor_104 rfl ?_
    refine gf_165 C m_v0 k_v0 dX7_copyDivisor_105 hm (fun p_25 m_p_25 k_p_25 hm => ?_)
    refine rx_aload_n C 0 dX7_copyDivisor_108 rfl ?_
    refine gf_167 C m_v0 k_v0 dX7_copyDivisor_109 hm (fun p_26 m_p_26 k_p_26 hm => ?_)
    refine rx_iconst (v := 0) C dX7_copyDivisor_112 rfl ?_
    refine rx_iald C m_p_26 k_p_26 dX7_copyDivisor_113 hm (fun hm => ?_)
    refine rx_ald14 C m_p_25 k_p_25 dX7_copyDivisor_114 hm (fun p_27 m_p_27 k_p_27 hm => ?_)
    obtain ⟨_, σ_28, hc_29, hm⟩ := rr_bd_some hm
    refine rr_callV (rest := []) (st1 := []) C 0 hll (c_Big_setProduct l G hG fu p_22 m_p_22 k_p_22 p_24 m_p_24 k_p_24 p_27 m_p_27 k_p_27 σ _ hc_29) q_575 q_576 q_577 q_6 q_578 hd_Big_setProduct ⟨_, rfl, rfl⟩ (by decide) m_p_22 k_p_22 ⟨by decide, by decide⟩ rfl rfl (Nat.le_of_ble_eq_true rfl) rfl dX7_copyDivisor_115 ?_
    refine rx_aload_n C 0 dX7_copyDivisor_118 rfl ?_
    refine gf_178 C m_v0 k_v0 dX7_copyDivisor_119 hm (fun p_30 m_p_30 k_p_30 hm => ?_)
    refine rx_iload C 4 dX7_copyDivisor_122 rfl ?_
    obtain ⟨_, σ_31, hc_32, hm⟩ := rr_bd_some hm
    refine rr_callV (rest := []) (st1 := []) C 0 hll (c_Big_shiftDown l G hG fu p_30 m_p_30 k_p_30 v4 σ_28 _ hc_32) q_607 q_608 q_609 q_6 q_610 hd_Big_shiftDown ⟨_, rfl, rfl⟩ (by decide) m_p_30 k_p_30 ⟨by decide, by decide⟩ rfl rfl (Nat.le_of_ble_eq_true rfl) rfl dX7_copyDivisor_124 ?_
    refine rx_aload_n C 0 dX7_copyDivisor_127 rfl ?_
    refine gf_179 C m_v0 k_v0 dX7_copyDivisor_128 hm (fun p_33 m_p_33 k_p_33 hm => ?_)
    refine rx_aload_n C 0 dX7_copyDivisor_131 rfl ?_
    refine gf_178 C m_v0 k_v0 dX7_copyDivisor_132 hm (fun p_34 m_p_34 k_p_34 hm => ?_)
    refine rx_aload_n C 0 dX7_copyDivisor_135 rfl ?_
    refine gf_181 C m_v0 k_v0 dX7_copyDivisor_136 hm (fun p_35 m_p_35 k_p_35 hm => ?_)
    obtain ⟨_, σ_36, hc_37, hm⟩ := rr_bd_some hm
    refine rr_callV (rest := []) (st1 := []) C 0 hll (c_Big_setQuotient l G hG fu p_33 m_p_33 k_p_33 p_34 m_p_34 k_p_34 p_35 m_p_35 k_p_35 σ_31 _ hc_37) q_615 q_616 q_617 q_6 q_618 hd_Big_setQuotient ⟨_, rfl, rfl⟩ (by decide) m_p_33 k_p_33 ⟨by decide, by decide⟩ rfl rfl (Nat.le_of_ble_eq_true rfl) rfl dX7_copyDivisor_139 ?_
    refine rx_aload_n C 1 dX7_copyDivisor_142 rfl ?_
    refine rx_iload C 5 dX7_copyDivisor_143 rfl ?_
    refine rx_aload_n C 0 dX7_copyDivisor_145 rfl ?_
    refine gf_179 C m_v0 k_v0 dX7_copyDivisor_146 hm (fun p_38 m_p_38 k_p_38 hm => ?_)
    obtain ⟨r_39, hc_40, hm⟩ := rr_b0_some hm
    refine rr_callV (rest := [.int v5, .ref v1]) (st1 := [.long r_39, .int v5, .ref v1]) C 0 hll (c_Big_toLong l G hG fu p_38 m_p_38 k_p_38 σ_36 _ hc_40) q_648 q_649 q_650 q_6 q_651 hd_Big_toLong ⟨_, rfl, rfl⟩ (by decide) m_p_38 k_p_38 ⟨by decide, by decide⟩ rfl rfl (Nat.le_of_ble_eq_true rfl) rfl dX7_copyDivisor_149 ?_
    refine rx_last C m_v1 k_v1 dX7_copyDivisor_152 hm (fun σ_41 hm => ?_)
    refine rx_iinc (d := 1) (lv1 := fun v => [(5, .int v), (0, .ref v0), (1, .ref v1), (2, .int v2), (3, .int v3), (4, .int v4)]) C 5 dX7_copyDivisor_153 hm rfl rfl (by decide) (fun _ => rfl) (fun v5_42 hm => ?_)
    refine rx_goto (tgt := 78) C dX7_copyDivisor_156 (by decide) ?_
    refine rx_lv [1, 2, 3, 4, 5, 0] rfl ?_
    exact ih _ _ _ hm hk
def f_Seq_copyDivisor (fu : Nat) (N : Nat → Nat) (v0 : Nat) (v1 : Nat) (σ : rr_M) : Option (Unit × rr_M) :=
    l_Seq_copyDivisor_2 fu N v1 fu 0 σ (fun σ_4 =>
    Option.bind (f_Seq_lastDegree N v0 σ_4) fun r_5 =>
    if 0 < r_5 then (rr_lt (((mg_i σ_4 v0 3) - 1) * 9) fun v3_8 =>
    rr_lt (mg_r σ_4 v0 8) fun p_9 =>
    rr_lt (mg_r σ_4 v0 0) fun p_10 =>
    (if rr_ix (v3_8 + r_5) (N p_10) then rr_lt (mg_r σ_4 p_10 (rr_n (v3_8 + r_5))) fun p_11 =>
    rr_bd (f_Big_copy N p_9 p_11 σ_4) fun _ σ_12 =>
    rr_lt (mg_r σ_12 v0 8) fun p_14 =>
    Option.bind (f_Big_trailingZeros fu N p_14 σ_12) fun r_15 =>
    rr_lt (mg_r σ_12 v0 8) fun p_17 =>
    rr_bd (f_Big_shiftDown fu N p_17 r_15 σ_12) fun _ σ_18 =>
    l_Seq_copyDivisor_78 fu N v0 v1 r_5 v3_8 r_15 fu 0 σ_18 (fun σ_43 =>
    rr_bd (f_Num_makePrimitive fu N v1 σ_43) fun _ σ_44 =>
    some ((), σ_44)) else none)) else
    (if rr_ix 0 (N v1) then rr_lt (ms_l σ_4 v1 (rr_n 0) 1) fun σ_46 =>
    some ((), σ_46) else none))
theorem c_Seq_copyDivisor (l : Launch) (G : rr_G) (hG : G.2.2.1.Nodup) (fu : Nat) (v0 : Nat) (m_v0 : v0 ∈ G.2.2.1) (k_v0 : G.2.2.2.1 v0 = 5) (v1 : Nat) (m_v1 : v1 ∈ G.2.2.1) (k_v1 : G.2.2.2.1 v1 = 12) (σ : rr_M) (σr : rr_M) (hm : f_Seq_copyDivisor fu G.2.2.2.2 v0 v1 σ = some ((), σr)) : rr_Met l G yX7_copyDivisor cX7_copyDivisor 6 none 3 89 [.ref v0, .ref v1] σ σr none := by
  refine rr_enter (lv0 := [(0, .ref v0), (1, .ref v1)]) hp_Seq_copyDivisor hG (Nat.le_of_ble_eq_true rfl) rfl (fun X hll C => ?_)
  replace C : rr_C X G cX7_copyDivisor 6 "RootRows$Sequence" none 3 89 := C
  unfold f_Seq_copyDivisor at hm
  refine rx_iconst (v := 0) C dX7_copyDivisor_0 rfl ?_
  refine rx_istore_n (lv1 := [(2, .int 0), (0, .ref v0), (1, .ref v1)]) C dX7_copyDivisor_1 (by decide) rfl ?_
  refine rx_lv [1, 2, 0] rfl ?_
  refine lw_Seq_copyDivisor_2 hG hll C v0 m_v0 k_v0 v1 m_v1 k_v1 _ _ _ _ hm (fun σ_4 hm => ?_)
  refine rx_aload_n C 0 dX7_copyDivisor_18 rfl ?_
  obtain ⟨r_5, hc_6, hm⟩ := rr_b0_some hm
  refine rr_callV (rest := []) (st1 := [.int r_5]) C 5 hll (c_Seq_lastDegree l G hG v0 m_v0 k_v0 σ_4 _ hc_6) q_644 q_645 q_646 q_5 q_647 hd_Seq_lastDegree ⟨_, rfl, rfl⟩ (by decide) m_v0 k_v0 ⟨by decide, by decide⟩ rfl rfl (Nat.le_of_ble_eq_true rfl) rfl dX7_copyDivisor_19 ?_
  refine rx_istore_n (lv1 := [(2, .int r_5), (0, .ref v0), (1, .ref v1)]) C dX7_copyDivisor_22 (by decide) rfl ?_
  refine rx_iload_n C 0 dX7_copyDivisor_23 rfl ?_
  refine rx_if_gt (tgt := 32) C dX7_copyDivisor_24 (by decide) hm (fun h_7 hm => ?_) (fun h_7 hm => ?_)
  · refine rx_aload_n C 1 dX7_copyDivisor_32 rfl ?_
    refine gf_174 C m_v0 k_v0 dX7_copyDivisor_33 ?_
    refine rx_iconst (v := 1) C dX7_copyDivisor_36 rfl ?_
    refine rx_isub C dX7_copyDivisor_37 ?_
    refine rx_bipush (v := 9) C dX7_copyDivisor_38 rfl ?_
    refine rx_imul C dX7_copyDivisor_40 ?_
    refine rx_nmi hm (fun v3_8 ev3_8 hm => ?_)
    refine rx_istore_n (lv1 := [(3, .int v3_8), (2, .int r_5), (0, .ref v0), (1, .ref v1)]) C dX7_copyDivisor_41 (by decide) rfl ?_
    refine rx_aload_n C 2 dX7_copyDivisor_42 rfl ?_
    refine gf_181 C m_v0 k_v0 dX7_copyDivisor_43 hm (fun p_9 m_p_9 k_p_9 hm => ?_)
    refine rx_aload_n C 2 dX7_copyDivisor_46 rfl ?_
    refine gf_165 C m_v0 k_v0 dX7_copyDivisor_47 hm (fun p_10 m_p_10 k_p_10 hm => ?_)
    refine rx_iload_n C 0 dX7_copyDivisor_50 rfl ?_
    refine rx_iload_n C 1 dX7_copyDivisor_51 rfl ?_
    refine rx_iadd C dX7_copyDivisor_52 ?_
    refine rx_ald14 C m_p_10 k_p_10 dX7_copyDivisor_53 hm (fun p_11 m_p_11 k_p_11 hm => ?_)
    obtain ⟨_, σ_12, hc_13, hm⟩ := rr_bd_some hm
    refine rr_callV (rest := []) (st1 := []) C 0 hll (c_Big_copy l G hG p_9 m_p_9 k_p_9 p_11 m_p_11 k_p_11 σ_4 _ hc_13) q_562 q_563 q_564 q_6 q_565 hd_Big_copy ⟨_, rfl, rfl⟩ (by decide) m_p_9 k_p_9 ⟨by decide, by decide⟩ rfl rfl (Nat.le_of_ble_eq_true rfl) rfl dX7_copyDivisor_54 ?_
    refine rx_aload_n C 2 dX7_copyDivisor_57 rfl ?_
    refine gf_181 C m_v0 k_v0 dX7_copyDivisor_58 hm (fun p_14 m_p_14 k_p_14 hm => ?_)
    obtain ⟨r_15, hc_16, hm⟩ := rr_b0_some hm
    refine rr_callV (rest := []) (st1 := [.int r_15]) C 0 hll (c_Big_trailingZeros l G hG fu p_14 m_p_14 k_p_14 σ_12 _ hc_16) q_596 q_597 q_598 q_6 q_599 hd_Big_trailingZeros ⟨_, rfl, rfl⟩ (by decide) m_p_14 k_p_14 ⟨by decide, by decide⟩ rfl rfl (Nat.le_of_ble_eq_true rfl) rfl dX7_copyDivisor_61 ?_
    refine rx_istore (lv1 := [(4, .int r_15), (3, .int v3_8), (2, .int r_5), (0, .ref v0), (1, .ref v1)]) C dX7_copyDivisor_64 (by decide) rfl ?_
    refine rx_aload_n C 3 dX7_copyDivisor_66 rfl ?_
    refine gf_181 C m_v0 k_v0 dX7_copyDivisor_67 hm (fun p_17 m_p_17 k_p_17 hm => ?_)
    refine rx_iload C 0 dX7_copyDivisor_70 rfl ?_
    obtain ⟨_, σ_18, hc_19, hm⟩ := rr_bd_some hm
    refine rr_callV (rest := []) (st1 := []) C 0 hll (c_Big_shiftDown l G hG fu p_17 m_p_17 k_p_17 r_15 σ_12 _ hc_19) q_607 q_608 q_609 q_6 q_610 hd_Big_shiftDown ⟨_, rfl, rfl⟩ (by decide) m_p_17 k_p_17 ⟨by decide, by decide⟩ rfl rfl (Nat.le_of_ble_eq_true rfl) rfl dX7_copyDivisor_72 ?_
    refine rx_iconst (v := 0) C dX7_copyDivisor_75 rfl ?_
    refine rx_istore (lv1 := [(5, .int 0), (4, .int r_15), (3, .int v3_8), (2, .int r_5), (0, .ref v0), (1, .ref v1)]) C dX7_copyDivisor_76 (by decide) rfl ?_
    refine rx_lv [4, 5, 3, 2, 1, 0] rfl ?_
    refine lw_Seq_copyDivisor_78 hG hll C v0 m_v0 k_v0 v1 m_v1 k_v1 r_5 v3_8 r_15 _ _ _ _ hm (fun σ_43 hm => ?_)
    refine rx_aload_n C 0 dX7_copyDivisor_159 rfl ?_
    obtain ⟨_, σ_44, hc_45, hm⟩ := rr_bd_some hm
    refine rr_callS (rest := []) (st1 := []) C hll (c_Num_makePrimitive l G hG fu v1 m_v1 k_v1 σ_43 _ hc_45) q_652 q_653 q_12 q_654 hd_Num_makePrimitive ⟨by decide, by decide⟩ rfl rfl (Nat.le_of_ble_eq_true rfl) rfl dX7_copyDivisor_160 ?_
    exact rx_vret C dX7_copyDivisor_163 hm
  refine rx_aload_n C 2 dX7_copyDivisor_27 rfl ?_
  refine rx_iconst (v := 0) C dX7_copyDivisor_28 rfl ?_
  refine rx_lconst (v := 1) C dX7_copyDivisor_29 rfl ?_
  refine rx_last C m_v1 k_v1 dX7_copyDivisor_30 hm (fun σ_46 hm => ?_)
  exact rx_vret C dX7_copyDivisor_31 hm
def l_Poi_signAmong_38 (fu : Nat) (N : Nat → Nat) (v0 : Nat) (v1 : Nat) (v2 : Int32) : Nat → Int32 → Int32 → rr_M → (rr_M → Option (Int32 × rr_M)) → Option (Int32 × rr_M)
  | 0, _, _, _, _ => none
  | n + 1, v4, v5, σ, kk =>
    if v5 < 0 then (kk σ) else
    rr_lt (v4 + (mg_i σ v0 1)) fun v4_10 =>
    rr_lt (mg_r σ v0 4) fun p_11 =>
    rr_lt (mg_r σ v0 3) fun p_12 =>
    rr_lt (mg_r σ v0 0) fun p_13 =>
    rr_bd (f_Big_setProduct fu N p_11 p_12 p_13 σ) fun _ σ_14 =>
    rr_lt (mg_r σ_14 v0 4) fun p_16 =>
    (if rr_ix (v2 + v5) (N v1) then rr_lt (mg_r σ_14 v1 (rr_n (v2 + v5))) fun p_17 =>
    rr_bd (f_Big_addTimes fu N p_16 p_17 (1 <<< ((v4_10 - v4_10 / 30 * 30).toInt64 &&& 63)) (v4_10 / 30) σ_14) fun _ σ_18 =>
    rr_lt (mg_r σ_18 v0 3) fun p_20 =>
    rr_lt (mg_r σ_18 v0 4) fun p_21 =>
    rr_lt (ms_r σ_18 v0 3 p_21) fun σ_22 =>
    rr_lt (ms_r σ_22 v0 4 p_20) fun σ_23 =>
    rr_lt (v5 + (-1)) fun v5_24 =>
    l_Poi_signAmong_38 fu N v0 v1 v2 n v4_10 v5_24 σ_23 kk else none)
theorem lw_Poi_signAmong_38 {X : rr_X} {G : rr_G} {l : Launch} {fu : Nat} (hG : G.2.2.1.Nodup) (hll : X.2.1 = l) (C : rr_C X G cX5_signAmong 7 "RootRows$Point" (some .int) 2 89) {r : Int32} {σr : rr_M} (v0 : Nat) (m_v0 : v0 ∈ G.2.2.1) (k_v0 : G.2.2.2.1 v0 = 4) (v1 : Nat) (m_v1 : v1 ∈ G.2.2.1) (k_v1 : G.2.2.2.1 v1 = 14) (v2 : Int32) : ∀ (n : Nat) (v4 : Int32) (v5 : Int32) (σ : rr_M) (K : rr_M → Option (Int32 × rr_M)), l_Poi_signAmong_38 fu G.2.2.2.2 v0 v1 v2 n v4 v5 σ K = some (r, σr) → (∀ (σ1 : rr_M), K σ1 = some (r, σr) → rr_J X G 7 (rr_E X G σr (some (.int r))) σ1 118 [(0, .ref v0)] []) → rr_J X G 7 (rr_E X G σr (some (.int r))) σ 38 [(0, .ref v0), (1, .ref v1), (2, .int v2), (4, .int v4), (5, .int v5)] [] := by
  intro n
  induction n with
  | zero =>
    intro v4 v5 σ K hm
    cases hm
  | succ n ih =>
    intro v4 v5 σ K hm hk
    unfold l_Poi_signAmong_38 at hm
    refine rx_iload C 4 dX5_signAmong_38 rfl ?_
    refine rx_if_lt (tgt := 118) C dX5_signAmong_40 (by decide) hm (fun h_9 hm => ?_) (fun h_9 hm => ?_)
    · refine rx_lv [0] rfl ?_
      exact hk _ hm
    refine rx_iload C 3 dX5_signAmong_43 rfl ?_
    refine rx_aload_n C 0 dX5_signAmong_45 rfl ?_
    refine gf_219 C m_v0 k_v0 dX5_signAmong_46 ?_
    refine rx_iadd C dX5_signAmong_49 ?_
    refine rx_nmi hm (fun v4_10 ev4_10 hm => ?_)
    refine rx_istore (lv1 := [(4, .int v4_10), (0, .ref v0), (1, .ref v1), (2, .int v2), (5, .int v5)]) C dX5_signAmong_50 (by decide) rfl ?_
    refine rx_aload_n C 1 dX5_signAmong_52 rfl ?_
    refine gf_222 C m_v0 k_v0 dX5_signAmong_53 hm (fun p_11 m_p_11 k_p_11 hm => ?_)
    refine rx_aload_n C 1 dX5_signAmong_56 rfl ?_
    refine gf_221 C m_v0 k_v0 dX5_signAmong_57 hm (fun p_12 m_p_12 k_p_12 hm => ?_)
    refine rx_aload_n C 1 dX5_signAmong_60 rfl ?_
    refine gf_218 C m_v0 k_v0 dX5_signAmong_61 hm (fun p_13 m_p_13 k_p_13 hm => ?_)
    obtain ⟨_, σ_14, hc_15, hm⟩ := rr_bd_some hm
    refine rr_callV (rest := []) (st1 := []) C 0 hll (c_Big_setProduct l G hG fu p_11 m_p_11 k_p_11 p_12 m_p_12 k_p_12 p_13 m_p_13 k_p_13 σ _ hc_15) q_715 q_576 q_577 q_6 q_578 hd_Big_setProduct ⟨_, rfl, rfl⟩ (by decide) m_p_11 k_p_11 ⟨by decide, by decide⟩ rfl rfl (Nat.le_of_ble_eq_true rfl) rfl dX5_signAmong_64 ?_
    refine rx_aload_n C 1 dX5_signAmong_67 rfl ?_
    refine gf_222 C m_v0 k_v0 dX5_signAmong_68 hm (fun p_16 m_p_16 k_p_16 hm => ?_)
    refine rx_aload_n C 2 dX5_signAmong_71 rfl ?_
    refine rx_iload_n C 3 dX5_signAmong_72 rfl ?_
    refine rx_iload C 4 dX5_signAmong_73 rfl ?_
    refine rx_iadd C dX5_signAmong_75 ?_
    refine rx_ald14 C m_v1 k_v1 dX5_signAmong_76 hm (fun p_17 m_p_17 k_p_17 hm => ?_)
    refine rx_lconst (v := 1) C dX5_signAmong_77 rfl ?_
    refine rx_iload C 0 dX5_signAmong_78 rfl ?_
    refine rx_bipush (v := 30) C dX5_signAmong_80 rfl ?_
    refine rx_irem C dX5_signAmong_82 (by decide) ?_
    refine rx_lshl C dX5_signAmong_83 ?_
    refine rx_iload C 0 dX5_signAmong_84 rfl ?_
    refine rx_bipush (v := 30) C dX5_signAmong_86 rfl ?_
    refine rx_idiv C dX5_signAmong_88 (by decide) ?_
    obtain ⟨_, σ_18, hc_19, hm⟩ := rr_bd_some hm
    refine rr_callV (rest := []) (st1 := []) C 0 hll (c_Big_addTimes l G hG fu p_16 m_p_16 k_p_16 p_17 m_p_17 k_p_17 (1 <<< ((v4_10 - v4_10 / 30 * 30).toInt64 &&& 63)) (v4_10 / 30) σ_14 _ hc_19) q_716 q_580 q_581 q_6 q_582 hd_Big_addTimes ⟨_, rfl, rfl⟩ (by decide) m_p_16 k_p_16 ⟨by decide, by decide⟩ rfl rfl (Nat.le_of_ble_eq_true rfl) rfl dX5_signAmong_89 ?_
    refine rx_aload_n C 1 dX5_signAmong_92 rfl ?_
    refine gf_221 C m_v0 k_v0 dX5_signAmong_93 hm (fun p_20 m_p_20 k_p_20 hm => ?_)
    refine rx_astore (lv1 := [(6, .ref p_20), (4, .int v4_10), (0, .ref v0), (1, .ref v1), (2, .int v2), (5, .int v5)]) C dX5_signAmong_96 (by decide) rfl ?_
    refine rx_aload_n C 2 dX5_signAmong_98 rfl ?_
    refine rx_aload_n C 2 dX5_signAmong_99 rfl ?_
    refine gf_222 C m_v0 k_v0 dX5_signAmong_100 hm (fun p_21 m_p_21 k_p_21 hm => ?_)
    refine pf_221 C m_v0 k_v0 m_p_21 k_p_21 dX5_signAmong_103 hm (fun σ_22 hm => ?_)
    refine rx_aload_n C 2 dX5_signAmong_106 rfl ?_
    refine rx_aload C 0 dX5_signAmong_107 rfl ?_
    refine pf_222 C m_v0 k_v0 m_p_20 k_p_20 dX5_signAmong_109 hm (fun σ_23 hm => ?_)
    refine rx_iinc (d := (-1)) (lv1 := fun v => [(5, .int v), (6, .ref p_20), (4, .int v4_10), (0, .ref v0), (1, .ref v1), (2, .int v2)]) C 5 dX5_signAmong_112 hm rfl rfl (by decide) (fun _ => rfl) (fun v5_24 hm => ?_)
    refine rx_goto (tgt := 38) C dX5_signAmong_115 (by decide) ?_
    refine rx_lv [3, 4, 5, 2, 0] rfl ?_
    exact ih _ _ _ _ hm hk
def f_Poi_signAmong (fu : Nat) (N : Nat → Nat) (v0 : Nat) (v1 : Nat) (v2 : Int32) (v3 : Int32) (σ : rr_M) : Option (Int32 × rr_M) :=
    if v3 < 0 then (some (0, σ)) else
    if v2 < 0 then (some (0, σ)) else
    if (v2 + v3) < (nI (N v1)) then (rr_lt (mg_r σ v0 3) fun p_4 =>
    (if rr_ix (v2 + v3) (N v1) then rr_lt (mg_r σ v1 (rr_n (v2 + v3))) fun p_5 =>
    rr_bd (f_Big_copy N p_4 p_5 σ) fun _ σ_6 =>
    rr_lt (v3 - 1) fun v5_8 =>
    l_Poi_signAmong_38 fu N v0 v1 v2 fu 0 v5_8 σ_6 (fun σ_25 =>
    rr_lt (mg_r σ_25 v0 3) fun p_26 =>
    Option.bind (f_Big_signum N p_26 σ_25) fun r_27 =>
    some (r_27, σ_25)) else none)) else
    some (0, σ)
theorem c_Poi_signAmong (l : Launch) (G : rr_G) (hG : G.2.2.1.Nodup) (fu : Nat) (v0 : Nat) (m_v0 : v0 ∈ G.2.2.1) (k_v0 : G.2.2.2.1 v0 = 4) (v1 : Nat) (m_v1 : v1 ∈ G.2.2.1) (k_v1 : G.2.2.2.1 v1 = 14) (v2 : Int32) (v3 : Int32) (σ : rr_M) (r : Int32) (σr : rr_M) (hm : f_Poi_signAmong fu G.2.2.2.2 v0 v1 v2 v3 σ = some (r, σr)) : rr_Met l G yX5_signAmong cX5_signAmong 7 (some .int) 2 89 [.ref v0, .ref v1, .int v2, .int v3] σ σr (some (.int r)) := by
  refine rr_enter (lv0 := [(0, .ref v0), (1, .ref v1), (2, .int v2), (3, .int v3)]) hp_Poi_signAmong hG (Nat.le_of_ble_eq_true rfl) rfl (fun X hll C => ?_)
  replace C : rr_C X G cX5_signAmong 7 "RootRows$Point" (some .int) 2 89 := C
  unfold f_Poi_signAmong at hm
  refine rx_iload_n C 3 dX5_signAmong_0 rfl ?_
  refine rx_if_lt (tgt := 16) C dX5_signAmong_1 (by decide) hm (fun h_1 hm => ?_) (fun h_1 hm => ?_)
  · refine rx_iconst (v := 0) C dX5_signAmong_16 rfl ?_
    exact rx_iret C dX5_signAmong_17 hm
  refine rx_iload_n C 2 dX5_signAmong_4 rfl ?_
  refine rx_if_lt (tgt := 16) C dX5_signAmong_5 (by decide) hm (fun h_2 hm => ?_) (fun h_2 hm => ?_)
  · refine rx_iconst (v := 0) C dX5_signAmong_16 rfl ?_
    exact rx_iret C dX5_signAmong_17 hm
  refine rx_iload_n C 2 dX5_signAmong_8 rfl ?_
  refine rx_iload_n C 3 dX5_signAmong_9 rfl ?_
  refine rx_iadd C dX5_signAmong_10 ?_
  refine rx_aload_n C 1 dX5_signAmong_11 rfl ?_
  refine rx_alen C m_v1 k_v1 (by decide) dX5_signAmong_12 ?_
  refine rx_icmp_lt (tgt := 18) C dX5_signAmong_13 (by decide) hm (fun h_3 hm => ?_) (fun h_3 hm => ?_)
  · refine rx_aload_n C 0 dX5_signAmong_18 rfl ?_
    refine gf_221 C m_v0 k_v0 dX5_signAmong_19 hm (fun p_4 m_p_4 k_p_4 hm => ?_)
    refine rx_aload_n C 1 dX5_signAmong_22 rfl ?_
    refine rx_iload_n C 2 dX5_signAmong_23 rfl ?_
    refine rx_iload_n C 3 dX5_signAmong_24 rfl ?_
    refine rx_iadd C dX5_signAmong_25 ?_
    refine rx_ald14 C m_v1 k_v1 dX5_signAmong_26 hm (fun p_5 m_p_5 k_p_5 hm => ?_)
    obtain ⟨_, σ_6, hc_7, hm⟩ := rr_bd_some hm
    refine rr_callV (rest := []) (st1 := []) C 0 hll (c_Big_copy l G hG p_4 m_p_4 k_p_4 p_5 m_p_5 k_p_5 σ _ hc_7) q_714 q_563 q_564 q_6 q_565 hd_Big_copy ⟨_, rfl, rfl⟩ (by decide) m_p_4 k_p_4 ⟨by decide, by decide⟩ rfl rfl (Nat.le_of_ble_eq_true rfl) rfl dX5_signAmong_27 ?_
    refine rx_iconst (v := 0) C dX5_signAmong_30 rfl ?_
    refine rx_istore (lv1 := [(4, .int 0), (0, .ref v0), (1, .ref v1), (2, .int v2), (3, .int v3)]) C dX5_signAmong_31 (by decide) rfl ?_
    refine rx_iload_n C 4 dX5_signAmong_33 rfl ?_
    refine rx_iconst (v := 1) C dX5_signAmong_34 rfl ?_
    refine rx_isub C dX5_signAmong_35 ?_
    refine rx_nmi hm (fun v5_8 ev5_8 hm => ?_)
    refine rx_istore (lv1 := [(5, .int v5_8), (4, .int 0), (0, .ref v0), (1, .ref v1), (2, .int v2), (3, .int v3)]) C dX5_signAmong_36 (by decide) rfl ?_
    refine rx_lv [2, 3, 4, 1, 0] rfl ?_
    refine lw_Poi_signAmong_38 hG hll C v0 m_v0 k_v0 v1 m_v1 k_v1 v2 _ _ _ _ _ hm (fun σ_25 hm => ?_)
    refine rx_aload_n C 0 dX5_signAmong_118 rfl ?_
    refine gf_221 C m_v0 k_v0 dX5_signAmong_119 hm (fun p_26 m_p_26 k_p_26 hm => ?_)
    obtain ⟨r_27, hc_28, hm⟩ := rr_b0_some hm
    refine rr_callV (rest := []) (st1 := [.int r_27]) C 0 hll (c_Big_signum l G hG p_26 m_p_26 k_p_26 σ_25 _ hc_28) q_702 q_588 q_589 q_6 q_590 hd_Big_signum ⟨_, rfl, rfl⟩ (by decide) m_p_26 k_p_26 ⟨by decide, by decide⟩ rfl rfl (Nat.le_of_ble_eq_true rfl) rfl dX5_signAmong_122 ?_
    exact rx_iret C dX5_signAmong_125 hm
  refine rx_iconst (v := 0) C dX5_signAmong_16 rfl ?_
  exact rx_iret C dX5_signAmong_17 hm
def f_Poi_shorten (fu : Nat) (N : Nat → Nat) (v0 : Nat) (v1 : Int32) (σ : rr_M) : Option (Unit × rr_M) :=
    rr_lt (mg_r σ v0 0) fun p_1 =>
    Option.bind (f_Big_signum N p_1 σ) fun r_2 =>
    rr_jn (fun (t_4 : Int32) =>
    rr_lt (mg_r σ v0 0) fun p_5 =>
    rr_bd (f_Big_shiftDown fu N p_5 t_4 σ) fun _ σ_6 =>
    rr_lt (ms_i σ_6 v0 1 (v1 - t_4)) fun σ_8 =>
    some ((), σ_8)) fun j25 =>
    if r_2 = 0 then (j25 v1) else
    rr_lt (mg_r σ v0 0) fun p_10 =>
    Option.bind (f_Big_trailingZeros fu N p_10 σ) fun r_11 =>
    j25 (rr_mn r_11 v1)
theorem c_Poi_shorten (l : Launch) (G : rr_G) (hG : G.2.2.1.Nodup) (fu : Nat) (v0 : Nat) (m_v0 : v0 ∈ G.2.2.1) (k_v0 : G.2.2.2.1 v0 = 4) (v1 : Int32) (σ : rr_M) (σr : rr_M) (hm : f_Poi_shorten fu G.2.2.2.2 v0 v1 σ = some ((), σr)) : rr_Met l G yX5_shorten cX5_shorten 3 none 3 64 [.ref v0, .int v1] σ σr none := by
  refine rr_enter (lv0 := [(0, .ref v0), (1, .int v1)]) hp_Poi_shorten hG (Nat.le_of_ble_eq_true rfl) rfl (fun X hll C => ?_)
  replace C : rr_C X G cX5_shorten 3 "RootRows$Point" none 3 64 := C
  unfold f_Poi_shorten at hm
  refine rx_aload_n C 0 dX5_shorten_0 rfl ?_
  refine gf_218 C m_v0 k_v0 dX5_shorten_1 hm (fun p_1 m_p_1 k_p_1 hm => ?_)
  obtain ⟨r_2, hc_3, hm⟩ := rr_b0_some hm
  refine rr_callV (rest := []) (st1 := [.int r_2]) C 0 hll (c_Big_signum l G hG p_1 m_p_1 k_p_1 σ _ hc_3) q_702 q_588 q_589 q_6 q_590 hd_Big_signum ⟨_, rfl, rfl⟩ (by decide) m_p_1 k_p_1 ⟨by decide, by decide⟩ rfl rfl (Nat.le_of_ble_eq_true rfl) rfl dX5_shorten_4 ?_
  refine rr_jn1 hm (fun j25 ej25 hm => ?_)
  have hj25 : ∀ (t_4 : Int32), j25 t_4 = some ((), σr) → rr_J X G 3 (rr_E X G σr none) σ 25 [(0, .ref v0), (1, .int v1)] [.int t_4] := by
    intro t_4 hm
    replace hm := ej25 _ hm
    refine rx_istore_n (lv1 := [(2, .int t_4), (0, .ref v0), (1, .int v1)]) C dX5_shorten_25 (by decide) rfl ?_
    refine rx_aload_n C 1 dX5_shorten_26 rfl ?_
    refine gf_218 C m_v0 k_v0 dX5_shorten_27 hm (fun p_5 m_p_5 k_p_5 hm => ?_)
    refine rx_iload_n C 0 dX5_shorten_30 rfl ?_
    obtain ⟨_, σ_6, hc_7, hm⟩ := rr_bd_some hm
    refine rr_callV (rest := []) (st1 := []) C 0 hll (c_Big_shiftDown l G hG fu p_5 m_p_5 k_p_5 t_4 σ _ hc_7) q_705 q_608 q_609 q_6 q_610 hd_Big_shiftDown ⟨_, rfl, rfl⟩ (by decide) m_p_5 k_p_5 ⟨by decide, by decide⟩ rfl rfl (Nat.le_of_ble_eq_true rfl) rfl dX5_shorten_31 ?_
    refine rx_aload_n C 1 dX5_shorten_34 rfl ?_
    refine rx_iload_n C 2 dX5_shorten_35 rfl ?_
    refine rx_iload_n C 0 dX5_shorten_36 rfl ?_
    refine rx_isub C dX5_shorten_37 ?_
    refine pf_219 C m_v0 k_v0 dX5_shorten_38 hm (fun σ_8 hm => ?_)
    exact rx_vret C dX5_shorten_41 hm
  refine rx_if_ne (tgt := 14) C dX5_shorten_7 (by decide) hm (fun h_9 hm => ?_) (fun h_9 hm => ?_)
  · refine rx_aload_n C 0 dX5_shorten_14 rfl ?_
    refine gf_218 C m_v0 k_v0 dX5_shorten_15 hm (fun p_10 m_p_10 k_p_10 hm => ?_)
    obtain ⟨r_11, hc_12, hm⟩ := rr_b0_some hm
    refine rr_callV (rest := []) (st1 := [.int r_11]) C 0 hll (c_Big_trailingZeros l G hG fu p_10 m_p_10 k_p_10 σ _ hc_12) q_703 q_597 q_598 q_6 q_599 hd_Big_trailingZeros ⟨_, rfl, rfl⟩ (by decide) m_p_10 k_p_10 ⟨by decide, by decide⟩ rfl rfl (Nat.le_of_ble_eq_true rfl) rfl dX5_shorten_18 ?_
    refine rx_iload_n C 1 dX5_shorten_21 rfl ?_
    refine rx_mmin (rest := []) C q_704 (by decide) (by decide) (Nat.le_of_ble_eq_true rfl) dX5_shorten_22 ?_
    refine rx_lv [0, 1] rfl ?_
    exact hj25 _ hm
  refine rx_iload_n C 1 dX5_shorten_10 rfl ?_
  refine rx_goto (tgt := 25) C dX5_shorten_11 (by decide) ?_
  refine rx_lv [0, 1] rfl ?_
  exact hj25 _ hm
def f_Poi_move (fu : Nat) (N : Nat → Nat) (v0 : Nat) (v1 : Int64) (v3 : Int32) (σ : rr_M) : Option (Unit × rr_M) :=
    rr_lt (mg_r σ v0 0) fun p_1 =>
    rr_bd (f_Big_set fu N p_1 v1 σ) fun _ σ_2 =>
    rr_bd (f_Poi_shorten fu N v0 v3 σ_2) fun _ σ_4 =>
    some ((), σ_4)
theorem c_Poi_move (l : Launch) (G : rr_G) (hG : G.2.2.1.Nodup) (fu : Nat) (v0 : Nat) (m_v0 : v0 ∈ G.2.2.1) (k_v0 : G.2.2.2.1 v0 = 4) (v1 : Int64) (v3 : Int32) (σ : rr_M) (σr : rr_M) (hm : f_Poi_move fu G.2.2.2.2 v0 v1 v3 σ = some ((), σr)) : rr_Met l G yX5_move cX5_move 4 none 4 86 [.ref v0, .long v1, .int v3] σ σr none := by
  refine rr_enter (lv0 := [(0, .ref v0), (1, .long v1), (3, .int v3)]) hp_Poi_move hG (Nat.le_of_ble_eq_true rfl) rfl (fun X hll C => ?_)
  replace C : rr_C X G cX5_move 4 "RootRows$Point" none 4 86 := C
  unfold f_Poi_move at hm
  refine rx_aload_n C 0 dX5_move_0 rfl ?_
  refine gf_218 C m_v0 k_v0 dX5_move_1 hm (fun p_1 m_p_1 k_p_1 hm => ?_)
  refine rx_lload_n C 1 dX5_move_4 rfl ?_
  obtain ⟨_, σ_2, hc_3, hm⟩ := rr_bd_some hm
  refine rr_callV (rest := []) (st1 := []) C 0 hll (c_Big_set l G hG fu p_1 m_p_1 k_p_1 v1 σ _ hc_3) q_697 q_271 q_272 q_6 q_273 hd_Big_set ⟨_, rfl, rfl⟩ (by decide) m_p_1 k_p_1 ⟨by decide, by decide⟩ rfl rfl (Nat.le_of_ble_eq_true rfl) rfl dX5_move_5 ?_
  refine rx_aload_n C 0 dX5_move_8 rfl ?_
  refine rx_iload_n C 2 dX5_move_9 rfl ?_
  obtain ⟨_, σ_4, hc_5, hm⟩ := rr_bd_some hm
  refine rr_callV (rest := []) (st1 := []) C 4 hll (c_Poi_shorten l G hG fu v0 m_v0 k_v0 v3 σ_2 _ hc_5) q_698 q_700 qs_27 q_8 q_701 hd_Poi_shorten ⟨_, rfl, rfl⟩ (by decide) m_v0 k_v0 ⟨by decide, by decide⟩ rfl rfl (Nat.le_of_ble_eq_true rfl) rfl dX5_move_10 ?_
  exact rx_vret C dX5_move_13 hm
def f_Poi_moveTo (fu : Nat) (N : Nat → Nat) (v0 : Nat) (v1 : Nat) (v2 : Int32) (σ : rr_M) : Option (Unit × rr_M) :=
    rr_lt (mg_r σ v0 0) fun p_1 =>
    rr_bd (f_Big_copy N p_1 v1 σ) fun _ σ_2 =>
    rr_bd (f_Poi_shorten fu N v0 v2 σ_2) fun _ σ_4 =>
    some ((), σ_4)
theorem c_Poi_moveTo (l : Launch) (G : rr_G) (hG : G.2.2.1.Nodup) (fu : Nat) (v0 : Nat) (m_v0 : v0 ∈ G.2.2.1) (k_v0 : G.2.2.2.1 v0 = 4) (v1 : Nat) (m_v1 : v1 ∈ G.2.2.1) (k_v1 : G.2.2.2.1 v1 = 0) (v2 : Int32) (σ : rr_M) (σr : rr_M) (hm : f_Poi_moveTo fu G.2.2.2.2 v0 v1 v2 σ = some ((), σr)) : rr_Met l G yX5_moveTo cX5_moveTo 3 none 4 89 [.ref v0, .ref v1, .int v2] σ σr none := by
  refine rr_enter (lv0 := [(0, .ref v0), (1, .ref v1), (2, .int v2)]) hp_Poi_moveTo hG (Nat.le_of_ble_eq_true rfl) rfl (fun X hll C => ?_)
  replace C : rr_C X G cX5_moveTo 3 "RootRows$Point" none 4 89 := C
  unfold f_Poi_moveTo at hm
  refine rx_aload_n C 0 dX5_moveTo_0 rfl ?_
  refine gf_218 C m_v0 k_v0 dX5_moveTo_1 hm (fun p_1 m_p_1 k_p_1 hm => ?_)
  refine rx_aload_n C 1 dX5_moveTo_4 rfl ?_
  obtain ⟨_, σ_2, hc_3, hm⟩ := rr_bd_some hm
  refine rr_callV (rest := []) (st1 := []) C 0 hll (c_Big_copy l G hG p_1 m_p_1 k_p_1 v1 m_v1 k_v1 σ _ hc_3) q_714 q_563 q_564 q_6 q_565 hd_Big_copy ⟨_, rfl, rfl⟩ (by decide) m_p_1 k_p_1 ⟨by decide, by decide⟩ rfl rfl (Nat.le_of_ble_eq_true rfl) rfl dX5_moveTo_5 ?_
  refine rx_aload_n C 0 dX5_moveTo_8 rfl ?_
  refine rx_iload_n C 2 dX5_moveTo_9 rfl ?_
  obtain ⟨_, σ_4, hc_5, hm⟩ := rr_bd_some hm
  refine rr_callV (rest := []) (st1 := []) C 4 hll (c_Poi_shorten l G hG fu v0 m_v0 k_v0 v2 σ_2 _ hc_5) q_698 q_700 qs_27 q_8 q_701 hd_Poi_shorten ⟨_, rfl, rfl⟩ (by decide) m_v0 k_v0 ⟨by decide, by decide⟩ rfl rfl (Nat.le_of_ble_eq_true rfl) rfl dX5_moveTo_10 ?_
  exact rx_vret C dX5_moveTo_13 hm
def l_Poi_signOf_12 (fu : Nat) (N : Nat → Nat) (v0 : Nat) (v1 : Nat) (v2 : Int32) : Nat → Int32 → rr_M → (rr_M → Option (Int32 × rr_M)) → Option (Int32 × rr_M)
  | 0, _, _, _ => none
  | n + 1, v3, σ, kk =>
    if v2 < v3 then (kk σ) else
    rr_lt (mg_r σ v0 2) fun p_5 =>
    (if rr_ix v3 (N p_5) then rr_lt (mg_r σ p_5 (rr_n v3)) fun p_6 =>
    (if rr_ix v3 (N v1) then
    rr_bd (f_Big_set fu N p_6 (mg_l σ v1 (rr_n v3)) σ) fun _ σ_7 =>
    rr_lt (v3 + 1) fun v3_9 =>
    l_Poi_signOf_12 fu N v0 v1 v2 n v3_9 σ_7 kk else none) else none)
theorem lw_Poi_signOf_12 {X : rr_X} {G : rr_G} {l : Launch} {fu : Nat} (hG : G.2.2.1.Nodup) (hll : X.2.1 = l) (C : rr_C X G cX5_signOf 4 "RootRows$Point" (some .int) 3 115) {r : Int32} {σr : rr_M} (v0 : Nat) (m_v0 : v0 ∈ G.2.2.1) (k_v0 : G.2.2.2.1 v0 = 4) (v1 : Nat) (m_v1 : v1 ∈ G.2.2.1) (k_v1 : G.2.2.2.1 v1 = 12) (v2 : Int32) : ∀ (n : Nat) (v3 : Int32) (σ : rr_M) (K : rr_M → Option (Int32 × rr_M)), l_Poi_signOf_12 fu G.2.2.2.2 v0 v1 v2 n v3 σ K = some (r, σr) → (∀ (σ1 : rr_M), K σ1 = some (r, σr) → rr_J X G 4 (rr_E X G σr (some (.int r))) σ1 35 [(0, .ref v0), (2, .int v2)] []) → rr_J X G 4 (rr_E X G σr (some (.int r))) σ 12 [(0, .ref v0), (1, .ref v1), (2, .int v2), (3, .int v3)] [] := by
  intro n
  induction n with
  | zero =>
    intro v3 σ K hm
    cases hm
  | succ n ih =>
    intro v3 σ K hm hk
    unfold l_Poi_signOf_12 at hm
    refine rx_iload_n C 3 dX5_signOf_12 rfl ?_
    refine rx_iload_n C 2 dX5_signOf_13 rfl ?_
    refine rx_icmp_gt (tgt := 35) C dX5_signOf_14 (by decide) hm (fun h_4 hm => ?_) (fun h_4 hm => ?_)
    · refine rx_lv [0, 2] rfl ?_
      exact hk _ hm
    refine rx_aload_n C 0 dX5_signOf_17 rfl ?_
    refine gf_220 C m_v0 k_v0 dX5_signOf_18 hm (fun p_5 m_p_5 k_p_5 hm => ?_)
    refine rx_iload_n C 3 dX5_signOf_21 rfl ?_
    refine rx_ald14 C m_p_5 k_p_5 dX5_signOf_22 hm (fun p_6 m_p_6 k_p_6 hm => ?_)
    refine rx_aload_n C 1 dX5_signOf_23 rfl ?_
    refine rx_iload_n C 3 dX5_signOf_24 rfl ?_
    refine rx_lald C m_v1 k_v1 dX5_signOf_25 hm (fun hm => ?_)
    obtain ⟨_, σ_7, hc_8, hm⟩ := rr_bd_some hm
    refine rr_callV (rest := []) (st1 := []) C 0 hll (c_Big_set l G hG fu p_6 m_p_6 k_p_6 (mg_l σ v1 (rr_n v3)) σ _ hc_8) q_697 q_271 q_272 q_6 q_273 hd_Big_set ⟨_, rfl, rfl⟩ (by decide) m_p_6 k_p_6 ⟨by decide, by decide⟩ rfl rfl (Nat.le_of_ble_eq_true rfl) rfl dX5_signOf_26 ?_
    refine rx_iinc (d := 1) (lv1 := fun v => [(3, .int v), (0, .ref v0), (1, .ref v1), (2, .int v2)]) C 3 dX5_signOf_29 hm rfl rfl (by decide) (fun _ => rfl) (fun v3_9 hm => ?_)
    refine rx_goto (tgt := 12) C dX5_signOf_32 (by decide) ?_
    refine rx_lv [1, 2, 3, 0] rfl ?_
    exact ih _ _ _ hm hk
def f_Poi_signOf (fu : Nat) (N : Nat → Nat) (v0 : Nat) (v1 : Nat) (σ : rr_M) : Option (Int32 × rr_M) :=
    Option.bind (f_Num_degreeOf fu N v1 σ) fun r_1 =>
    rr_lt (rr_mn r_1 8) fun v2_3 =>
    l_Poi_signOf_12 fu N v0 v1 v2_3 fu 0 σ (fun σ_10 =>
    rr_lt (mg_r σ_10 v0 2) fun p_11 =>
    rr_bd (f_Poi_signAmong fu N v0 p_11 0 v2_3 σ_10) fun r_12 σ_13 =>
    some (r_12, σ_13))
theorem c_Poi_signOf (l : Launch) (G : rr_G) (hG : G.2.2.1.Nodup) (fu : Nat) (v0 : Nat) (m_v0 : v0 ∈ G.2.2.1) (k_v0 : G.2.2.2.1 v0 = 4) (v1 : Nat) (m_v1 : v1 ∈ G.2.2.1) (k_v1 : G.2.2.2.1 v1 = 12) (σ : rr_M) (r : Int32) (σr : rr_M) (hm : f_Poi_signOf fu G.2.2.2.2 v0 v1 σ = some (r, σr)) : rr_Met l G yX5_signOf cX5_signOf 4 (some .int) 3 115 [.ref v0, .ref v1] σ σr (some (.int r)) := by
  refine rr_enter (lv0 := [(0, .ref v0), (1, .ref v1)]) hp_Poi_signOf hG (Nat.le_of_ble_eq_true rfl) rfl (fun X hll C => ?_)
  replace C : rr_C X G cX5_signOf 4 "RootRows$Point" (some .int) 3 115 := C
  unfold f_Poi_signOf at hm
  refine rx_aload_n C 1 dX5_signOf_0 rfl ?_
  obtain ⟨r_1, hc_2, hm⟩ := rr_b0_some hm
  refine rr_callS (rest := []) (st1 := [.int r_1]) C hll (c_Num_degreeOf l G hG fu v1 m_v1 k_v1 σ _ hc_2) q_752 q_487 q_12 q_488 hd_Num_degreeOf ⟨by decide, by decide⟩ rfl rfl (Nat.le_of_ble_eq_true rfl) rfl dX5_signOf_1 ?_
  refine rx_bipush (v := 8) C dX5_signOf_4 rfl ?_
  refine rx_mmin (rest := []) C q_704 (by decide) (by decide) (Nat.le_of_ble_eq_true rfl) dX5_signOf_6 ?_
  refine rx_nmi hm (fun v2_3 ev2_3 hm => ?_)
  refine rx_istore_n (lv1 := [(2, .int v2_3), (0, .ref v0), (1, .ref v1)]) C dX5_signOf_9 (by decide) rfl ?_
  refine rx_iconst (v := 0) C dX5_signOf_10 rfl ?_
  refine rx_istore_n (lv1 := [(3, .int 0), (2, .int v2_3), (0, .ref v0), (1, .ref v1)]) C dX5_signOf_11 (by decide) rfl ?_
  refine rx_lv [2, 3, 1, 0] rfl ?_
  refine lw_Poi_signOf_12 hG hll C v0 m_v0 k_v0 v1 m_v1 k_v1 v2_3 _ _ _ _ hm (fun σ_10 hm => ?_)
  refine rx_aload_n C 0 dX5_signOf_35 rfl ?_
  refine rx_aload_n C 0 dX5_signOf_36 rfl ?_
  refine gf_220 C m_v0 k_v0 dX5_signOf_37 hm (fun p_11 m_p_11 k_p_11 hm => ?_)
  refine rx_iconst (v := 0) C dX5_signOf_40 rfl ?_
  refine rx_iload_n C 1 dX5_signOf_41 rfl ?_
  obtain ⟨r_12, σ_13, hc_14, hm⟩ := rr_bd_some hm
  refine rr_callV (rest := []) (st1 := [.int r_12]) C 4 hll (c_Poi_signAmong l G hG fu v0 m_v0 k_v0 p_11 m_p_11 k_p_11 0 v2_3 σ_10 _ _ hc_14) q_753 q_711 q_712 q_8 q_713 hd_Poi_signAmong ⟨_, rfl, rfl⟩ (by decide) m_v0 k_v0 ⟨by decide, by decide⟩ rfl rfl (Nat.le_of_ble_eq_true rfl) rfl dX5_signOf_42 ?_
  exact rx_iret C dX5_signOf_45 hm
