def f_Mod_limbAt (N : Nat → Nat) (v0 : Nat) (v1 : Int32) (v2 : Int32) (σ : rr_M) : Option (Int32) :=
    rr_lt (mg_r σ v0 1) fun p_1 =>
    (if rr_ix ((200 * v1) + v2) (N p_1) then
    some (mg_i σ p_1 (rr_n ((200 * v1) + v2))) else none)
theorem c_Mod_limbAt (l : Launch) (G : rr_G) (hG : G.2.2.1.Nodup) (v0 : Nat) (m_v0 : v0 ∈ G.2.2.1) (k_v0 : G.2.2.2.1 v0 = 9) (v1 : Int32) (v2 : Int32) (σ : rr_M) (r : Int32) (hm : f_Mod_limbAt G.2.2.2.2 v0 v1 v2 σ = some r) : rr_Met l G yX11_limbAt cX11_limbAt 3 (some .int) 0 0 [.ref v0, .int v1, .int v2] σ σ (some (.int r)) := by
  refine rr_enter (lv0 := [(0, .ref v0), (1, .int v1), (2, .int v2)]) hp_Mod_limbAt hG (Nat.le_of_ble_eq_true rfl) rfl (fun X hll C => ?_)
  replace C : rr_C X G cX11_limbAt 3 "RootRowsModel" (some .int) 0 0 := C
  unfold f_Mod_limbAt at hm
  refine rx_aload_n C 0 dX11_limbAt_0 rfl ?_
  refine gf_842 C m_v0 k_v0 dX11_limbAt_1 hm (fun p_1 m_p_1 k_p_1 hm => ?_)
  refine rx_sipush (v := 200) C dX11_limbAt_4 rfl ?_
  refine rx_iload_n C 1 dX11_limbAt_7 rfl ?_
  refine rx_imul C dX11_limbAt_8 ?_
  refine rx_iload_n C 2 dX11_limbAt_9 rfl ?_
  refine rx_iadd C dX11_limbAt_10 ?_
  refine rx_iald C m_p_1 k_p_1 dX11_limbAt_11 hm (fun hm => ?_)
  exact rx_iretR C dX11_limbAt_12 hm
def l_Mod_against_45 (fu : Nat) (N : Nat → Nat) (v0 : Nat) (v1 : Int32) (v2 : Int32) (σ : rr_M) : Nat → Int32 → (Option (Int32)) → Option (Int32)
  | 0, _, _ => none
  | n + 1, v3, kk =>
    if v3 < 0 then (kk) else
    Option.bind (f_Mod_limbAt N v0 v1 v3 σ) fun r_7 =>
    Option.bind (f_Mod_limbAt N v0 v2 v3 σ) fun r_9 =>
    if r_7 = r_9 then (rr_lt (v3 + (-1)) fun v3_12 =>
    l_Mod_against_45 fu N v0 v1 v2 σ n v3_12 kk) else
    Option.bind (f_Mod_limbAt N v0 v1 v3 σ) fun r_13 =>
    Option.bind (f_Mod_limbAt N v0 v2 v3 σ) fun r_15 =>
    if r_15 ≤ r_13 then (some (1)) else
    some ((-1))
theorem lw_Mod_against_45 {X : rr_X} {G : rr_G} {l : Launch} {fu : Nat} (hG : G.2.2.1.Nodup) (hll : X.2.1 = l) (C : rr_C X G cX11_against 4 "RootRowsModel" (some .int) 1 22) {r : Int32}  (σ : rr_M) (v0 : Nat) (m_v0 : v0 ∈ G.2.2.1) (k_v0 : G.2.2.2.1 v0 = 9) (v1 : Int32) (v2 : Int32) : ∀ (n : Nat) (v3 : Int32) (K : Option (Int32)), l_Mod_against_45 fu G.2.2.2.2 v0 v1 v2 σ n v3 K = some r → (∀ (_ : Unit), K = some r → rr_J X G 4 (rr_E X G σ (some (.int r))) σ 91 [] []) → rr_J X G 4 (rr_E X G σ (some (.int r))) σ 45 [(0, .ref v0), (1, .int v1), (2, .int v2), (3, .int v3)] [] := by
  intro n
  induction n with
  | zero =>
    intro v3 K hm
    cases hm
  | succ n ih =>
    intro v3 K hm hk
    unfold l_Mod_against_45 at hm
    refine rx_iload_n C 3 dX11_against_45 rfl ?_
    refine rx_if_lt (tgt := 91) C dX11_against_46 (by decide) hm (fun h_6 hm => ?_) (fun h_6 hm => ?_)
    · refine rx_lv [] rfl ?_
      exact hk () hm
    refine rx_aload_n C 0 dX11_against_49 rfl ?_
    refine rx_iload_n C 1 dX11_against_50 rfl ?_
    refine rx_iload_n C 3 dX11_against_51 rfl ?_
    obtain ⟨r_7, hc_8, hm⟩ := rr_b0_some hm
    refine rr_callV (rest := []) (st1 := [.int r_7]) C 9 hll (c_Mod_limbAt l G hG v0 m_v0 k_v0 v1 v3 σ _ hc_8) q_1005 q_1007 qs_52 q_11 q_1008 hd_Mod_limbAt ⟨_, rfl, rfl⟩ (by decide) m_v0 k_v0 ⟨by decide, by decide⟩ rfl rfl (Nat.le_of_ble_eq_true rfl) rfl dX11_against_52 ?_
    refine rx_aload_n C 0 dX11_against_55 rfl ?_
    refine rx_iload_n C 2 dX11_against_56 rfl ?_
    refine rx_iload_n C 3 dX11_against_57 rfl ?_
    obtain ⟨r_9, hc_10, hm⟩ := rr_b0_some hm
    refine rr_callV (rest := [.int r_7]) (st1 := [.int r_9, .int r_7]) C 9 hll (c_Mod_limbAt l G hG v0 m_v0 k_v0 v2 v3 σ _ hc_10) q_1005 q_1007 qs_52 q_11 q_1008 hd_Mod_limbAt ⟨_, rfl, rfl⟩ (by decide) m_v0 k_v0 ⟨by decide, by decide⟩ rfl rfl (Nat.le_of_ble_eq_true rfl) rfl dX11_against_58 ?_
    refine rx_icmp_eq (tgt := 85) C dX11_against_61 (by decide) hm (fun h_11 hm => ?_) (fun h_11 hm => ?_)
    · refine rx_iinc (d := (-1)) (lv1 := fun v => [(3, .int v), (0, .ref v0), (1, .int v1), (2, .int v2)]) C 3 dX11_against_85 hm rfl rfl (by decide) (fun _ => rfl) (fun v3_12 hm => ?_)
      refine rx_goto (tgt := 45) C dX11_against_88 (by decide) ?_
      refine rx_lv [1, 2, 3, 0] rfl ?_
      exact ih _ _ hm hk
    refine rx_aload_n C 0 dX11_against_64 rfl ?_
    refine rx_iload_n C 1 dX11_against_65 rfl ?_
    refine rx_iload_n C 3 dX11_against_66 rfl ?_
    obtain ⟨r_13, hc_14, hm⟩ := rr_b0_some hm
    refine rr_callV (rest := []) (st1 := [.int r_13]) C 9 hll (c_Mod_limbAt l G hG v0 m_v0 k_v0 v1 v3 σ _ hc_14) q_1005 q_1007 qs_52 q_11 q_1008 hd_Mod_limbAt ⟨_, rfl, rfl⟩ (by decide) m_v0 k_v0 ⟨by decide, by decide⟩ rfl rfl (Nat.le_of_ble_eq_true rfl) rfl dX11_against_67 ?_
    refine rx_aload_n C 0 dX11_against_70 rfl ?_
    refine rx_iload_n C 2 dX11_against_71 rfl ?_
    refine rx_iload_n C 3 dX11_against_72 rfl ?_
    obtain ⟨r_15, hc_16, hm⟩ := rr_b0_some hm
    refine rr_callV (rest := [.int r_13]) (st1 := [.int r_15, .int r_13]) C 9 hll (c_Mod_limbAt l G hG v0 m_v0 k_v0 v2 v3 σ _ hc_16) q_1005 q_1007 qs_52 q_11 q_1008 hd_Mod_limbAt ⟨_, rfl, rfl⟩ (by decide) m_v0 k_v0 ⟨by decide, by decide⟩ rfl rfl (Nat.le_of_ble_eq_true rfl) rfl dX11_against_73 ?_
    refine rx_icmp_ge (tgt := 83) C dX11_against_76 (by decide) hm (fun h_17 hm => ?_) (fun h_17 hm => ?_)
    · refine rx_iconst (v := 1) C dX11_against_83 rfl ?_
      exact rx_iretR C dX11_against_84 hm
    refine rx_iconst (v := (-1)) C dX11_against_79 rfl ?_
    refine rx_goto (tgt := 84) C dX11_against_80 (by decide) ?_
    exact rx_iretR C dX11_against_84 hm
def f_Mod_against (fu : Nat) (N : Nat → Nat) (v0 : Nat) (v1 : Int32) (v2 : Int32) (σ : rr_M) : Option (Int32) :=
    rr_lt (mg_r σ v0 2) fun p_1 =>
    (if rr_ix v1 (N p_1) then
    rr_lt (mg_r σ v0 2) fun p_2 =>
    (if rr_ix v2 (N p_2) then
    if (mg_i σ p_1 (rr_n v1)) = (mg_i σ p_2 (rr_n v2)) then (rr_lt (mg_r σ v0 2) fun p_4 =>
    (if rr_ix v1 (N p_4) then
    rr_lt ((mg_i σ p_4 (rr_n v1)) - 1) fun v3_5 =>
    l_Mod_against_45 fu N v0 v1 v2 σ fu v3_5 (some (0)) else none)) else
    rr_lt (mg_r σ v0 2) fun p_18 =>
    (if rr_ix v1 (N p_18) then
    rr_lt (mg_r σ v0 2) fun p_19 =>
    (if rr_ix v2 (N p_19) then
    if (mg_i σ p_19 (rr_n v2)) ≤ (mg_i σ p_18 (rr_n v1)) then (some (1)) else
    some ((-1)) else none) else none) else none) else none)
theorem c_Mod_against (l : Launch) (G : rr_G) (hG : G.2.2.1.Nodup) (fu : Nat) (v0 : Nat) (m_v0 : v0 ∈ G.2.2.1) (k_v0 : G.2.2.2.1 v0 = 9) (v1 : Int32) (v2 : Int32) (σ : rr_M) (r : Int32) (hm : f_Mod_against fu G.2.2.2.2 v0 v1 v2 σ = some r) : rr_Met l G yX11_against cX11_against 4 (some .int) 1 22 [.ref v0, .int v1, .int v2] σ σ (some (.int r)) := by
  refine rr_enter (lv0 := [(0, .ref v0), (1, .int v1), (2, .int v2)]) hp_Mod_against hG (Nat.le_of_ble_eq_true rfl) rfl (fun X hll C => ?_)
  replace C : rr_C X G cX11_against 4 "RootRowsModel" (some .int) 1 22 := C
  unfold f_Mod_against at hm
  refine rx_aload_n C 0 dX11_against_0 rfl ?_
  refine gf_843 C m_v0 k_v0 dX11_against_1 hm (fun p_1 m_p_1 k_p_1 hm => ?_)
  refine rx_iload_n C 1 dX11_against_4 rfl ?_
  refine rx_iald C m_p_1 k_p_1 dX11_against_5 hm (fun hm => ?_)
  refine rx_aload_n C 0 dX11_against_6 rfl ?_
  refine gf_843 C m_v0 k_v0 dX11_against_7 hm (fun p_2 m_p_2 k_p_2 hm => ?_)
  refine rx_iload_n C 2 dX11_against_10 rfl ?_
  refine rx_iald C m_p_2 k_p_2 dX11_against_11 hm (fun hm => ?_)
  refine rx_icmp_eq (tgt := 36) C dX11_against_12 (by decide) hm (fun h_3 hm => ?_) (fun h_3 hm => ?_)
  · refine rx_aload_n C 0 dX11_against_36 rfl ?_
    refine gf_843 C m_v0 k_v0 dX11_against_37 hm (fun p_4 m_p_4 k_p_4 hm => ?_)
    refine rx_iload_n C 1 dX11_against_40 rfl ?_
    refine rx_iald C m_p_4 k_p_4 dX11_against_41 hm (fun hm => ?_)
    refine rx_iconst (v := 1) C dX11_against_42 rfl ?_
    refine rx_isub C dX11_against_43 ?_
    refine rx_nmi hm (fun v3_5 ev3_5 hm => ?_)
    refine rx_istore_n (lv1 := [(3, .int v3_5), (0, .ref v0), (1, .int v1), (2, .int v2)]) C dX11_against_44 (by decide) rfl ?_
    refine rx_lv [1, 2, 3, 0] rfl ?_
    refine lw_Mod_against_45 hG hll C σ v0 m_v0 k_v0 v1 v2 _ _ _ hm (fun _ hm => ?_)
    refine rx_iconst (v := 0) C dX11_against_91 rfl ?_
    exact rx_iretR C dX11_against_92 hm
  refine rx_aload_n C 0 dX11_against_15 rfl ?_
  refine gf_843 C m_v0 k_v0 dX11_against_16 hm (fun p_18 m_p_18 k_p_18 hm => ?_)
  refine rx_iload_n C 1 dX11_against_19 rfl ?_
  refine rx_iald C m_p_18 k_p_18 dX11_against_20 hm (fun hm => ?_)
  refine rx_aload_n C 0 dX11_against_21 rfl ?_
  refine gf_843 C m_v0 k_v0 dX11_against_22 hm (fun p_19 m_p_19 k_p_19 hm => ?_)
  refine rx_iload_n C 2 dX11_against_25 rfl ?_
  refine rx_iald C m_p_19 k_p_19 dX11_against_26 hm (fun hm => ?_)
  refine rx_icmp_ge (tgt := 34) C dX11_against_27 (by decide) hm (fun h_20 hm => ?_) (fun h_20 hm => ?_)
  · refine rx_iconst (v := 1) C dX11_against_34 rfl ?_
    exact rx_iretR C dX11_against_35 hm
  refine rx_iconst (v := (-1)) C dX11_against_30 rfl ?_
  refine rx_goto (tgt := 35) C dX11_against_31 (by decide) ?_
  exact rx_iretR C dX11_against_35 hm
def l_Mod_copies_2 (fu : Nat) (N : Nat → Nat) (v0 : Nat) (v1 : Int32) (v2 : Int32) : Nat → Int32 → rr_M → (rr_M → Option (Unit × rr_M)) → Option (Unit × rr_M)
  | 0, _, _, _ => none
  | n + 1, v3, σ, kk =>
    rr_lt (mg_r σ v0 2) fun p_1 =>
    (if rr_ix v2 (N p_1) then
    if (mg_i σ p_1 (rr_n v2)) ≤ v3 then (kk σ) else
    rr_lt (mg_r σ v0 1) fun p_3 =>
    Option.bind (f_Mod_limbAt N v0 v2 v3 σ) fun r_4 =>
    (if rr_ix ((200 * v1) + v3) (N p_3) then rr_lt (ms_i σ p_3 (rr_n ((200 * v1) + v3)) r_4) fun σ_6 =>
    rr_lt (v3 + 1) fun v3_7 =>
    l_Mod_copies_2 fu N v0 v1 v2 n v3_7 σ_6 kk else none) else none)
theorem lw_Mod_copies_2 {X : rr_X} {G : rr_G} {l : Launch} {fu : Nat} (hG : G.2.2.1.Nodup) (hll : X.2.1 = l) (C : rr_C X G cX11_copies 4 "RootRowsModel" none 1 22) {σr : rr_M} (v0 : Nat) (m_v0 : v0 ∈ G.2.2.1) (k_v0 : G.2.2.2.1 v0 = 9) (v1 : Int32) (v2 : Int32) : ∀ (n : Nat) (v3 : Int32) (σ : rr_M) (K : rr_M → Option (Unit × rr_M)), l_Mod_copies_2 fu G.2.2.2.2 v0 v1 v2 n v3 σ K = some ((), σr) → (∀ (σ1 : rr_M), K σ1 = some ((), σr) → rr_J X G 4 (rr_E X G σr none) σ1 36 [(0, .ref v0), (1, .int v1), (2, .int v2)] []) → rr_J X G 4 (rr_E X G σr none) σ 2 [(0, .ref v0), (1, .int v1), (2, .int v2), (3, .int v3)] [] := by
  intro n
  induction n with
  | zero =>
    intro v3 σ K hm
    cases hm
  | succ n ih =>
    intro v3 σ K hm hk
    unfold l_Mod_copies_2 at hm
    refine rx_iload_n C 3 dX11_copies_2 rfl ?_
    refine rx_aload_n C 0 dX11_copies_3 rfl ?_
    refine gf_843 C m_v0 k_v0 dX11_copies_4 hm (fun p_1 m_p_1 k_p_1 hm => ?_)
    refine rx_iload_n C 2 dX11_copies_7 rfl ?_
    refine rx_iald C m_p_1 k_p_1 dX11_copies_8 hm (fun hm => ?_)
    refine rx_icmp_ge (tgt := 36) C dX11_copies_9 (by decide) hm (fun h_2 hm => ?_) (fun h_2 hm => ?_)
    · refine rx_lv [0, 1, 2] rfl ?_
      exact hk _ hm
    refine rx_aload_n C 0 dX11_copies_12 rfl ?_
    refine gf_842 C m_v0 k_v0 dX11_copies_13 hm (fun p_3 m_p_3 k_p_3 hm => ?_)
    refine rx_sipush (v := 200) C dX11_copies_16 rfl ?_
    refine rx_iload_n C 1 dX11_copies_19 rfl ?_
    refine rx_imul C dX11_copies_20 ?_
    refine rx_iload_n C 3 dX11_copies_21 rfl ?_
    refine rx_iadd C dX11_copies_22 ?_
    refine rx_aload_n C 0 dX11_copies_23 rfl ?_
    refine rx_iload_n C 2 dX11_copies_24 rfl ?_
    refine rx_iload_n C 3 dX11_copies_25 rfl ?_
    obtain ⟨r_4, hc_5, hm⟩ := rr_b0_some hm
    refine rr_callV (rest := [.int ((200 * v1) + v3), .ref p_3]) (st1 := [.int r_4, .int ((200 * v1) + v3), .ref p_3]) C 9 hll (c_Mod_limbAt l G hG v0 m_v0 k_v0 v2 v3 σ _ hc_5) q_1005 q_1007 qs_52 q_11 q_1008 hd_Mod_limbAt ⟨_, rfl, rfl⟩ (by decide) m_v0 k_v0 ⟨by decide, by decide⟩ rfl rfl (Nat.le_of_ble_eq_true rfl) rfl dX11_copies_26 ?_
    refine rx_iast C m_p_3 k_p_3 dX11_copies_29 hm (fun σ_6 hm => ?_)
    refine rx_iinc (d := 1) (lv1 := fun v => [(3, .int v), (0, .ref v0), (1, .int v1), (2, .int v2)]) C 3 dX11_copies_30 hm rfl rfl (by decide) (fun _ => rfl) (fun v3_7 hm => ?_)
    refine rx_goto (tgt := 2) C dX11_copies_33 (by decide) ?_
    refine rx_lv [1, 2, 3, 0] rfl ?_
    exact ih _ _ _ hm hk
def f_Mod_copies (fu : Nat) (N : Nat → Nat) (v0 : Nat) (v1 : Int32) (v2 : Int32) (σ : rr_M) : Option (Unit × rr_M) :=
    l_Mod_copies_2 fu N v0 v1 v2 fu 0 σ (fun σ_8 =>
    rr_lt (mg_r σ_8 v0 2) fun p_9 =>
    rr_lt (mg_r σ_8 v0 2) fun p_10 =>
    (if rr_ix v2 (N p_10) then
    (if rr_ix v1 (N p_9) then rr_lt (ms_i σ_8 p_9 (rr_n v1) (mg_i σ_8 p_10 (rr_n v2))) fun σ_11 =>
    rr_lt (mg_r σ_11 v0 3) fun p_12 =>
    rr_lt (mg_r σ_11 v0 3) fun p_13 =>
    (if rr_ix v2 (N p_13) then
    (if rr_ix v1 (N p_12) then rr_lt (ms_i σ_11 p_12 (rr_n v1) (mg_i σ_11 p_13 (rr_n v2))) fun σ_14 =>
    some ((), σ_14) else none) else none) else none) else none))
theorem c_Mod_copies (l : Launch) (G : rr_G) (hG : G.2.2.1.Nodup) (fu : Nat) (v0 : Nat) (m_v0 : v0 ∈ G.2.2.1) (k_v0 : G.2.2.2.1 v0 = 9) (v1 : Int32) (v2 : Int32) (σ : rr_M) (σr : rr_M) (hm : f_Mod_copies fu G.2.2.2.2 v0 v1 v2 σ = some ((), σr)) : rr_Met l G yX11_copies cX11_copies 4 none 1 22 [.ref v0, .int v1, .int v2] σ σr none := by
  refine rr_enter (lv0 := [(0, .ref v0), (1, .int v1), (2, .int v2)]) hp_Mod_copies hG (Nat.le_of_ble_eq_true rfl) rfl (fun X hll C => ?_)
  replace C : rr_C X G cX11_copies 4 "RootRowsModel" none 1 22 := C
  unfold f_Mod_copies at hm
  refine rx_iconst (v := 0) C dX11_copies_0 rfl ?_
  refine rx_istore_n (lv1 := [(3, .int 0), (0, .ref v0), (1, .int v1), (2, .int v2)]) C dX11_copies_1 (by decide) rfl ?_
  refine rx_lv [1, 2, 3, 0] rfl ?_
  refine lw_Mod_copies_2 hG hll C v0 m_v0 k_v0 v1 v2 _ _ _ _ hm (fun σ_8 hm => ?_)
  refine rx_aload_n C 0 dX11_copies_36 rfl ?_
  refine gf_843 C m_v0 k_v0 dX11_copies_37 hm (fun p_9 m_p_9 k_p_9 hm => ?_)
  refine rx_iload_n C 1 dX11_copies_40 rfl ?_
  refine rx_aload_n C 0 dX11_copies_41 rfl ?_
  refine gf_843 C m_v0 k_v0 dX11_copies_42 hm (fun p_10 m_p_10 k_p_10 hm => ?_)
  refine rx_iload_n C 2 dX11_copies_45 rfl ?_
  refine rx_iald C m_p_10 k_p_10 dX11_copies_46 hm (fun hm => ?_)
  refine rx_iast C m_p_9 k_p_9 dX11_copies_47 hm (fun σ_11 hm => ?_)
  refine rx_aload_n C 0 dX11_copies_48 rfl ?_
  refine gf_844 C m_v0 k_v0 dX11_copies_49 hm (fun p_12 m_p_12 k_p_12 hm => ?_)
  refine rx_iload_n C 1 dX11_copies_52 rfl ?_
  refine rx_aload_n C 0 dX11_copies_53 rfl ?_
  refine gf_844 C m_v0 k_v0 dX11_copies_54 hm (fun p_13 m_p_13 k_p_13 hm => ?_)
  refine rx_iload_n C 2 dX11_copies_57 rfl ?_
  refine rx_iald C m_p_13 k_p_13 dX11_copies_58 hm (fun hm => ?_)
  refine rx_iast C m_p_12 k_p_12 dX11_copies_59 hm (fun σ_14 hm => ?_)
  exact rx_vret C dX11_copies_60 hm
def l_Mod_trims_2 (fu : Nat) (N : Nat → Nat) (v0 : Nat) (v1 : Int32) (σ : rr_M) : Nat → Int32 → (Int32 → Option (Unit × rr_M)) → Option (Unit × rr_M)
  | 0, _, _ => none
  | n + 1, v3, kk =>
    if v3 ≤ 0 then (kk v3) else
    Option.bind (f_Mod_limbAt N v0 v1 (v3 - 1) σ) fun r_2 =>
    if r_2 = 0 then (rr_lt (v3 + (-1)) fun v3_5 =>
    l_Mod_trims_2 fu N v0 v1 σ n v3_5 kk) else
    kk v3
theorem lw_Mod_trims_2 {X : rr_X} {G : rr_G} {l : Launch} {fu : Nat} (hG : G.2.2.1.Nodup) (hll : X.2.1 = l) (C : rr_C X G cX11_trims 4 "RootRowsModel" none 1 22) {σr : rr_M} (σ : rr_M) (v0 : Nat) (m_v0 : v0 ∈ G.2.2.1) (k_v0 : G.2.2.2.1 v0 = 9) (v1 : Int32) : ∀ (n : Nat) (v3 : Int32) (K : Int32 → Option (Unit × rr_M)), l_Mod_trims_2 fu G.2.2.2.2 v0 v1 σ n v3 K = some ((), σr) → (∀ (w3 : Int32), K w3 = some ((), σr) → rr_J X G 4 (rr_E X G σr none) σ 23 [(0, .ref v0), (1, .int v1), (3, .int w3)] []) → rr_J X G 4 (rr_E X G σr none) σ 2 [(0, .ref v0), (1, .int v1), (3, .int v3)] [] := by
  intro n
  induction n with
  | zero =>
    intro v3 K hm
    cases hm
  | succ n ih =>
    intro v3 K hm hk
    unfold l_Mod_trims_2 at hm
    refine rx_iload_n C 2 dX11_trims_2 rfl ?_
    refine rx_if_le (tgt := 23) C dX11_trims_3 (by decide) hm (fun h_1 hm => ?_) (fun h_1 hm => ?_)
    · refine rx_lv [0, 1, 2] rfl ?_
      exact hk _ hm
    refine rx_aload_n C 0 dX11_trims_6 rfl ?_
    refine rx_iload_n C 1 dX11_trims_7 rfl ?_
    refine rx_iload_n C 2 dX11_trims_8 rfl ?_
    refine rx_iconst (v := 1) C dX11_trims_9 rfl ?_
    refine rx_isub C dX11_trims_10 ?_
    obtain ⟨r_2, hc_3, hm⟩ := rr_b0_some hm
    refine rr_callV (rest := []) (st1 := [.int r_2]) C 9 hll (c_Mod_limbAt l G hG v0 m_v0 k_v0 v1 (v3 - 1) σ _ hc_3) q_1005 q_1007 qs_52 q_11 q_1008 hd_Mod_limbAt ⟨_, rfl, rfl⟩ (by decide) m_v0 k_v0 ⟨by decide, by decide⟩ rfl rfl (Nat.le_of_ble_eq_true rfl) rfl dX11_trims_11 ?_
    refine rx_if_ne (tgt := 23) C dX11_trims_14 (by decide) hm (fun h_4 hm => ?_) (fun h_4 hm => ?_)
    · refine rx_lv [0, 1, 2] rfl ?_
      exact hk _ hm
    refine rx_iinc (d := (-1)) (lv1 := fun v => [(3, .int v), (0, .ref v0), (1, .int v1)]) C 2 dX11_trims_17 hm rfl rfl (by decide) (fun _ => rfl) (fun v3_5 hm => ?_)
    refine rx_goto (tgt := 2) C dX11_trims_20 (by decide) ?_
    refine rx_lv [1, 2, 0] rfl ?_
    exact ih _ _ hm hk
def f_Mod_trims (fu : Nat) (N : Nat → Nat) (v0 : Nat) (v1 : Int32) (v2 : Int32) (σ : rr_M) : Option (Unit × rr_M) :=
    l_Mod_trims_2 fu N v0 v1 σ fu v2 (fun v3_6 =>
    rr_lt (mg_r σ v0 2) fun p_7 =>
    (if rr_ix v1 (N p_7) then rr_lt (ms_i σ p_7 (rr_n v1) v3_6) fun σ_8 =>
    if v3_6 = 0 then (rr_lt (mg_r σ_8 v0 3) fun p_10 =>
    (if rr_ix v1 (N p_10) then rr_lt (ms_i σ_8 p_10 (rr_n v1) 0) fun σ_11 =>
    some ((), σ_11) else none)) else
    some ((), σ_8) else none))
theorem c_Mod_trims (l : Launch) (G : rr_G) (hG : G.2.2.1.Nodup) (fu : Nat) (v0 : Nat) (m_v0 : v0 ∈ G.2.2.1) (k_v0 : G.2.2.2.1 v0 = 9) (v1 : Int32) (v2 : Int32) (σ : rr_M) (σr : rr_M) (hm : f_Mod_trims fu G.2.2.2.2 v0 v1 v2 σ = some ((), σr)) : rr_Met l G yX11_trims cX11_trims 4 none 1 22 [.ref v0, .int v1, .int v2] σ σr none := by
  refine rr_enter (lv0 := [(0, .ref v0), (1, .int v1), (2, .int v2)]) hp_Mod_trims hG (Nat.le_of_ble_eq_true rfl) rfl (fun X hll C => ?_)
  replace C : rr_C X G cX11_trims 4 "RootRowsModel" none 1 22 := C
  unfold f_Mod_trims at hm
  refine rx_iload_n C 2 dX11_trims_0 rfl ?_
  refine rx_istore_n (lv1 := [(3, .int v2), (0, .ref v0), (1, .int v1), (2, .int v2)]) C dX11_trims_1 (by decide) rfl ?_
  refine rx_lv [1, 2, 0] rfl ?_
  refine lw_Mod_trims_2 hG hll C σ v0 m_v0 k_v0 v1 _ _ _ hm (fun v3_6 hm => ?_)
  refine rx_aload_n C 0 dX11_trims_23 rfl ?_
  refine gf_843 C m_v0 k_v0 dX11_trims_24 hm (fun p_7 m_p_7 k_p_7 hm => ?_)
  refine rx_iload_n C 1 dX11_trims_27 rfl ?_
  refine rx_iload_n C 2 dX11_trims_28 rfl ?_
  refine rx_iast C m_p_7 k_p_7 dX11_trims_29 hm (fun σ_8 hm => ?_)
  refine rx_iload_n C 2 dX11_trims_30 rfl ?_
  refine rx_if_ne (tgt := 41) C dX11_trims_31 (by decide) hm (fun h_9 hm => ?_) (fun h_9 hm => ?_)
  · exact rx_vret C dX11_trims_41 hm
  refine rx_aload_n C 0 dX11_trims_34 rfl ?_
  refine gf_844 C m_v0 k_v0 dX11_trims_35 hm (fun p_10 m_p_10 k_p_10 hm => ?_)
  refine rx_iload_n C 1 dX11_trims_38 rfl ?_
  refine rx_iconst (v := 0) C dX11_trims_39 rfl ?_
  refine rx_iast C m_p_10 k_p_10 dX11_trims_40 hm (fun σ_11 hm => ?_)
  exact rx_vret C dX11_trims_41 hm
def l_Mod_adds_318 (fu : Nat) (N : Nat → Nat) (v0 : Nat) (v1 : Int32) (v7 : Int32) (v8 : Int32) (v10 : Int32) (v12 : Int32) : Nat → Int32 → Int32 → rr_M → (rr_M → Option (Unit × rr_M)) → Option (Unit × rr_M)
  | 0, _, _, _, _ => none
  | n + 1, v11, v13, σ, kk =>
    if v10 ≤ v13 then (kk σ) else
    Option.bind (f_Mod_limbAt N v0 v7 v13 σ) fun r_28 =>
    rr_jn (fun (t_30 : Int32) =>
    rr_lt ((r_28 - t_30) - v11) fun v14_31 =>
    rr_jn (fun (t_32 : Int32) =>
    rr_lt (mg_r σ v0 1) fun p_33 =>
    (if rr_ix ((200 * v1) + v13) (N p_33) then rr_lt (ms_i σ p_33 (rr_n ((200 * v1) + v13)) (v14_31 + (t_32 * 65536))) fun σ_34 =>
    rr_lt (v13 + 1) fun v13_35 =>
    l_Mod_adds_318 fu N v0 v1 v7 v8 v10 v12 n t_32 v13_35 σ_34 kk else none)) fun j368 =>
    if 0 ≤ v14_31 then (j368 0) else
    j368 1) fun j352 =>
    if v12 ≤ v13 then (j352 0) else
    Option.bind (f_Mod_limbAt N v0 v8 v13 σ) fun r_38 =>
    j352 r_38
theorem lw_Mod_adds_318 {X : rr_X} {G : rr_G} {l : Launch} {fu : Nat} (hG : G.2.2.1.Nodup) (hll : X.2.1 = l) (C : rr_C X G cX11_adds 15 "RootRowsModel" none 2 45) {σr : rr_M} (v0 : Nat) (m_v0 : v0 ∈ G.2.2.1) (k_v0 : G.2.2.2.1 v0 = 9) (v1 : Int32) (v7 : Int32) (v8 : Int32) (v9 : Int32) (v10 : Int32) (v12 : Int32) : ∀ (n : Nat) (v11 : Int32) (v13 : Int32) (σ : rr_M) (K : rr_M → Option (Unit × rr_M)), l_Mod_adds_318 fu G.2.2.2.2 v0 v1 v7 v8 v10 v12 n v11 v13 σ K = some ((), σr) → (∀ (σ1 : rr_M), K σ1 = some ((), σr) → rr_J X G 15 (rr_E X G σr none) σ1 397 [(0, .ref v0), (1, .int v1), (9, .int v9), (10, .int v10)] []) → rr_J X G 15 (rr_E X G σr none) σ 318 [(0, .ref v0), (1, .int v1), (7, .int v7), (8, .int v8), (9, .int v9), (10, .int v10), (11, .int v11), (12, .int v12), (13, .int v13)] [] := by
  intro n
  induction n with
  | zero =>
    intro v11 v13 σ K hm
    cases hm
  | succ n ih =>
    intro v11 v13 σ K hm hk
    unfold l_Mod_adds_318 at hm
    refine rx_iload C 8 dX11_adds_318 rfl ?_
    refine rx_iload C 5 dX11_adds_320 rfl ?_
    refine rx_icmp_ge (tgt := 397) C dX11_adds_322 (by decide) hm (fun h_27 hm => ?_) (fun h_27 hm => ?_)
    · refine rx_lv [0, 1, 4, 5] rfl ?_
      exact hk _ hm
    refine rx_aload_n C 0 dX11_adds_325 rfl ?_
    refine rx_iload C 2 dX11_adds_326 rfl ?_
    refine rx_iload C 8 dX11_adds_328 rfl ?_
    obtain ⟨r_28, hc_29, hm⟩ := rr_b0_some hm
    refine rr_callV (rest := []) (st1 := [.int r_28]) C 9 hll (c_Mod_limbAt l G hG v0 m_v0 k_v0 v7 v13 σ _ hc_29) q_1005 q_1007 qs_52 q_11 q_1008 hd_Mod_limbAt ⟨_, rfl, rfl⟩ (by decide) m_v0 k_v0 ⟨by decide, by decide⟩ rfl rfl (Nat.le_of_ble_eq_true rfl) rfl dX11_adds_330 ?_
    refine rx_iload C 8 dX11_adds_333 rfl ?_
    refine rx_iload C 7 dX11_adds_335 rfl ?_
    refine rr_jn1 hm (fun j352 ej352 hm => ?_)
    have hj352 : ∀ (t_30 : Int32), j352 t_30 = some ((), σr) → rr_J X G 15 (rr_E X G σr none) σ 352 [(0, .ref v0), (1, .int v1), (7, .int v7), (8, .int v8), (9, .int v9), (10, .int v10), (11, .int v11), (12, .int v12), (13, .int v13)] [.int t_30, .int r_28] := by
      intro t_30 hm
      replace hm := ej352 _ hm
      refine rx_isub C dX11_adds_352 ?_
      refine rx_iload C 6 dX11_adds_353 rfl ?_
      refine rx_isub C dX11_adds_355 ?_
      refine rx_nmi hm (fun v14_31 ev14_31 hm => ?_)
      refine rx_istore (lv1 := [(14, .int v14_31), (0, .ref v0), (1, .int v1), (7, .int v7), (8, .int v8), (9, .int v9), (10, .int v10), (11, .int v11), (12, .int v12), (13, .int v13)]) C dX11_adds_356 (by decide) rfl ?_
      refine rx_iload C 0 dX11_adds_358 rfl ?_
      refine rr_jn1 hm (fun j368 ej368 hm => ?_)
      have hj368 : ∀ (t_32 : Int32), j368 t_32 = some ((), σr) → rr_J X G 15 (rr_E X G σr none) σ 368 [(0, .ref v0), (1, .int v1), (7, .int v7), (8, .int v8), (9, .int v9), (10, .int v10), (11, .int v11), (12, .int v12), (13, .int v13), (14, .int v14_31)] [.int t_32] := by
        intro t_32 hm
        replace hm := ej368 _ hm
        refine rx_istore (lv1 := [(11, .int t_32), (0, .ref v0), (1, .int v1), (7, .int v7), (8, .int v8), (9, .int v9), (10, .int v10), (12, .int v12), (13, .int v13), (14, .int v14_31)]) C dX11_adds_368 (by decide) rfl ?_
        refine rx_aload_n C 1 dX11_adds_370 rfl ?_
        refine gf_842 C m_v0 k_v0 dX11_adds_371 hm (fun p_33 m_p_33 k_p_33 hm => ?_)
        refine rx_sipush (v := 200) C dX11_adds_374 rfl ?_
        refine rx_iload_n C 2 dX11_adds_377 rfl ?_
        refine rx_imul C dX11_adds_378 ?_
        refine rx_iload C 8 dX11_adds_379 rfl ?_
        refine rx_iadd C dX11_adds_381 ?_
        refine rx_iload C 9 dX11_adds_382 rfl ?_
        refine rx_iload C 0 dX11_adds_384 rfl ?_
        refine rx_ldc C q_1021 dX11_adds_386 ?_
        refine rx_imul C dX11_adds_388 ?_
        refine rx_iadd C dX11_adds_389 ?_
        refine rx_iast C m_p_33 k_p_33 dX11_adds_390 hm (fun σ_34 hm => ?_)
        refine rx_iinc (d := 1) (lv1 := fun v => [(13, .int v), (11, .int t_32), (0, .ref v0), (1, .int v1), (7, .int v7), (8, .int v8), (9, .int v9), (10, .int v10), (12, .int v12), (14, .int v14_31)]) C 8 dX11_adds_391 hm rfl rfl (by decide) (fun _ => rfl) (fun v13_35 hm => ?_)
        refine rx_goto (tgt := 318) C dX11_adds_394 (by decide) ?_
        refine rx_lv [2, 3, 4, 5, 6, 7, 1, 8, 0] rfl ?_
        exact ih _ _ _ _ hm hk
      refine rx_if_ge (tgt := 367) C dX11_adds_360 (by decide) hm (fun h_36 hm => ?_) (fun h_36 hm => ?_)
      · refine rx_iconst (v := 0) C dX11_adds_367 rfl ?_
        refine rx_lv [1, 2, 3, 4, 5, 6, 7, 8, 9, 0] rfl ?_
        exact hj368 _ hm
      refine rx_iconst (v := 1) C dX11_adds_363 rfl ?_
      refine rx_goto (tgt := 368) C dX11_adds_364 (by decide) ?_
      refine rx_lv [1, 2, 3, 4, 5, 6, 7, 8, 9, 0] rfl ?_
      exact hj368 _ hm
    refine rx_icmp_ge (tgt := 351) C dX11_adds_337 (by decide) hm (fun h_37 hm => ?_) (fun h_37 hm => ?_)
    · refine rx_iconst (v := 0) C dX11_adds_351 rfl ?_
      refine rx_lv [0, 1, 2, 3, 4, 5, 6, 7, 8] rfl ?_
      exact hj352 _ hm
    refine rx_aload_n C 0 dX11_adds_340 rfl ?_
    refine rx_iload C 3 dX11_adds_341 rfl ?_
    refine rx_iload C 8 dX11_adds_343 rfl ?_
    obtain ⟨r_38, hc_39, hm⟩ := rr_b0_some hm
    refine rr_callV (rest := [.int r_28]) (st1 := [.int r_38, .int r_28]) C 9 hll (c_Mod_limbAt l G hG v0 m_v0 k_v0 v8 v13 σ _ hc_39) q_1005 q_1007 qs_52 q_11 q_1008 hd_Mod_limbAt ⟨_, rfl, rfl⟩ (by decide) m_v0 k_v0 ⟨by decide, by decide⟩ rfl rfl (Nat.le_of_ble_eq_true rfl) rfl dX11_adds_345 ?_
    refine rx_goto (tgt := 352) C dX11_adds_348 (by decide) ?_
    refine rx_lv [0, 1, 2, 3, 4, 5, 6, 7, 8] rfl ?_
    exact hj352 _ hm
def l_Mod_adds_115 (fu : Nat) (N : Nat → Nat) (v0 : Nat) (v1 : Int32) (v2 : Int32) (v3 : Int32) (v6 : Int32) : Nat → Int32 → Int32 → rr_M → (Int32 → rr_M → Option (Unit × rr_M)) → Option (Unit × rr_M)
  | 0, _, _, _, _ => none
  | n + 1, v7, v8, σ, kk =>
    if v6 ≤ v8 then (kk v7 σ) else
    rr_lt (mg_r σ v0 2) fun p_54 =>
    (if rr_ix v2 (N p_54) then
    rr_jn (fun (t_55 : Int32) =>
    rr_lt (mg_r σ v0 2) fun p_56 =>
    (if rr_ix v3 (N p_56) then
    rr_jn (fun (t_57 : Int32) =>
    rr_lt ((t_55 + t_57) + v7) fun v9_58 =>
    rr_lt (mg_r σ v0 1) fun p_59 =>
    (if rr_ix ((200 * v1) + v8) (N p_59) then rr_lt (ms_i σ p_59 (rr_n ((200 * v1) + v8)) (v9_58 - v9_58 / 65536 * 65536)) fun σ_60 =>
    rr_lt (v9_58 / 65536) fun v7_61 =>
    rr_lt (v8 + 1) fun v8_62 =>
    l_Mod_adds_115 fu N v0 v1 v2 v3 v6 n v7_61 v8_62 σ_60 kk else none)) fun j166 =>
    if (mg_i σ p_56 (rr_n v3)) ≤ v8 then (j166 0) else
    Option.bind (f_Mod_limbAt N v0 v3 v8 σ) fun r_64 =>
    j166 r_64 else none)) fun j144 =>
    if (mg_i σ p_54 (rr_n v2)) ≤ v8 then (j144 0) else
    Option.bind (f_Mod_limbAt N v0 v2 v8 σ) fun r_67 =>
    j144 r_67 else none)
theorem lw_Mod_adds_115 {X : rr_X} {G : rr_G} {l : Launch} {fu : Nat} (hG : G.2.2.1.Nodup) (hll : X.2.1 = l) (C : rr_C X G cX11_adds 15 "RootRowsModel" none 2 45) {σr : rr_M} (v0 : Nat) (m_v0 : v0 ∈ G.2.2.1) (k_v0 : G.2.2.2.1 v0 = 9) (v1 : Int32) (v2 : Int32) (v3 : Int32) (v5 : Int32) (v6 : Int32) : ∀ (n : Nat) (v7 : Int32) (v8 : Int32) (σ : rr_M) (K : Int32 → rr_M → Option (Unit × rr_M)), l_Mod_adds_115 fu G.2.2.2.2 v0 v1 v2 v3 v6 n v7 v8 σ K = some ((), σr) → (∀ (w7 : Int32) (σ1 : rr_M), K w7 σ1 = some ((), σr) → rr_J X G 15 (rr_E X G σr none) σ1 203 [(0, .ref v0), (1, .int v1), (5, .int v5), (6, .int v6), (7, .int w7)] []) → rr_J X G 15 (rr_E X G σr none) σ 115 [(0, .ref v0), (1, .int v1), (2, .int v2), (3, .int v3), (5, .int v5), (6, .int v6), (7, .int v7), (8, .int v8)] [] := by
  intro n
  induction n with
  | zero =>
    intro v7 v8 σ K hm
    cases hm
  | succ n ih =>
    intro v7 v8 σ K hm hk
    unfold l_Mod_adds_115 at hm
    refine rx_iload C 7 dX11_adds_115 rfl ?_
    refine rx_iload C 5 dX11_adds_117 rfl ?_
    refine rx_icmp_ge (tgt := 203) C dX11_adds_119 (by decide) hm (fun h_53 hm => ?_) (fun h_53 hm => ?_)
    · refine rx_lv [0, 1, 4, 5, 6] rfl ?_
      exact hk _ _ hm
    refine rx_iload C 7 dX11_adds_122 rfl ?_
    refine rx_aload_n C 0 dX11_adds_124 rfl ?_
    refine gf_843 C m_v0 k_v0 dX11_adds_125 hm (fun p_54 m_p_54 k_p_54 hm => ?_)
    refine rx_iload_n C 2 dX11_adds_128 rfl ?_
    refine rx_iald C m_p_54 k_p_54 dX11_adds_129 hm (fun hm => ?_)
    refine rr_jn1 hm (fun j144 ej144 hm => ?_)
    have hj144 : ∀ (t_55 : Int32), j144 t_55 = some ((), σr) → rr_J X G 15 (rr_E X G σr none) σ 144 [(0, .ref v0), (1, .int v1), (2, .int v2), (3, .int v3), (5, .int v5), (6, .int v6), (7, .int v7), (8, .int v8)] [.int t_55] := by
      intro t_55 hm
      replace hm := ej144 _ hm
      refine rx_iload C 7 dX11_adds_144 rfl ?_
      refine rx_aload_n C 0 dX11_adds_146 rfl ?_
      refine gf_843 C m_v0 k_v0 dX11_adds_147 hm (fun p_56 m_p_56 k_p_56 hm => ?_)
      refine rx_iload_n C 3 dX11_adds_150 rfl ?_
      refine rx_iald C m_p_56 k_p_56 dX11_adds_151 hm (fun hm => ?_)
      refine rr_jn1 hm (fun j166 ej166 hm => ?_)
      have hj166 : ∀ (t_57 : Int32), j166 t_57 = some ((), σr) → rr_J X G 15 (rr_E X G σr none) σ 166 [(0, .ref v0), (1, .int v1), (2, .int v2), (3, .int v3), (5, .int v5), (6, .int v6), (7, .int v7), (8, .int v8)] [.int t_57, .int t_55] := by
        intro t_57 hm
        replace hm := ej166 _ hm
        refine rx_iadd C dX11_adds_166 ?_
        refine rx_iload C 6 dX11_adds_167 rfl ?_
        refine rx_iadd C dX11_adds_169 ?_
        refine rx_nmi hm (fun v9_58 ev9_58 hm => ?_)
        refine rx_istore (lv1 := [(9, .int v9_58), (0, .ref v0), (1, .int v1), (2, .int v2), (3, .int v3), (5, .int v5), (6, .int v6), (7, .int v7), (8, .int v8)]) C dX11_adds_170 (by decide) rfl ?_
        refine rx_aload_n C 1 dX11_adds_172 rfl ?_
        refine gf_842 C m_v0 k_v0 dX11_adds_173 hm (fun p_59 m_p_59 k_p_59 hm => ?_)
        refine rx_sipush (v := 200) C dX11_adds_176 rfl ?_
        refine rx_iload_n C 2 dX11_adds_179 rfl ?_
        refine rx_imul C dX11_adds_180 ?_
        refine rx_iload C 8 dX11_adds_181 rfl ?_
        refine rx_iadd C dX11_adds_183 ?_
        refine rx_iload C 0 dX11_adds_184 rfl ?_
        refine rx_ldc C q_1021 dX11_adds_186 ?_
        refine rx_irem C dX11_adds_188 (by decide) ?_
        refine rx_iast C m_p_59 k_p_59 dX11_adds_189 hm (fun σ_60 hm => ?_)
        refine rx_iload C 0 dX11_adds_190 rfl ?_
        refine rx_ldc C q_1021 dX11_adds_192 ?_
        refine rx_idiv C dX11_adds_194 (by decide) ?_
        refine rx_nmi hm (fun v7_61 ev7_61 hm => ?_)
        refine rx_istore (lv1 := [(7, .int v7_61), (9, .int v9_58), (0, .ref v0), (1, .int v1), (2, .int v2), (3, .int v3), (5, .int v5), (6, .int v6), (8, .int v8)]) C dX11_adds_195 (by decide) rfl ?_
        refine rx_iinc (d := 1) (lv1 := fun v => [(8, .int v), (7, .int v7_61), (9, .int v9_58), (0, .ref v0), (1, .int v1), (2, .int v2), (3, .int v3), (5, .int v5), (6, .int v6)]) C 8 dX11_adds_197 hm rfl rfl (by decide) (fun _ => rfl) (fun v8_62 hm => ?_)
        refine rx_goto (tgt := 115) C dX11_adds_200 (by decide) ?_
        refine rx_lv [3, 4, 5, 6, 7, 8, 1, 0] rfl ?_
        exact ih _ _ _ _ hm hk
      refine rx_icmp_ge (tgt := 165) C dX11_adds_152 (by decide) hm (fun h_63 hm => ?_) (fun h_63 hm => ?_)
      · refine rx_iconst (v := 0) C dX11_adds_165 rfl ?_
        refine rx_lv [0, 1, 2, 3, 4, 5, 6, 7] rfl ?_
        exact hj166 _ hm
      refine rx_aload_n C 0 dX11_adds_155 rfl ?_
      refine rx_iload_n C 3 dX11_adds_156 rfl ?_
      refine rx_iload C 7 dX11_adds_157 rfl ?_
      obtain ⟨r_64, hc_65, hm⟩ := rr_b0_some hm
      refine rr_callV (rest := [.int t_55]) (st1 := [.int r_64, .int t_55]) C 9 hll (c_Mod_limbAt l G hG v0 m_v0 k_v0 v3 v8 σ _ hc_65) q_1005 q_1007 qs_52 q_11 q_1008 hd_Mod_limbAt ⟨_, rfl, rfl⟩ (by decide) m_v0 k_v0 ⟨by decide, by decide⟩ rfl rfl (Nat.le_of_ble_eq_true rfl) rfl dX11_adds_159 ?_
      refine rx_goto (tgt := 166) C dX11_adds_162 (by decide) ?_
      refine rx_lv [0, 1, 2, 3, 4, 5, 6, 7] rfl ?_
      exact hj166 _ hm
    refine rx_icmp_ge (tgt := 143) C dX11_adds_130 (by decide) hm (fun h_66 hm => ?_) (fun h_66 hm => ?_)
    · refine rx_iconst (v := 0) C dX11_adds_143 rfl ?_
      refine rx_lv [0, 1, 2, 3, 4, 5, 6, 7] rfl ?_
      exact hj144 _ hm
    refine rx_aload_n C 0 dX11_adds_133 rfl ?_
    refine rx_iload_n C 2 dX11_adds_134 rfl ?_
    refine rx_iload C 7 dX11_adds_135 rfl ?_
    obtain ⟨r_67, hc_68, hm⟩ := rr_b0_some hm
    refine rr_callV (rest := []) (st1 := [.int r_67]) C 9 hll (c_Mod_limbAt l G hG v0 m_v0 k_v0 v2 v8 σ _ hc_68) q_1005 q_1007 qs_52 q_11 q_1008 hd_Mod_limbAt ⟨_, rfl, rfl⟩ (by decide) m_v0 k_v0 ⟨by decide, by decide⟩ rfl rfl (Nat.le_of_ble_eq_true rfl) rfl dX11_adds_137 ?_
    refine rx_goto (tgt := 144) C dX11_adds_140 (by decide) ?_
    refine rx_lv [0, 1, 2, 3, 4, 5, 6, 7] rfl ?_
    exact hj144 _ hm
def f_Mod_adds (fu : Nat) (N : Nat → Nat) (v0 : Nat) (v1 : Int32) (v2 : Int32) (v3 : Int32) (v4 : Int32) (σ : rr_M) : Option (Unit × rr_M) :=
    rr_lt (mg_r σ v0 3) fun p_1 =>
    (if rr_ix v3 (N p_1) then
    rr_lt (v4 * (mg_i σ p_1 (rr_n v3))) fun v5_2 =>
    rr_jn (fun (_ : Unit) =>
    rr_jn (fun (t_3 : Int32) =>
    rr_jn (fun (t_4 : Int32) =>
    rr_bd (f_Mod_copies fu N v0 v1 t_4 σ) fun _ σ_5 =>
    if t_3 = 0 then (rr_lt (mg_r σ_5 v0 3) fun p_8 =>
    (if rr_ix v1 (N p_8) then rr_lt (ms_i σ_5 p_8 (rr_n v1) v5_2) fun σ_9 =>
    some ((), σ_9) else none)) else
    some ((), σ_5)) fun j49 =>
    if t_3 = 0 then (j49 v3) else
    j49 v2) fun j35 =>
    if v5_2 = 0 then (j35 1) else
    j35 0) fun j25 =>
    if v5_2 = 0 then (j25 ()) else
    rr_lt (mg_r σ v0 3) fun p_13 =>
    (if rr_ix v2 (N p_13) then
    if (mg_i σ p_13 (rr_n v2)) = 0 then (j25 ()) else
    rr_lt (mg_r σ v0 3) fun p_15 =>
    (if rr_ix v2 (N p_15) then
    if (mg_i σ p_15 (rr_n v2)) = v5_2 then (rr_lt (mg_r σ v0 2) fun p_50 =>
    (if rr_ix v2 (N p_50) then
    rr_lt (mg_r σ v0 2) fun p_51 =>
    (if rr_ix v3 (N p_51) then
    rr_jn (fun (t_52 : Int32) =>
    l_Mod_adds_115 fu N v0 v1 v2 v3 t_52 fu 0 0 σ (fun v7_69 σ_70 =>
    rr_lt (mg_r σ_70 v0 1) fun p_71 =>
    (if rr_ix ((200 * v1) + t_52) (N p_71) then rr_lt (ms_i σ_70 p_71 (rr_n ((200 * v1) + t_52)) v7_69) fun σ_72 =>
    rr_lt (mg_r σ_72 v0 3) fun p_73 =>
    (if rr_ix v1 (N p_73) then rr_lt (ms_i σ_72 p_73 (rr_n v1) v5_2) fun σ_74 =>
    rr_bd (f_Mod_trims fu N v0 v1 (t_52 + 1) σ_74) fun _ σ_75 =>
    some ((), σ_75) else none) else none))) fun j107 =>
    if (mg_i σ p_50 (rr_n v2)) ≤ (mg_i σ p_51 (rr_n v3)) then (rr_lt (mg_r σ v0 2) fun p_78 =>
    (if rr_ix v3 (N p_78) then
    j107 (mg_i σ p_78 (rr_n v3)) else none)) else
    rr_lt (mg_r σ v0 2) fun p_79 =>
    (if rr_ix v2 (N p_79) then
    j107 (mg_i σ p_79 (rr_n v2)) else none) else none) else none)) else
    Option.bind (f_Mod_against fu N v0 v2 v3 σ) fun r_17 =>
    rr_jn (fun (t_19 : Int32) =>
    rr_jn (fun (t_20 : Int32) =>
    rr_jn (fun (t_21 : Int32) =>
    rr_jn (fun (t_22 : Int32) =>
    rr_lt (mg_r σ v0 2) fun p_23 =>
    (if rr_ix t_20 (N p_23) then
    rr_lt (mg_i σ p_23 (rr_n t_20)) fun v10_24 =>
    rr_lt (mg_r σ v0 2) fun p_25 =>
    (if rr_ix t_21 (N p_25) then
    rr_lt (mg_i σ p_25 (rr_n t_21)) fun v12_26 =>
    l_Mod_adds_318 fu N v0 v1 t_20 t_21 v10_24 v12_26 fu 0 0 σ (fun σ_40 =>
    rr_lt (mg_r σ_40 v0 3) fun p_41 =>
    (if rr_ix v1 (N p_41) then rr_lt (ms_i σ_40 p_41 (rr_n v1) t_22) fun σ_42 =>
    rr_bd (f_Mod_trims fu N v0 v1 v10_24 σ_42) fun _ σ_43 =>
    some ((), σ_43) else none)) else none) else none)) fun j292 =>
    if t_19 = 0 then (j292 v5_2) else
    rr_lt (mg_r σ v0 3) fun p_46 =>
    (if rr_ix v2 (N p_46) then
    j292 (mg_i σ p_46 (rr_n v2)) else none)) fun j274 =>
    if t_19 = 0 then (j274 v2) else
    j274 v3) fun j262 =>
    if t_19 = 0 then (j262 v3) else
    j262 v2) fun j250 =>
    if r_17 < 0 then (j250 0) else
    j250 1 else none) else none) else none)
theorem c_Mod_adds (l : Launch) (G : rr_G) (hG : G.2.2.1.Nodup) (fu : Nat) (v0 : Nat) (m_v0 : v0 ∈ G.2.2.1) (k_v0 : G.2.2.2.1 v0 = 9) (v1 : Int32) (v2 : Int32) (v3 : Int32) (v4 : Int32) (σ : rr_M) (σr : rr_M) (hm : f_Mod_adds fu G.2.2.2.2 v0 v1 v2 v3 v4 σ = some ((), σr)) : rr_Met l G yX11_adds cX11_adds 15 none 2 45 [.ref v0, .int v1, .int v2, .int v3, .int v4] σ σr none := by
  refine rr_enter (lv0 := [(0, .ref v0), (1, .int v1), (2, .int v2), (3, .int v3), (4, .int v4)]) hp_Mod_adds hG (Nat.le_of_ble_eq_true rfl) rfl (fun X hll C => ?_)
  replace C : rr_C X G cX11_adds 15 "RootRowsModel" none 2 45 := C
  unfold f_Mod_adds at hm
  refine rx_iload C 4 dX11_adds_0 rfl ?_
  refine rx_aload_n C 0 dX11_adds_2 rfl ?_
  refine gf_844 C m_v0 k_v0 dX11_adds_3 hm (fun p_1 m_p_1 k_p_1 hm => ?_)
  refine rx_iload_n C 3 dX11_adds_6 rfl ?_
  refine rx_iald C m_p_1 k_p_1 dX11_adds_7 hm (fun hm => ?_)
  refine rx_imul C dX11_adds_8 ?_
  refine rx_nmi hm (fun v5_2 ev5_2 hm => ?_)
  refine rx_istore (lv1 := [(5, .int v5_2), (0, .ref v0), (1, .int v1), (2, .int v2), (3, .int v3), (4, .int v4)]) C dX11_adds_9 (by decide) rfl ?_
  refine rx_iload C 0 dX11_adds_11 rfl ?_
  refine rr_jn1 hm (fun j25 ej25 hm => ?_)
  have hj25 : ∀ (uu : Unit), j25 uu = some ((), σr) → rr_J X G 15 (rr_E X G σr none) σ 25 [(0, .ref v0), (1, .int v1), (2, .int v2), (3, .int v3), (5, .int v5_2)] [] := by
    intro uu hm
    replace hm := ej25 _ hm
    refine rx_iload C 4 dX11_adds_25 rfl ?_
    refine rr_jn1 hm (fun j35 ej35 hm => ?_)
    have hj35 : ∀ (t_3 : Int32), j35 t_3 = some ((), σr) → rr_J X G 15 (rr_E X G σr none) σ 35 [(0, .ref v0), (1, .int v1), (2, .int v2), (3, .int v3), (5, .int v5_2)] [.int t_3] := by
      intro t_3 hm
      replace hm := ej35 _ hm
      refine rx_istore (lv1 := [(6, .int t_3), (0, .ref v0), (1, .int v1), (2, .int v2), (3, .int v3), (5, .int v5_2)]) C dX11_adds_35 (by decide) rfl ?_
      refine rx_aload_n C 1 dX11_adds_37 rfl ?_
      refine rx_iload_n C 2 dX11_adds_38 rfl ?_
      refine rx_iload C 0 dX11_adds_39 rfl ?_
      refine rr_jn1 hm (fun j49 ej49 hm => ?_)
      have hj49 : ∀ (t_4 : Int32), j49 t_4 = some ((), σr) → rr_J X G 15 (rr_E X G σr none) σ 49 [(0, .ref v0), (1, .int v1), (5, .int v5_2), (6, .int t_3)] [.int t_4, .int v1, .ref v0] := by
        intro t_4 hm
        replace hm := ej49 _ hm
        obtain ⟨_, σ_5, hc_6, hm⟩ := rr_bd_some hm
        refine rr_callV (rest := []) (st1 := []) C 9 hll (c_Mod_copies l G hG fu v0 m_v0 k_v0 v1 t_4 σ _ hc_6) q_1017 q_1019 qs_55 q_11 q_1020 hd_Mod_copies ⟨_, rfl, rfl⟩ (by decide) m_v0 k_v0 ⟨by decide, by decide⟩ rfl rfl (Nat.le_of_ble_eq_true rfl) rfl dX11_adds_49 ?_
        refine rx_iload C 3 dX11_adds_52 rfl ?_
        refine rx_if_ne (tgt := 65) C dX11_adds_54 (by decide) hm (fun h_7 hm => ?_) (fun h_7 hm => ?_)
        · exact rx_vret C dX11_adds_65 hm
        refine rx_aload_n C 0 dX11_adds_57 rfl ?_
        refine gf_844 C m_v0 k_v0 dX11_adds_58 hm (fun p_8 m_p_8 k_p_8 hm => ?_)
        refine rx_iload_n C 1 dX11_adds_61 rfl ?_
        refine rx_iload C 2 dX11_adds_62 rfl ?_
        refine rx_iast C m_p_8 k_p_8 dX11_adds_64 hm (fun σ_9 hm => ?_)
        exact rx_vret C dX11_adds_65 hm
      refine rx_if_eq (tgt := 48) C dX11_adds_41 (by decide) hm (fun h_10 hm => ?_) (fun h_10 hm => ?_)
      · refine rx_iload_n C 4 dX11_adds_48 rfl ?_
        refine rx_lv [1, 2, 5, 0] rfl ?_
        exact hj49 _ hm
      refine rx_iload_n C 3 dX11_adds_44 rfl ?_
      refine rx_goto (tgt := 49) C dX11_adds_45 (by decide) ?_
      refine rx_lv [1, 2, 5, 0] rfl ?_
      exact hj49 _ hm
    refine rx_if_ne (tgt := 34) C dX11_adds_27 (by decide) hm (fun h_11 hm => ?_) (fun h_11 hm => ?_)
    · refine rx_iconst (v := 0) C dX11_adds_34 rfl ?_
      refine rx_lv [0, 1, 2, 3, 4] rfl ?_
      exact hj35 _ hm
    refine rx_iconst (v := 1) C dX11_adds_30 rfl ?_
    refine rx_goto (tgt := 35) C dX11_adds_31 (by decide) ?_
    refine rx_lv [0, 1, 2, 3, 4] rfl ?_
    exact hj35 _ hm
  refine rx_if_eq (tgt := 25) C dX11_adds_13 (by decide) hm (fun h_12 hm => ?_) (fun h_12 hm => ?_)
  · refine rx_lv [1, 2, 3, 4, 0] rfl ?_
    exact hj25 () hm
  refine rx_aload_n C 1 dX11_adds_16 rfl ?_
  refine gf_844 C m_v0 k_v0 dX11_adds_17 hm (fun p_13 m_p_13 k_p_13 hm => ?_)
  refine rx_iload_n C 3 dX11_adds_20 rfl ?_
  refine rx_iald C m_p_13 k_p_13 dX11_adds_21 hm (fun hm => ?_)
  refine rx_if_ne (tgt := 66) C dX11_adds_22 (by decide) hm (fun h_14 hm => ?_) (fun h_14 hm => ?_)
  · refine rx_aload_n C 1 dX11_adds_66 rfl ?_
    refine gf_844 C m_v0 k_v0 dX11_adds_67 hm (fun p_15 m_p_15 k_p_15 hm => ?_)
    refine rx_iload_n C 3 dX11_adds_70 rfl ?_
    refine rx_iald C m_p_15 k_p_15 dX11_adds_71 hm (fun hm => ?_)
    refine rx_iload C 0 dX11_adds_72 rfl ?_
    refine rx_icmp_ne (tgt := 236) C dX11_adds_74 (by decide) hm (fun h_16 hm => ?_) (fun h_16 hm => ?_)
    · refine rx_aload_n C 1 dX11_adds_236 rfl ?_
      refine rx_iload_n C 3 dX11_adds_237 rfl ?_
      refine rx_iload_n C 4 dX11_adds_238 rfl ?_
      obtain ⟨r_17, hc_18, hm⟩ := rr_b0_some hm
      refine rr_callV (rest := []) (st1 := [.int r_17]) C 9 hll (c_Mod_against l G hG fu v0 m_v0 k_v0 v2 v3 σ _ hc_18) q_1022 q_1024 qs_56 q_11 q_1025 hd_Mod_against ⟨_, rfl, rfl⟩ (by decide) m_v0 k_v0 ⟨by decide, by decide⟩ rfl rfl (Nat.le_of_ble_eq_true rfl) rfl dX11_adds_239 ?_
      refine rr_jn1 hm (fun j250 ej250 hm => ?_)
      have hj250 : ∀ (t_19 : Int32), j250 t_19 = some ((), σr) → rr_J X G 15 (rr_E X G σr none) σ 250 [(0, .ref v0), (1, .int v1), (2, .int v2), (3, .int v3), (5, .int v5_2)] [.int t_19] := by
        intro t_19 hm
        replace hm := ej250 _ hm
        refine rx_istore (lv1 := [(6, .int t_19), (0, .ref v0), (1, .int v1), (2, .int v2), (3, .int v3), (5, .int v5_2)]) C dX11_adds_250 (by decide) rfl ?_
        refine rx_iload C 0 dX11_adds_252 rfl ?_
        refine rr_jn1 hm (fun j262 ej262 hm => ?_)
        have hj262 : ∀ (t_20 : Int32), j262 t_20 = some ((), σr) → rr_J X G 15 (rr_E X G σr none) σ 262 [(0, .ref v0), (1, .int v1), (2, .int v2), (3, .int v3), (5, .int v5_2), (6, .int t_19)] [.int t_20] := by
          intro t_20 hm
          replace hm := ej262 _ hm
          refine rx_istore (lv1 := [(7, .int t_20), (0, .ref v0), (1, .int v1), (2, .int v2), (3, .int v3), (5, .int v5_2), (6, .int t_19)]) C dX11_adds_262 (by decide) rfl ?_
          refine rx_iload C 6 dX11_adds_264 rfl ?_
          refine rr_jn1 hm (fun j274 ej274 hm => ?_)
          have hj274 : ∀ (t_21 : Int32), j274 t_21 = some ((), σr) → rr_J X G 15 (rr_E X G σr none) σ 274 [(0, .ref v0), (1, .int v1), (2, .int v2), (5, .int v5_2), (6, .int t_19), (7, .int t_20)] [.int t_21] := by
            intro t_21 hm
            replace hm := ej274 _ hm
            refine rx_istore (lv1 := [(8, .int t_21), (0, .ref v0), (1, .int v1), (2, .int v2), (5, .int v5_2), (6, .int t_19), (7, .int t_20)]) C dX11_adds_274 (by decide) rfl ?_
            refine rx_iload C 5 dX11_adds_276 rfl ?_
            refine rr_jn1 hm (fun j292 ej292 hm => ?_)
            have hj292 : ∀ (t_22 : Int32), j292 t_22 = some ((), σr) → rr_J X G 15 (rr_E X G σr none) σ 292 [(0, .ref v0), (1, .int v1), (7, .int t_20), (8, .int t_21)] [.int t_22] := by
              intro t_22 hm
              replace hm := ej292 _ hm
              refine rx_istore (lv1 := [(9, .int t_22), (0, .ref v0), (1, .int v1), (7, .int t_20), (8, .int t_21)]) C dX11_adds_292 (by decide) rfl ?_
              refine rx_aload_n C 1 dX11_adds_294 rfl ?_
              refine gf_843 C m_v0 k_v0 dX11_adds_295 hm (fun p_23 m_p_23 k_p_23 hm => ?_)
              refine rx_iload C 3 dX11_adds_298 rfl ?_
              refine rx_iald C m_p_23 k_p_23 dX11_adds_300 hm (fun hm => ?_)
              refine rx_nmi hm (fun v10_24 ev10_24 hm => ?_)
              refine rx_istore (lv1 := [(10, .int v10_24), (9, .int t_22), (0, .ref v0), (1, .int v1), (7, .int t_20), (8, .int t_21)]) C dX11_adds_301 (by decide) rfl ?_
              refine rx_iconst (v := 0) C dX11_adds_303 rfl ?_
              refine rx_istore (lv1 := [(11, .int 0), (10, .int v10_24), (9, .int t_22), (0, .ref v0), (1, .int v1), (7, .int t_20), (8, .int t_21)]) C dX11_adds_304 (by decide) rfl ?_
              refine rx_aload_n C 3 dX11_adds_306 rfl ?_
              refine gf_843 C m_v0 k_v0 dX11_adds_307 hm (fun p_25 m_p_25 k_p_25 hm => ?_)
              refine rx_iload C 6 dX11_adds_310 rfl ?_
              refine rx_iald C m_p_25 k_p_25 dX11_adds_312 hm (fun hm => ?_)
              refine rx_nmi hm (fun v12_26 ev12_26 hm => ?_)
              refine rx_istore (lv1 := [(12, .int v12_26), (11, .int 0), (10, .int v10_24), (9, .int t_22), (0, .ref v0), (1, .int v1), (7, .int t_20), (8, .int t_21)]) C dX11_adds_313 (by decide) rfl ?_
              refine rx_iconst (v := 0) C dX11_adds_315 rfl ?_
              refine rx_istore (lv1 := [(13, .int 0), (12, .int v12_26), (11, .int 0), (10, .int v10_24), (9, .int t_22), (0, .ref v0), (1, .int v1), (7, .int t_20), (8, .int t_21)]) C dX11_adds_316 (by decide) rfl ?_
              refine rx_lv [5, 6, 7, 8, 4, 3, 2, 1, 0] rfl ?_
              refine lw_Mod_adds_318 hG hll C v0 m_v0 k_v0 v1 t_20 t_21 t_22 v10_24 v12_26 _ _ _ _ _ hm (fun σ_40 hm => ?_)
              refine rx_aload_n C 0 dX11_adds_397 rfl ?_
              refine gf_844 C m_v0 k_v0 dX11_adds_398 hm (fun p_41 m_p_41 k_p_41 hm => ?_)
              refine rx_iload_n C 1 dX11_adds_401 rfl ?_
              refine rx_iload C 2 dX11_adds_402 rfl ?_
              refine rx_iast C m_p_41 k_p_41 dX11_adds_404 hm (fun σ_42 hm => ?_)
              refine rx_aload_n C 0 dX11_adds_405 rfl ?_
              refine rx_iload_n C 1 dX11_adds_406 rfl ?_
              refine rx_iload C 3 dX11_adds_407 rfl ?_
              obtain ⟨_, σ_43, hc_44, hm⟩ := rr_bd_some hm
              refine rr_callV (rest := []) (st1 := []) C 9 hll (c_Mod_trims l G hG fu v0 m_v0 k_v0 v1 v10_24 σ_42 _ hc_44) q_1009 q_1011 qs_53 q_11 q_1012 hd_Mod_trims ⟨_, rfl, rfl⟩ (by decide) m_v0 k_v0 ⟨by decide, by decide⟩ rfl rfl (Nat.le_of_ble_eq_true rfl) rfl dX11_adds_409 ?_
              exact rx_vret C dX11_adds_412 hm
            refine rx_if_eq (tgt := 290) C dX11_adds_278 (by decide) hm (fun h_45 hm => ?_) (fun h_45 hm => ?_)
            · refine rx_iload C 4 dX11_adds_290 rfl ?_
              refine rx_lv [1, 2, 6, 0] rfl ?_
              exact hj292 _ hm
            refine rx_aload_n C 1 dX11_adds_281 rfl ?_
            refine gf_844 C m_v0 k_v0 dX11_adds_282 hm (fun p_46 m_p_46 k_p_46 hm => ?_)
            refine rx_iload_n C 3 dX11_adds_285 rfl ?_
            refine rx_iald C m_p_46 k_p_46 dX11_adds_286 hm (fun hm => ?_)
            refine rx_goto (tgt := 292) C dX11_adds_287 (by decide) ?_
            refine rx_lv [1, 2, 6, 0] rfl ?_
            exact hj292 _ hm
          refine rx_if_eq (tgt := 273) C dX11_adds_266 (by decide) hm (fun h_47 hm => ?_) (fun h_47 hm => ?_)
          · refine rx_iload_n C 3 dX11_adds_273 rfl ?_
            refine rx_lv [1, 2, 3, 5, 6, 0] rfl ?_
            exact hj274 _ hm
          refine rx_iload_n C 4 dX11_adds_269 rfl ?_
          refine rx_goto (tgt := 274) C dX11_adds_270 (by decide) ?_
          refine rx_lv [1, 2, 3, 5, 6, 0] rfl ?_
          exact hj274 _ hm
        refine rx_if_eq (tgt := 261) C dX11_adds_254 (by decide) hm (fun h_48 hm => ?_) (fun h_48 hm => ?_)
        · refine rx_iload_n C 4 dX11_adds_261 rfl ?_
          refine rx_lv [1, 2, 3, 4, 5, 0] rfl ?_
          exact hj262 _ hm
        refine rx_iload_n C 3 dX11_adds_257 rfl ?_
        refine rx_goto (tgt := 262) C dX11_adds_258 (by decide) ?_
        refine rx_lv [1, 2, 3, 4, 5, 0] rfl ?_
        exact hj262 _ hm
      refine rx_if_lt (tgt := 249) C dX11_adds_242 (by decide) hm (fun h_49 hm => ?_) (fun h_49 hm => ?_)
      · refine rx_iconst (v := 0) C dX11_adds_249 rfl ?_
        refine rx_lv [1, 2, 3, 4, 0] rfl ?_
        exact hj250 _ hm
      refine rx_iconst (v := 1) C dX11_adds_245 rfl ?_
      refine rx_goto (tgt := 250) C dX11_adds_246 (by decide) ?_
      refine rx_lv [1, 2, 3, 4, 0] rfl ?_
      exact hj250 _ hm
    refine rx_aload_n C 1 dX11_adds_77 rfl ?_
    refine gf_843 C m_v0 k_v0 dX11_adds_78 hm (fun p_50 m_p_50 k_p_50 hm => ?_)
    refine rx_iload_n C 3 dX11_adds_81 rfl ?_
    refine rx_iald C m_p_50 k_p_50 dX11_adds_82 hm (fun hm => ?_)
    refine rx_aload_n C 1 dX11_adds_83 rfl ?_
    refine gf_843 C m_v0 k_v0 dX11_adds_84 hm (fun p_51 m_p_51 k_p_51 hm => ?_)
    refine rx_iload_n C 4 dX11_adds_87 rfl ?_
    refine rx_iald C m_p_51 k_p_51 dX11_adds_88 hm (fun hm => ?_)
    refine rr_jn1 hm (fun j107 ej107 hm => ?_)
    have hj107 : ∀ (t_52 : Int32), j107 t_52 = some ((), σr) → rr_J X G 15 (rr_E X G σr none) σ 107 [(0, .ref v0), (1, .int v1), (2, .int v2), (3, .int v3), (5, .int v5_2)] [.int t_52] := by
      intro t_52 hm
      replace hm := ej107 _ hm
      refine rx_istore (lv1 := [(6, .int t_52), (0, .ref v0), (1, .int v1), (2, .int v2), (3, .int v3), (5, .int v5_2)]) C dX11_adds_107 (by decide) rfl ?_
      refine rx_iconst (v := 0) C dX11_adds_109 rfl ?_
      refine rx_istore (lv1 := [(7, .int 0), (6, .int t_52), (0, .ref v0), (1, .int v1), (2, .int v2), (3, .int v3), (5, .int v5_2)]) C dX11_adds_110 (by decide) rfl ?_
      refine rx_iconst (v := 0) C dX11_adds_112 rfl ?_
      refine rx_istore (lv1 := [(8, .int 0), (7, .int 0), (6, .int t_52), (0, .ref v0), (1, .int v1), (2, .int v2), (3, .int v3), (5, .int v5_2)]) C dX11_adds_113 (by decide) rfl ?_
      refine rx_lv [3, 4, 5, 6, 7, 2, 1, 0] rfl ?_
      refine lw_Mod_adds_115 hG hll C v0 m_v0 k_v0 v1 v2 v3 v5_2 t_52 _ _ _ _ _ hm (fun v7_69 σ_70 hm => ?_)
      refine rx_aload_n C 0 dX11_adds_203 rfl ?_
      refine gf_842 C m_v0 k_v0 dX11_adds_204 hm (fun p_71 m_p_71 k_p_71 hm => ?_)
      refine rx_sipush (v := 200) C dX11_adds_207 rfl ?_
      refine rx_iload_n C 1 dX11_adds_210 rfl ?_
      refine rx_imul C dX11_adds_211 ?_
      refine rx_iload C 3 dX11_adds_212 rfl ?_
      refine rx_iadd C dX11_adds_214 ?_
      refine rx_iload C 4 dX11_adds_215 rfl ?_
      refine rx_iast C m_p_71 k_p_71 dX11_adds_217 hm (fun σ_72 hm => ?_)
      refine rx_aload_n C 0 dX11_adds_218 rfl ?_
      refine gf_844 C m_v0 k_v0 dX11_adds_219 hm (fun p_73 m_p_73 k_p_73 hm => ?_)
      refine rx_iload_n C 1 dX11_adds_222 rfl ?_
      refine rx_iload C 2 dX11_adds_223 rfl ?_
      refine rx_iast C m_p_73 k_p_73 dX11_adds_225 hm (fun σ_74 hm => ?_)
      refine rx_aload_n C 0 dX11_adds_226 rfl ?_
      refine rx_iload_n C 1 dX11_adds_227 rfl ?_
      refine rx_iload C 3 dX11_adds_228 rfl ?_
      refine rx_iconst (v := 1) C dX11_adds_230 rfl ?_
      refine rx_iadd C dX11_adds_231 ?_
      obtain ⟨_, σ_75, hc_76, hm⟩ := rr_bd_some hm
      refine rr_callV (rest := []) (st1 := []) C 9 hll (c_Mod_trims l G hG fu v0 m_v0 k_v0 v1 (t_52 + 1) σ_74 _ hc_76) q_1009 q_1011 qs_53 q_11 q_1012 hd_Mod_trims ⟨_, rfl, rfl⟩ (by decide) m_v0 k_v0 ⟨by decide, by decide⟩ rfl rfl (Nat.le_of_ble_eq_true rfl) rfl dX11_adds_232 ?_
      exact rx_vret C dX11_adds_235 hm
    refine rx_icmp_le (tgt := 101) C dX11_adds_89 (by decide) hm (fun h_77 hm => ?_) (fun h_77 hm => ?_)
    · refine rx_aload_n C 1 dX11_adds_101 rfl ?_
      refine gf_843 C m_v0 k_v0 dX11_adds_102 hm (fun p_78 m_p_78 k_p_78 hm => ?_)
      refine rx_iload_n C 4 dX11_adds_105 rfl ?_
      refine rx_iald C m_p_78 k_p_78 dX11_adds_106 hm (fun hm => ?_)
      refine rx_lv [1, 2, 3, 4, 0] rfl ?_
      exact hj107 _ hm
    refine rx_aload_n C 1 dX11_adds_92 rfl ?_
    refine gf_843 C m_v0 k_v0 dX11_adds_93 hm (fun p_79 m_p_79 k_p_79 hm => ?_)
    refine rx_iload_n C 3 dX11_adds_96 rfl ?_
    refine rx_iald C m_p_79 k_p_79 dX11_adds_97 hm (fun hm => ?_)
    refine rx_goto (tgt := 107) C dX11_adds_98 (by decide) ?_
    refine rx_lv [1, 2, 3, 4, 0] rfl ?_
    exact hj107 _ hm
  refine rx_lv [1, 2, 3, 4, 0] rfl ?_
  exact hj25 () hm
def f_Mod_slot (v0 : Int32) (v1 : Int32) : Option (Int32) :=
    some ((20 + (9 * v0)) + v1)
theorem c_Mod_slot (l : Launch) (G : rr_G) (hG : G.2.2.1.Nodup) (v0 : Int32) (v1 : Int32) (σ : rr_M) (r : Int32) (hm : f_Mod_slot v0 v1 = some r) : rr_Met l G yX11_slot cX11_slot 2 (some .int) 0 0 [.int v0, .int v1] σ σ (some (.int r)) := by
  refine rr_enter (lv0 := [(0, .int v0), (1, .int v1)]) hp_Mod_slot hG (Nat.le_of_ble_eq_true rfl) rfl (fun X hll C => ?_)
  replace C : rr_C X G cX11_slot 2 "RootRowsModel" (some .int) 0 0 := C
  unfold f_Mod_slot at hm
  refine rx_bipush (v := 20) C dX11_slot_0 rfl ?_
  refine rx_bipush (v := 9) C dX11_slot_2 rfl ?_
  refine rx_iload_n C 0 dX11_slot_4 rfl ?_
  refine rx_imul C dX11_slot_5 ?_
  refine rx_iadd C dX11_slot_6 ?_
  refine rx_iload_n C 1 dX11_slot_7 rfl ?_
  refine rx_iadd C dX11_slot_8 ?_
  exact rx_iretR C dX11_slot_9 hm
def f_Mod_leadSign (N : Nat → Nat) (v0 : Nat) (v1 : Int32) (σ : rr_M) : Option (Int32) :=
    rr_lt (mg_r σ v0 7) fun p_1 =>
    (if rr_ix v1 (N p_1) then
    rr_lt (mg_r σ v0 3) fun p_2 =>
    rr_lt (mg_r σ v0 6) fun p_3 =>
    (if rr_ix v1 (N p_3) then
    Option.bind (f_Mod_slot v1 (mg_i σ p_3 (rr_n v1))) fun r_4 =>
    (if rr_ix r_4 (N p_2) then
    some ((mg_i σ p_1 (rr_n v1)) * (mg_i σ p_2 (rr_n r_4))) else none) else none) else none)
theorem c_Mod_leadSign (l : Launch) (G : rr_G) (hG : G.2.2.1.Nodup) (v0 : Nat) (m_v0 : v0 ∈ G.2.2.1) (k_v0 : G.2.2.2.1 v0 = 9) (v1 : Int32) (σ : rr_M) (r : Int32) (hm : f_Mod_leadSign G.2.2.2.2 v0 v1 σ = some r) : rr_Met l G yX11_leadSign cX11_leadSign 2 (some .int) 1 21 [.ref v0, .int v1] σ σ (some (.int r)) := by
  refine rr_enter (lv0 := [(0, .ref v0), (1, .int v1)]) hp_Mod_leadSign hG (Nat.le_of_ble_eq_true rfl) rfl (fun X hll C => ?_)
  replace C : rr_C X G cX11_leadSign 2 "RootRowsModel" (some .int) 1 21 := C
  unfold f_Mod_leadSign at hm
  refine rx_aload_n C 0 dX11_leadSign_0 rfl ?_
  refine gf_848 C m_v0 k_v0 dX11_leadSign_1 hm (fun p_1 m_p_1 k_p_1 hm => ?_)
  refine rx_iload_n C 1 dX11_leadSign_4 rfl ?_
  refine rx_iald C m_p_1 k_p_1 dX11_leadSign_5 hm (fun hm => ?_)
  refine rx_aload_n C 0 dX11_leadSign_6 rfl ?_
  refine gf_844 C m_v0 k_v0 dX11_leadSign_7 hm (fun p_2 m_p_2 k_p_2 hm => ?_)
  refine rx_iload_n C 1 dX11_leadSign_10 rfl ?_
  refine rx_aload_n C 0 dX11_leadSign_11 rfl ?_
  refine gf_847 C m_v0 k_v0 dX11_leadSign_12 hm (fun p_3 m_p_3 k_p_3 hm => ?_)
  refine rx_iload_n C 1 dX11_leadSign_15 rfl ?_
  refine rx_iald C m_p_3 k_p_3 dX11_leadSign_16 hm (fun hm => ?_)
  obtain ⟨r_4, hc_5, hm⟩ := rr_b0_some hm
  refine rr_callS (rest := [.ref p_2, .int (mg_i σ p_1 (rr_n v1))]) (st1 := [.int r_4, .ref p_2, .int (mg_i σ p_1 (rr_n v1))]) C hll (c_Mod_slot l G hG v1 (mg_i σ p_3 (rr_n v1)) σ _ hc_5) q_989 q_990 q_11 q_991 hd_Mod_slot ⟨by decide, by decide⟩ rfl rfl (Nat.le_of_ble_eq_true rfl) rfl dX11_leadSign_17 ?_
  refine rx_iald C m_p_2 k_p_2 dX11_leadSign_20 hm (fun hm => ?_)
  refine rx_imul C dX11_leadSign_21 ?_
  exact rx_iretR C dX11_leadSign_22 hm
def l_Mod_changesOut_9 (fu : Nat) (N : Nat → Nat) (v0 : Nat) (v1 : Int32) (v2 : Int32) (v3 : Int32) (σ : rr_M) : Nat → Int32 → Int32 → Int32 → (Int32 → Option (Int32)) → Option (Int32)
  | 0, _, _, _, _ => none
  | n + 1, v4, v5, v6, kk =>
    if v2 ≤ v6 then (kk v5) else
    rr_jn (fun (t_2 : Int32) =>
    rr_jn (fun (t_3 : Int32) =>
    rr_lt (v5 + t_3) fun v5_4 =>
    rr_lt (v6 + 1) fun v6_5 =>
    l_Mod_changesOut_9 fu N v0 v1 v2 v3 σ n t_2 v5_4 v6_5 kk) fun j75 =>
    rr_jn (fun (_ : Unit) =>
    j75 0) fun j74 =>
    if v4 = 0 then (j74 ()) else
    if t_2 = v4 then (j74 ()) else
    j75 1) fun j54 =>
    rr_jn (fun (_ : Unit) =>
    Option.bind (f_Mod_leadSign N v0 (v1 + v6) σ) fun r_8 =>
    j54 r_8) fun j46 =>
    if v3 = 0 then (j46 ()) else
    rr_lt (mg_r σ v0 6) fun p_11 =>
    (if rr_ix (v1 + v6) (N p_11) then
    if ((mg_i σ p_11 (rr_n (v1 + v6))) - (mg_i σ p_11 (rr_n (v1 + v6))) / 2 * 2) = 1 then (Option.bind (f_Mod_leadSign N v0 (v1 + v6) σ) fun r_13 =>
    j54 (-r_13)) else
    j46 () else none)
theorem lw_Mod_changesOut_9 {X : rr_X} {G : rr_G} {l : Launch} {fu : Nat} (hG : G.2.2.1.Nodup) (hll : X.2.1 = l) (C : rr_C X G cX11_changesOut 8 "RootRowsModel" (some .int) 2 42) {r : Int32}  (σ : rr_M) (v0 : Nat) (m_v0 : v0 ∈ G.2.2.1) (k_v0 : G.2.2.2.1 v0 = 9) (v1 : Int32) (v2 : Int32) (v3 : Int32) : ∀ (n : Nat) (v4 : Int32) (v5 : Int32) (v6 : Int32) (K : Int32 → Option (Int32)), l_Mod_changesOut_9 fu G.2.2.2.2 v0 v1 v2 v3 σ n v4 v5 v6 K = some r → (∀ (w5 : Int32), K w5 = some r → rr_J X G 8 (rr_E X G σ (some (.int r))) σ 88 [(5, .int w5)] []) → rr_J X G 8 (rr_E X G σ (some (.int r))) σ 9 [(0, .ref v0), (1, .int v1), (2, .int v2), (3, .int v3), (4, .int v4), (5, .int v5), (6, .int v6)] [] := by
  intro n
  induction n with
  | zero =>
    intro v4 v5 v6 K hm
    cases hm
  | succ n ih =>
    intro v4 v5 v6 K hm hk
    unfold l_Mod_changesOut_9 at hm
    refine rx_iload C 6 dX11_changesOut_9 rfl ?_
    refine rx_iload_n C 2 dX11_changesOut_11 rfl ?_
    refine rx_icmp_ge (tgt := 88) C dX11_changesOut_12 (by decide) hm (fun h_1 hm => ?_) (fun h_1 hm => ?_)
    · refine rx_lv [5] rfl ?_
      exact hk _ hm
    refine rx_iload_n C 3 dX11_changesOut_15 rfl ?_
    refine rr_jn1 hm (fun j54 ej54 hm => ?_)
    have hj54 : ∀ (t_2 : Int32), j54 t_2 = some r → rr_J X G 8 (rr_E X G σ (some (.int r))) σ 54 [(0, .ref v0), (1, .int v1), (2, .int v2), (3, .int v3), (4, .int v4), (5, .int v5), (6, .int v6)] [.int t_2] := by
      intro t_2 hm
      replace hm := ej54 _ hm
      refine rx_istore (lv1 := [(7, .int t_2), (0, .ref v0), (1, .int v1), (2, .int v2), (3, .int v3), (4, .int v4), (5, .int v5), (6, .int v6)]) C dX11_changesOut_54 (by decide) rfl ?_
      refine rx_iload C 6 dX11_changesOut_56 rfl ?_
      refine rx_iload C 5 dX11_changesOut_58 rfl ?_
      refine rr_jn1 hm (fun j75 ej75 hm => ?_)
      have hj75 : ∀ (t_3 : Int32), j75 t_3 = some r → rr_J X G 8 (rr_E X G σ (some (.int r))) σ 75 [(0, .ref v0), (1, .int v1), (2, .int v2), (3, .int v3), (4, .int v4), (5, .int v5), (6, .int v6), (7, .int t_2)] [.int t_3, .int v5] := by
        intro t_3 hm
        replace hm := ej75 _ hm
        refine rx_iadd C dX11_changesOut_75 ?_
        refine rx_nmi hm (fun v5_4 ev5_4 hm => ?_)
        refine rx_istore (lv1 := [(5, .int v5_4), (0, .ref v0), (1, .int v1), (2, .int v2), (3, .int v3), (4, .int v4), (6, .int v6), (7, .int t_2)]) C dX11_changesOut_76 (by decide) rfl ?_
        refine rx_iload C 7 dX11_changesOut_78 rfl ?_
        refine rx_istore (lv1 := [(4, .int t_2), (5, .int v5_4), (0, .ref v0), (1, .int v1), (2, .int v2), (3, .int v3), (6, .int v6), (7, .int t_2)]) C dX11_changesOut_80 (by decide) rfl ?_
        refine rx_iinc (d := 1) (lv1 := fun v => [(6, .int v), (4, .int t_2), (5, .int v5_4), (0, .ref v0), (1, .int v1), (2, .int v2), (3, .int v3), (7, .int t_2)]) C 6 dX11_changesOut_82 hm rfl rfl (by decide) (fun _ => rfl) (fun v6_5 hm => ?_)
        refine rx_goto (tgt := 9) C dX11_changesOut_85 (by decide) ?_
        refine rx_lv [3, 4, 5, 6, 1, 2, 0] rfl ?_
        exact ih _ _ _ _ hm hk
      refine rr_jn1 hm (fun j74 ej74 hm => ?_)
      have hj74 : ∀ (uu : Unit), j74 uu = some r → rr_J X G 8 (rr_E X G σ (some (.int r))) σ 74 [(0, .ref v0), (1, .int v1), (2, .int v2), (3, .int v3), (4, .int v4), (5, .int v5), (6, .int v6), (7, .int t_2)] [.int v5] := by
        intro uu hm
        replace hm := ej74 _ hm
        refine rx_iconst (v := 0) C dX11_changesOut_74 rfl ?_
        refine rx_lv [0, 1, 2, 3, 4, 5, 6, 7] rfl ?_
        exact hj75 _ hm
      refine rx_if_eq (tgt := 74) C dX11_changesOut_60 (by decide) hm (fun h_6 hm => ?_) (fun h_6 hm => ?_)
      · refine rx_lv [1, 2, 3, 4, 5, 6, 7, 0] rfl ?_
        exact hj74 () hm
      refine rx_iload C 0 dX11_changesOut_63 rfl ?_
      refine rx_iload C 5 dX11_changesOut_65 rfl ?_
      refine rx_icmp_eq (tgt := 74) C dX11_changesOut_67 (by decide) hm (fun h_7 hm => ?_) (fun h_7 hm => ?_)
      · refine rx_lv [1, 2, 3, 4, 5, 6, 7, 0] rfl ?_
        exact hj74 () hm
      refine rx_iconst (v := 1) C dX11_changesOut_70 rfl ?_
      refine rx_goto (tgt := 75) C dX11_changesOut_71 (by decide) ?_
      refine rx_lv [1, 2, 3, 4, 5, 6, 7, 0] rfl ?_
      exact hj75 _ hm
    refine rr_jn1 hm (fun j46 ej46 hm => ?_)
    have hj46 : ∀ (uu : Unit), j46 uu = some r → rr_J X G 8 (rr_E X G σ (some (.int r))) σ 46 [(0, .ref v0), (1, .int v1), (2, .int v2), (3, .int v3), (4, .int v4), (5, .int v5), (6, .int v6)] [] := by
      intro uu hm
      replace hm := ej46 _ hm
      refine rx_aload_n C 0 dX11_changesOut_46 rfl ?_
      refine rx_iload_n C 1 dX11_changesOut_47 rfl ?_
      refine rx_iload C 6 dX11_changesOut_48 rfl ?_
      refine rx_iadd C dX11_changesOut_50 ?_
      obtain ⟨r_8, hc_9, hm⟩ := rr_b0_some hm
      refine rr_callV (rest := []) (st1 := [.int r_8]) C 9 hll (c_Mod_leadSign l G hG v0 m_v0 k_v0 (v1 + v6) σ _ hc_9) q_1119 q_1121 qs_76 q_11 q_1122 hd_Mod_leadSign ⟨_, rfl, rfl⟩ (by decide) m_v0 k_v0 ⟨by decide, by decide⟩ rfl rfl (Nat.le_of_ble_eq_true rfl) rfl dX11_changesOut_51 ?_
      refine rx_lv [0, 1, 2, 3, 4, 5, 6] rfl ?_
      exact hj54 _ hm
    refine rx_if_eq (tgt := 46) C dX11_changesOut_16 (by decide) hm (fun h_10 hm => ?_) (fun h_10 hm => ?_)
    · refine rx_lv [0, 1, 2, 3, 4, 5, 6] rfl ?_
      exact hj46 () hm
    refine rx_aload_n C 0 dX11_changesOut_19 rfl ?_
    refine gf_847 C m_v0 k_v0 dX11_changesOut_20 hm (fun p_11 m_p_11 k_p_11 hm => ?_)
    refine rx_iload_n C 1 dX11_changesOut_23 rfl ?_
    refine rx_iload C 6 dX11_changesOut_24 rfl ?_
    refine rx_iadd C dX11_changesOut_26 ?_
    refine rx_iald C m_p_11 k_p_11 dX11_changesOut_27 hm (fun hm => ?_)
    refine rx_iconst (v := 2) C dX11_changesOut_28 rfl ?_
    refine rx_irem C dX11_changesOut_29 (by decide) ?_
    refine rx_iconst (v := 1) C dX11_changesOut_30 rfl ?_
    refine rx_icmp_ne (tgt := 46) C dX11_changesOut_31 (by decide) hm (fun h_12 hm => ?_) (fun h_12 hm => ?_)
    · refine rx_lv [0, 1, 2, 3, 4, 5, 6] rfl ?_
      exact hj46 () hm
    refine rx_aload_n C 0 dX11_changesOut_34 rfl ?_
    refine rx_iload_n C 1 dX11_changesOut_35 rfl ?_
    refine rx_iload C 6 dX11_changesOut_36 rfl ?_
    refine rx_iadd C dX11_changesOut_38 ?_
    obtain ⟨r_13, hc_14, hm⟩ := rr_b0_some hm
    refine rr_callV (rest := []) (st1 := [.int r_13]) C 9 hll (c_Mod_leadSign l G hG v0 m_v0 k_v0 (v1 + v6) σ _ hc_14) q_1119 q_1121 qs_76 q_11 q_1122 hd_Mod_leadSign ⟨_, rfl, rfl⟩ (by decide) m_v0 k_v0 ⟨by decide, by decide⟩ rfl rfl (Nat.le_of_ble_eq_true rfl) rfl dX11_changesOut_39 ?_
    refine rx_ineg C dX11_changesOut_42 ?_
    refine rx_goto (tgt := 54) C dX11_changesOut_43 (by decide) ?_
    refine rx_lv [0, 1, 2, 3, 4, 5, 6] rfl ?_
    exact hj54 _ hm
def f_Mod_changesOut (fu : Nat) (N : Nat → Nat) (v0 : Nat) (v1 : Int32) (v2 : Int32) (v3 : Int32) (σ : rr_M) : Option (Int32) :=
    l_Mod_changesOut_9 fu N v0 v1 v2 v3 σ fu 0 0 0 (fun v5_15 =>
    some (v5_15))
theorem c_Mod_changesOut (l : Launch) (G : rr_G) (hG : G.2.2.1.Nodup) (fu : Nat) (v0 : Nat) (m_v0 : v0 ∈ G.2.2.1) (k_v0 : G.2.2.2.1 v0 = 9) (v1 : Int32) (v2 : Int32) (v3 : Int32) (σ : rr_M) (r : Int32) (hm : f_Mod_changesOut fu G.2.2.2.2 v0 v1 v2 v3 σ = some r) : rr_Met l G yX11_changesOut cX11_changesOut 8 (some .int) 2 42 [.ref v0, .int v1, .int v2, .int v3] σ σ (some (.int r)) := by
  refine rr_enter (lv0 := [(0, .ref v0), (1, .int v1), (2, .int v2), (3, .int v3)]) hp_Mod_changesOut hG (Nat.le_of_ble_eq_true rfl) rfl (fun X hll C => ?_)
  replace C : rr_C X G cX11_changesOut 8 "RootRowsModel" (some .int) 2 42 := C
  unfold f_Mod_changesOut at hm
  refine rx_iconst (v := 0) C dX11_changesOut_0 rfl ?_
  refine rx_istore (lv1 := [(4, .int 0), (0, .ref v0), (1, .int v1), (2, .int v2), (3, .int v3)]) C dX11_changesOut_1 (by decide) rfl ?_
  refine rx_iconst (v := 0) C dX11_changesOut_3 rfl ?_
  refine rx_istore (lv1 := [(5, .int 0), (4, .int 0), (0, .ref v0), (1, .int v1), (2, .int v2), (3, .int v3)]) C dX11_changesOut_4 (by decide) rfl ?_
  refine rx_iconst (v := 0) C dX11_changesOut_6 rfl ?_
  refine rx_istore (lv1 := [(6, .int 0), (5, .int 0), (4, .int 0), (0, .ref v0), (1, .int v1), (2, .int v2), (3, .int v3)]) C dX11_changesOut_7 (by decide) rfl ?_
  refine rx_lv [3, 4, 5, 6, 2, 1, 0] rfl ?_
  refine lw_Mod_changesOut_9 hG hll C σ v0 m_v0 k_v0 v1 v2 v3 _ _ _ _ _ hm (fun v5_15 hm => ?_)
  refine rx_iload C 0 dX11_changesOut_88 rfl ?_
  exact rx_iretR C dX11_changesOut_90 hm
def f_Mod_at (N : Nat → Nat) (v0 : Nat) (v1 : Int32) (v2 : Int32) (σ : rr_M) : Option (Int64) :=
    rr_lt (mg_r σ v0 8) fun p_1 =>
    (if rr_ix ((9 * v1) + v2) (N p_1) then
    some (mg_l σ p_1 (rr_n ((9 * v1) + v2))) else none)
theorem c_Mod_at (l : Launch) (G : rr_G) (hG : G.2.2.1.Nodup) (v0 : Nat) (m_v0 : v0 ∈ G.2.2.1) (k_v0 : G.2.2.2.1 v0 = 9) (v1 : Int32) (v2 : Int32) (σ : rr_M) (r : Int64) (hm : f_Mod_at G.2.2.2.2 v0 v1 v2 σ = some r) : rr_Met l G yX11_at cX11_at 3 (some .long) 0 0 [.ref v0, .int v1, .int v2] σ σ (some (.long r)) := by
  refine rr_enter (lv0 := [(0, .ref v0), (1, .int v1), (2, .int v2)]) hp_Mod_at hG (Nat.le_of_ble_eq_true rfl) rfl (fun X hll C => ?_)
  replace C : rr_C X G cX11_at 3 "RootRowsModel" (some .long) 0 0 := C
  unfold f_Mod_at at hm
  refine rx_aload_n C 0 dX11_at_0 rfl ?_
  refine gf_849 C m_v0 k_v0 dX11_at_1 hm (fun p_1 m_p_1 k_p_1 hm => ?_)
  refine rx_bipush (v := 9) C dX11_at_4 rfl ?_
  refine rx_iload_n C 1 dX11_at_6 rfl ?_
  refine rx_imul C dX11_at_7 ?_
  refine rx_iload_n C 2 dX11_at_8 rfl ?_
  refine rx_iadd C dX11_at_9 ?_
  refine rx_lald C m_p_1 k_p_1 dX11_at_10 hm (fun hm => ?_)
  exact rx_lretR C dX11_at_11 hm
def l_Mod_degreeOf_3 (fu : Nat) (N : Nat → Nat) (v0 : Nat) (v1 : Int32) (σ : rr_M) : Nat → Int32 → (Int32 → Option (Int32)) → Option (Int32)
  | 0, _, _ => none
  | n + 1, v2, kk =>
    if v2 < 0 then (kk v2) else
    Option.bind (f_Mod_at N v0 v1 v2 σ) fun r_2 =>
    if r_2 = 0 then (rr_lt (v2 + (-1)) fun v2_5 =>
    l_Mod_degreeOf_3 fu N v0 v1 σ n v2_5 kk) else
    kk v2
theorem lw_Mod_degreeOf_3 {X : rr_X} {G : rr_G} {l : Launch} {fu : Nat} (hG : G.2.2.1.Nodup) (hll : X.2.1 = l) (C : rr_C X G cX11_degreeOf 3 "RootRowsModel" (some .int) 1 22) {r : Int32}  (σ : rr_M) (v0 : Nat) (m_v0 : v0 ∈ G.2.2.1) (k_v0 : G.2.2.2.1 v0 = 9) (v1 : Int32) : ∀ (n : Nat) (v2 : Int32) (K : Int32 → Option (Int32)), l_Mod_degreeOf_3 fu G.2.2.2.2 v0 v1 σ n v2 K = some r → (∀ (w2 : Int32), K w2 = some r → rr_J X G 3 (rr_E X G σ (some (.int r))) σ 24 [(2, .int w2)] []) → rr_J X G 3 (rr_E X G σ (some (.int r))) σ 3 [(0, .ref v0), (1, .int v1), (2, .int v2)] [] := by
  intro n
  induction n with
  | zero =>
    intro v2 K hm
    cases hm
  | succ n ih =>
    intro v2 K hm hk
    unfold l_Mod_degreeOf_3 at hm
    refine rx_iload_n C 2 dX11_degreeOf_3 rfl ?_
    refine rx_if_lt (tgt := 24) C dX11_degreeOf_4 (by decide) hm (fun h_1 hm => ?_) (fun h_1 hm => ?_)
    · refine rx_lv [2] rfl ?_
      exact hk _ hm
    refine rx_aload_n C 0 dX11_degreeOf_7 rfl ?_
    refine rx_iload_n C 1 dX11_degreeOf_8 rfl ?_
    refine rx_iload_n C 2 dX11_degreeOf_9 rfl ?_
    obtain ⟨r_2, hc_3, hm⟩ := rr_b0_some hm
    refine rr_callV (rest := []) (st1 := [.long r_2]) C 9 hll (c_Mod_at l G hG v0 m_v0 k_v0 v1 v2 σ _ hc_3) q_950 q_952 qs_44 q_11 q_953 hd_Mod_at ⟨_, rfl, rfl⟩ (by decide) m_v0 k_v0 ⟨by decide, by decide⟩ rfl rfl (Nat.le_of_ble_eq_true rfl) rfl dX11_degreeOf_10 ?_
    refine rx_lconst (v := 0) C dX11_degreeOf_13 rfl ?_
    refine rx_lcmp_ne (tgt := 24) C dX11_degreeOf_14 dX11_degreeOf_15 (by decide) hm (fun h_4 hm => ?_) (fun h_4 hm => ?_)
    · refine rx_lv [2] rfl ?_
      exact hk _ hm
    refine rx_iinc (d := (-1)) (lv1 := fun v => [(2, .int v), (0, .ref v0), (1, .int v1)]) C 2 dX11_degreeOf_18 hm rfl rfl (by decide) (fun _ => rfl) (fun v2_5 hm => ?_)
    refine rx_goto (tgt := 3) C dX11_degreeOf_21 (by decide) ?_
    refine rx_lv [1, 2, 0] rfl ?_
    exact ih _ _ hm hk
def f_Mod_degreeOf (fu : Nat) (N : Nat → Nat) (v0 : Nat) (v1 : Int32) (σ : rr_M) : Option (Int32) :=
    l_Mod_degreeOf_3 fu N v0 v1 σ fu 8 (fun v2_6 =>
    some (v2_6))
theorem c_Mod_degreeOf (l : Launch) (G : rr_G) (hG : G.2.2.1.Nodup) (fu : Nat) (v0 : Nat) (m_v0 : v0 ∈ G.2.2.1) (k_v0 : G.2.2.2.1 v0 = 9) (v1 : Int32) (σ : rr_M) (r : Int32) (hm : f_Mod_degreeOf fu G.2.2.2.2 v0 v1 σ = some r) : rr_Met l G yX11_degreeOf cX11_degreeOf 3 (some .int) 1 22 [.ref v0, .int v1] σ σ (some (.int r)) := by
  refine rr_enter (lv0 := [(0, .ref v0), (1, .int v1)]) hp_Mod_degreeOf hG (Nat.le_of_ble_eq_true rfl) rfl (fun X hll C => ?_)
  replace C : rr_C X G cX11_degreeOf 3 "RootRowsModel" (some .int) 1 22 := C
  unfold f_Mod_degreeOf at hm
  refine rx_bipush (v := 8) C dX11_degreeOf_0 rfl ?_
  refine rx_istore_n (lv1 := [(2, .int 8), (0, .ref v0), (1, .int v1)]) C dX11_degreeOf_2 (by decide) rfl ?_
  refine rx_lv [1, 2, 0] rfl ?_
  refine lw_Mod_degreeOf_3 hG hll C σ v0 m_v0 k_v0 v1 _ _ _ hm (fun v2_6 hm => ?_)
  refine rx_iload_n C 0 dX11_degreeOf_24 rfl ?_
  exact rx_iretR C dX11_degreeOf_25 hm
def f_Mod_puts (N : Nat → Nat) (v0 : Nat) (v1 : Int32) (v2 : Int32) (v3 : Int64) (σ : rr_M) : Option (Unit × rr_M) :=
    rr_lt (mg_r σ v0 8) fun p_1 =>
    (if rr_ix ((9 * v1) + v2) (N p_1) then rr_lt (ms_l σ p_1 (rr_n ((9 * v1) + v2)) v3) fun σ_2 =>
    some ((), σ_2) else none)
theorem c_Mod_puts (l : Launch) (G : rr_G) (hG : G.2.2.1.Nodup) (v0 : Nat) (m_v0 : v0 ∈ G.2.2.1) (k_v0 : G.2.2.2.1 v0 = 9) (v1 : Int32) (v2 : Int32) (v3 : Int64) (σ : rr_M) (σr : rr_M) (hm : f_Mod_puts G.2.2.2.2 v0 v1 v2 v3 σ = some ((), σr)) : rr_Met l G yX11_puts cX11_puts 5 none 0 0 [.ref v0, .int v1, .int v2, .long v3] σ σr none := by
  refine rr_enter (lv0 := [(0, .ref v0), (1, .int v1), (2, .int v2), (3, .long v3)]) hp_Mod_puts hG (Nat.le_of_ble_eq_true rfl) rfl (fun X hll C => ?_)
  replace C : rr_C X G cX11_puts 5 "RootRowsModel" none 0 0 := C
  unfold f_Mod_puts at hm
  refine rx_aload_n C 0 dX11_puts_0 rfl ?_
  refine gf_849 C m_v0 k_v0 dX11_puts_1 hm (fun p_1 m_p_1 k_p_1 hm => ?_)
  refine rx_bipush (v := 9) C dX11_puts_4 rfl ?_
  refine rx_iload_n C 1 dX11_puts_6 rfl ?_
  refine rx_imul C dX11_puts_7 ?_
  refine rx_iload_n C 2 dX11_puts_8 rfl ?_
  refine rx_iadd C dX11_puts_9 ?_
  refine rx_lload_n C 3 dX11_puts_10 rfl ?_
  refine rx_last C m_p_1 k_p_1 dX11_puts_11 hm (fun σ_2 hm => ?_)
  exact rx_vret C dX11_puts_12 hm
def l_Mod_divides_3 (fu : Nat) (N : Nat → Nat) (v0 : Nat) (v1 : Int32) (v2 : Int32) : Nat → Int32 → rr_M → (rr_M → Option (Unit × rr_M)) → Option (Unit × rr_M)
  | 0, _, _, _ => none
  | n + 1, v4, σ, kk =>
    if 9 ≤ v4 then (kk σ) else
    Option.bind (f_Mod_at N v0 v2 v4 σ) fun r_2 =>
    rr_bd (f_Mod_puts N v0 22 v4 r_2 σ) fun _ σ_4 =>
    rr_bd (f_Mod_puts N v0 v1 v4 0 σ_4) fun _ σ_6 =>
    rr_lt (v4 + 1) fun v4_8 =>
    l_Mod_divides_3 fu N v0 v1 v2 n v4_8 σ_6 kk
theorem lw_Mod_divides_3 {X : rr_X} {G : rr_G} {l : Launch} {fu : Nat} (hG : G.2.2.1.Nodup) (hll : X.2.1 = l) (C : rr_C X G cX11_divides 9 "RootRowsModel" none 2 44) {σr : rr_M} (v0 : Nat) (m_v0 : v0 ∈ G.2.2.1) (k_v0 : G.2.2.2.1 v0 = 9) (v1 : Int32) (v2 : Int32) (v3 : Int32) : ∀ (n : Nat) (v4 : Int32) (σ : rr_M) (K : rr_M → Option (Unit × rr_M)), l_Mod_divides_3 fu G.2.2.2.2 v0 v1 v2 n v4 σ K = some ((), σr) → (∀ (σ1 : rr_M), K σ1 = some ((), σr) → rr_J X G 9 (rr_E X G σr none) σ1 39 [(0, .ref v0), (1, .int v1), (2, .int v2), (3, .int v3)] []) → rr_J X G 9 (rr_E X G σr none) σ 3 [(0, .ref v0), (1, .int v1), (2, .int v2), (3, .int v3), (4, .int v4)] [] := by
  intro n
  induction n with
  | zero =>
    intro v4 σ K hm
    cases hm
  | succ n ih =>
    intro v4 σ K hm hk
    unfold l_Mod_divides_3 at hm
    refine rx_iload C 4 dX11_divides_3 rfl ?_
    refine rx_bipush (v := 9) C dX11_divides_5 rfl ?_
    refine rx_icmp_ge (tgt := 39) C dX11_divides_7 (by decide) hm (fun h_1 hm => ?_) (fun h_1 hm => ?_)
    · refine rx_lv [0, 1, 2, 3] rfl ?_
      exact hk _ hm
    refine rx_aload_n C 0 dX11_divides_10 rfl ?_
    refine rx_bipush (v := 22) C dX11_divides_11 rfl ?_
    refine rx_iload C 4 dX11_divides_13 rfl ?_
    refine rx_aload_n C 0 dX11_divides_15 rfl ?_
    refine rx_iload_n C 2 dX11_divides_16 rfl ?_
    refine rx_iload C 4 dX11_divides_17 rfl ?_
    obtain ⟨r_2, hc_3, hm⟩ := rr_b0_some hm
    refine rr_callV (rest := [.int v4, .int 22, .ref v0]) (st1 := [.long r_2, .int v4, .int 22, .ref v0]) C 9 hll (c_Mod_at l G hG v0 m_v0 k_v0 v2 v4 σ _ hc_3) q_950 q_952 qs_44 q_11 q_953 hd_Mod_at ⟨_, rfl, rfl⟩ (by decide) m_v0 k_v0 ⟨by decide, by decide⟩ rfl rfl (Nat.le_of_ble_eq_true rfl) rfl dX11_divides_19 ?_
    obtain ⟨_, σ_4, hc_5, hm⟩ := rr_bd_some hm
    refine rr_callV (rest := []) (st1 := []) C 9 hll (c_Mod_puts l G hG v0 m_v0 k_v0 22 v4 r_2 σ _ hc_5) q_921 q_923 qs_38 q_11 q_924 hd_Mod_puts ⟨_, rfl, rfl⟩ (by decide) m_v0 k_v0 ⟨by decide, by decide⟩ rfl rfl (Nat.le_of_ble_eq_true rfl) rfl dX11_divides_22 ?_
    refine rx_aload_n C 0 dX11_divides_25 rfl ?_
    refine rx_iload_n C 1 dX11_divides_26 rfl ?_
    refine rx_iload C 4 dX11_divides_27 rfl ?_
    refine rx_lconst (v := 0) C dX11_divides_29 rfl ?_
    obtain ⟨_, σ_6, hc_7, hm⟩ := rr_bd_some hm
    refine rr_callV (rest := []) (st1 := []) C 9 hll (c_Mod_puts l G hG v0 m_v0 k_v0 v1 v4 0 σ_4 _ hc_7) q_921 q_923 qs_38 q_11 q_924 hd_Mod_puts ⟨_, rfl, rfl⟩ (by decide) m_v0 k_v0 ⟨by decide, by decide⟩ rfl rfl (Nat.le_of_ble_eq_true rfl) rfl dX11_divides_30 ?_
    refine rx_iinc (d := 1) (lv1 := fun v => [(4, .int v), (0, .ref v0), (1, .int v1), (2, .int v2), (3, .int v3)]) C 4 dX11_divides_33 hm rfl rfl (by decide) (fun _ => rfl) (fun v4_8 hm => ?_)
    refine rx_goto (tgt := 3) C dX11_divides_36 (by decide) ?_
    refine rx_lv [1, 2, 3, 4, 0] rfl ?_
    exact ih _ _ _ hm hk
def l_Mod_divides_94 (fu : Nat) (N : Nat → Nat) (v0 : Nat) (v3 : Int32) (v4 : Int32) (v5 : Int32) (v6 : Int64) : Nat → Int32 → rr_M → (rr_M → Option (Unit × rr_M)) → Option (Unit × rr_M)
  | 0, _, _, _ => none
  | n + 1, v8, σ, kk =>
    if v4 < v8 then (kk σ) else
    Option.bind (f_Mod_at N v0 22 (v5 + v8) σ) fun r_25 =>
    Option.bind (f_Mod_at N v0 v3 v8 σ) fun r_27 =>
    rr_bd (f_Mod_puts N v0 22 (v5 + v8) (r_25 - (v6 * r_27)) σ) fun _ σ_29 =>
    rr_lt (v8 + 1) fun v8_31 =>
    l_Mod_divides_94 fu N v0 v3 v4 v5 v6 n v8_31 σ_29 kk
theorem lw_Mod_divides_94 {X : rr_X} {G : rr_G} {l : Launch} {fu : Nat} (hG : G.2.2.1.Nodup) (hll : X.2.1 = l) (C : rr_C X G cX11_divides 9 "RootRowsModel" none 2 44) {σr : rr_M} (v0 : Nat) (m_v0 : v0 ∈ G.2.2.1) (k_v0 : G.2.2.2.1 v0 = 9) (v1 : Int32) (v3 : Int32) (v4 : Int32) (v5 : Int32) (v6 : Int64) : ∀ (n : Nat) (v8 : Int32) (σ : rr_M) (K : rr_M → Option (Unit × rr_M)), l_Mod_divides_94 fu G.2.2.2.2 v0 v3 v4 v5 v6 n v8 σ K = some ((), σr) → (∀ (σ1 : rr_M), K σ1 = some ((), σr) → rr_J X G 9 (rr_E X G σr none) σ1 140 [(0, .ref v0), (1, .int v1), (3, .int v3), (4, .int v4), (5, .int v5)] []) → rr_J X G 9 (rr_E X G σr none) σ 94 [(0, .ref v0), (1, .int v1), (3, .int v3), (4, .int v4), (5, .int v5), (6, .long v6), (8, .int v8)] [] := by
  intro n
  induction n with
  | zero =>
    intro v8 σ K hm
    cases hm
  | succ n ih =>
    intro v8 σ K hm hk
    unfold l_Mod_divides_94 at hm
    refine rx_iload C 6 dX11_divides_94 rfl ?_
    refine rx_iload C 3 dX11_divides_96 rfl ?_
    refine rx_icmp_gt (tgt := 140) C dX11_divides_98 (by decide) hm (fun h_24 hm => ?_) (fun h_24 hm => ?_)
    · refine rx_lv [0, 1, 2, 3, 4] rfl ?_
      exact hk _ hm
    refine rx_aload_n C 0 dX11_divides_101 rfl ?_
    refine rx_bipush (v := 22) C dX11_divides_102 rfl ?_
    refine rx_iload C 4 dX11_divides_104 rfl ?_
    refine rx_iload C 6 dX11_divides_106 rfl ?_
    refine rx_iadd C dX11_divides_108 ?_
    refine rx_aload_n C 0 dX11_divides_109 rfl ?_
    refine rx_bipush (v := 22) C dX11_divides_110 rfl ?_
    refine rx_iload C 4 dX11_divides_112 rfl ?_
    refine rx_iload C 6 dX11_divides_114 rfl ?_
    refine rx_iadd C dX11_divides_116 ?_
    obtain ⟨r_25, hc_26, hm⟩ := rr_b0_some hm
    refine rr_callV (rest := [.int (v5 + v8), .int 22, .ref v0]) (st1 := [.long r_25, .int (v5 + v8), .int 22, .ref v0]) C 9 hll (c_Mod_at l G hG v0 m_v0 k_v0 22 (v5 + v8) σ _ hc_26) q_950 q_952 qs_44 q_11 q_953 hd_Mod_at ⟨_, rfl, rfl⟩ (by decide) m_v0 k_v0 ⟨by decide, by decide⟩ rfl rfl (Nat.le_of_ble_eq_true rfl) rfl dX11_divides_117 ?_
    refine rx_lload C 5 dX11_divides_120 rfl ?_
    refine rx_aload_n C 0 dX11_divides_122 rfl ?_
    refine rx_iload_n C 2 dX11_divides_123 rfl ?_
    refine rx_iload C 6 dX11_divides_124 rfl ?_
    obtain ⟨r_27, hc_28, hm⟩ := rr_b0_some hm
    refine rr_callV (rest := [.long v6, .long r_25, .int (v5 + v8), .int 22, .ref v0]) (st1 := [.long r_27, .long v6, .long r_25, .int (v5 + v8), .int 22, .ref v0]) C 9 hll (c_Mod_at l G hG v0 m_v0 k_v0 v3 v8 σ _ hc_28) q_950 q_952 qs_44 q_11 q_953 hd_Mod_at ⟨_, rfl, rfl⟩ (by decide) m_v0 k_v0 ⟨by decide, by decide⟩ rfl rfl (Nat.le_of_ble_eq_true rfl) rfl dX11_divides_126 ?_
    refine rx_lmul C dX11_divides_129 ?_
    refine rx_lsub C dX11_divides_130 ?_
    obtain ⟨_, σ_29, hc_30, hm⟩ := rr_bd_some hm
    refine rr_callV (rest := []) (st1 := []) C 9 hll (c_Mod_puts l G hG v0 m_v0 k_v0 22 (v5 + v8) (r_25 - (v6 * r_27)) σ _ hc_30) q_921 q_923 qs_38 q_11 q_924 hd_Mod_puts ⟨_, rfl, rfl⟩ (by decide) m_v0 k_v0 ⟨by decide, by decide⟩ rfl rfl (Nat.le_of_ble_eq_true rfl) rfl dX11_divides_131 ?_
    refine rx_iinc (d := 1) (lv1 := fun v => [(8, .int v), (0, .ref v0), (1, .int v1), (3, .int v3), (4, .int v4), (5, .int v5), (6, .long v6)]) C 6 dX11_divides_134 hm rfl rfl (by decide) (fun _ => rfl) (fun v8_31 hm => ?_)
    refine rx_goto (tgt := 94) C dX11_divides_137 (by decide) ?_
    refine rx_lv [1, 2, 3, 4, 5, 6, 0] rfl ?_
    exact ih _ _ _ hm hk
def l_Mod_divides_56 (fu : Nat) (N : Nat → Nat) (v0 : Nat) (v1 : Int32) (v3 : Int32) (v4 : Int32) : Nat → Int32 → rr_M → (rr_M → Option (Unit × rr_M)) → Option (Unit × rr_M)
  | 0, _, _, _ => none
  | n + 1, v5, σ, kk =>
    if v5 < 0 then (kk σ) else
    Option.bind (f_Mod_at N v0 22 (v5 + v4) σ) fun r_16 =>
    Option.bind (f_Mod_at N v0 v3 v4 σ) fun r_18 =>
    if r_18 = 0 then none else
    rr_lt (r_16 / r_18) fun v6_21 =>
    rr_bd (f_Mod_puts N v0 v1 v5 v6_21 σ) fun _ σ_22 =>
    l_Mod_divides_94 fu N v0 v3 v4 v5 v6_21 fu 0 σ_22 (fun σ_32 =>
    rr_lt (v5 + (-1)) fun v5_33 =>
    l_Mod_divides_56 fu N v0 v1 v3 v4 n v5_33 σ_32 kk)
theorem lw_Mod_divides_56 {X : rr_X} {G : rr_G} {l : Launch} {fu : Nat} (hG : G.2.2.1.Nodup) (hll : X.2.1 = l) (C : rr_C X G cX11_divides 9 "RootRowsModel" none 2 44) {σr : rr_M} (v0 : Nat) (m_v0 : v0 ∈ G.2.2.1) (k_v0 : G.2.2.2.1 v0 = 9) (v1 : Int32) (v3 : Int32) (v4 : Int32) : ∀ (n : Nat) (v5 : Int32) (σ : rr_M) (K : rr_M → Option (Unit × rr_M)), l_Mod_divides_56 fu G.2.2.2.2 v0 v1 v3 v4 n v5 σ K = some ((), σr) → (∀ (σ1 : rr_M), K σ1 = some ((), σr) → rr_J X G 9 (rr_E X G σr none) σ1 146 [] []) → rr_J X G 9 (rr_E X G σr none) σ 56 [(0, .ref v0), (1, .int v1), (3, .int v3), (4, .int v4), (5, .int v5)] [] := by
  intro n
  induction n with
  | zero =>
    intro v5 σ K hm
    cases hm
  | succ n ih =>
    intro v5 σ K hm hk
    unfold l_Mod_divides_56 at hm
    refine rx_iload C 4 dX11_divides_56 rfl ?_
    refine rx_if_lt (tgt := 146) C dX11_divides_58 (by decide) hm (fun h_15 hm => ?_) (fun h_15 hm => ?_)
    · refine rx_lv [] rfl ?_
      exact hk _ hm
    refine rx_aload_n C 0 dX11_divides_61 rfl ?_
    refine rx_bipush (v := 22) C dX11_divides_62 rfl ?_
    refine rx_iload C 4 dX11_divides_64 rfl ?_
    refine rx_iload C 3 dX11_divides_66 rfl ?_
    refine rx_iadd C dX11_divides_68 ?_
    obtain ⟨r_16, hc_17, hm⟩ := rr_b0_some hm
    refine rr_callV (rest := []) (st1 := [.long r_16]) C 9 hll (c_Mod_at l G hG v0 m_v0 k_v0 22 (v5 + v4) σ _ hc_17) q_950 q_952 qs_44 q_11 q_953 hd_Mod_at ⟨_, rfl, rfl⟩ (by decide) m_v0 k_v0 ⟨by decide, by decide⟩ rfl rfl (Nat.le_of_ble_eq_true rfl) rfl dX11_divides_69 ?_
    refine rx_aload_n C 0 dX11_divides_72 rfl ?_
    refine rx_iload_n C 2 dX11_divides_73 rfl ?_
    refine rx_iload C 3 dX11_divides_74 rfl ?_
    obtain ⟨r_18, hc_19, hm⟩ := rr_b0_some hm
    refine rr_callV (rest := [.long r_16]) (st1 := [.long r_18, .long r_16]) C 9 hll (c_Mod_at l G hG v0 m_v0 k_v0 v3 v4 σ _ hc_19) q_950 q_952 qs_44 q_11 q_953 hd_Mod_at ⟨_, rfl, rfl⟩ (by decide) m_v0 k_v0 ⟨by decide, by decide⟩ rfl rfl (Nat.le_of_ble_eq_true rfl) rfl dX11_divides_76 ?_
    obtain ⟨hz_20, hm⟩ := rr_gzl hm
    refine rx_ldiv C dX11_divides_79 hz_20 ?_
    refine rx_nml hm (fun v6_21 ev6_21 hm => ?_)
    refine rx_lstore (lv1 := [(6, .long v6_21), (0, .ref v0), (1, .int v1), (3, .int v3), (4, .int v4), (5, .int v5)]) C dX11_divides_80 (by decide) rfl ?_
    refine rx_aload_n C 1 dX11_divides_82 rfl ?_
    refine rx_iload_n C 2 dX11_divides_83 rfl ?_
    refine rx_iload C 5 dX11_divides_84 rfl ?_
    refine rx_lload C 0 dX11_divides_86 rfl ?_
    obtain ⟨_, σ_22, hc_23, hm⟩ := rr_bd_some hm
    refine rr_callV (rest := []) (st1 := []) C 9 hll (c_Mod_puts l G hG v0 m_v0 k_v0 v1 v5 v6_21 σ _ hc_23) q_921 q_923 qs_38 q_11 q_924 hd_Mod_puts ⟨_, rfl, rfl⟩ (by decide) m_v0 k_v0 ⟨by decide, by decide⟩ rfl rfl (Nat.le_of_ble_eq_true rfl) rfl dX11_divides_88 ?_
    refine rx_iconst (v := 0) C dX11_divides_91 rfl ?_
    refine rx_istore (lv1 := [(8, .int 0), (6, .long v6_21), (0, .ref v0), (1, .int v1), (3, .int v3), (4, .int v4), (5, .int v5)]) C dX11_divides_92 (by decide) rfl ?_
    refine rx_lv [2, 3, 4, 5, 6, 1, 0] rfl ?_
    refine lw_Mod_divides_94 hG hll C v0 m_v0 k_v0 v1 v3 v4 v5 v6_21 _ _ _ _ hm (fun σ_32 hm => ?_)
    refine rx_iinc (d := (-1)) (lv1 := fun v => [(5, .int v), (0, .ref v0), (1, .int v1), (3, .int v3), (4, .int v4)]) C 4 dX11_divides_140 hm rfl rfl (by decide) (fun _ => rfl) (fun v5_33 hm => ?_)
    refine rx_goto (tgt := 56) C dX11_divides_143 (by decide) ?_
    refine rx_lv [1, 2, 3, 4, 0] rfl ?_
    exact ih _ _ _ hm hk
def f_Mod_divides (fu : Nat) (N : Nat → Nat) (v0 : Nat) (v1 : Int32) (v2 : Int32) (v3 : Int32) (σ : rr_M) : Option (Unit × rr_M) :=
    l_Mod_divides_3 fu N v0 v1 v2 fu 0 σ (fun σ_9 =>
    Option.bind (f_Mod_degreeOf fu N v0 v3 σ_9) fun r_10 =>
    Option.bind (f_Mod_degreeOf fu N v0 v2 σ_9) fun r_12 =>
    rr_lt (r_12 - r_10) fun v5_14 =>
    l_Mod_divides_56 fu N v0 v1 v3 r_10 fu v5_14 σ_9 (fun σ_34 =>
    some ((), σ_34)))
theorem c_Mod_divides (l : Launch) (G : rr_G) (hG : G.2.2.1.Nodup) (fu : Nat) (v0 : Nat) (m_v0 : v0 ∈ G.2.2.1) (k_v0 : G.2.2.2.1 v0 = 9) (v1 : Int32) (v2 : Int32) (v3 : Int32) (σ : rr_M) (σr : rr_M) (hm : f_Mod_divides fu G.2.2.2.2 v0 v1 v2 v3 σ = some ((), σr)) : rr_Met l G yX11_divides cX11_divides 9 none 2 44 [.ref v0, .int v1, .int v2, .int v3] σ σr none := by
  refine rr_enter (lv0 := [(0, .ref v0), (1, .int v1), (2, .int v2), (3, .int v3)]) hp_Mod_divides hG (Nat.le_of_ble_eq_true rfl) rfl (fun X hll C => ?_)
  replace C : rr_C X G cX11_divides 9 "RootRowsModel" none 2 44 := C
  unfold f_Mod_divides at hm
  refine rx_iconst (v := 0) C dX11_divides_0 rfl ?_
  refine rx_istore (lv1 := [(4, .int 0), (0, .ref v0), (1, .int v1), (2, .int v2), (3, .int v3)]) C dX11_divides_1 (by decide) rfl ?_
  refine rx_lv [1, 2, 3, 4, 0] rfl ?_
  refine lw_Mod_divides_3 hG hll C v0 m_v0 k_v0 v1 v2 v3 _ _ _ _ hm (fun σ_9 hm => ?_)
  refine rx_aload_n C 0 dX11_divides_39 rfl ?_
  refine rx_iload_n C 3 dX11_divides_40 rfl ?_
  obtain ⟨r_10, hc_11, hm⟩ := rr_b0_some hm
  refine rr_callV (rest := []) (st1 := [.int r_10]) C 9 hll (c_Mod_degreeOf l G hG fu v0 m_v0 k_v0 v3 σ_9 _ hc_11) q_997 q_999 qs_50 q_11 q_1000 hd_Mod_degreeOf ⟨_, rfl, rfl⟩ (by decide) m_v0 k_v0 ⟨by decide, by decide⟩ rfl rfl (Nat.le_of_ble_eq_true rfl) rfl dX11_divides_41 ?_
  refine rx_istore (lv1 := [(4, .int r_10), (0, .ref v0), (1, .int v1), (2, .int v2), (3, .int v3)]) C dX11_divides_44 (by decide) rfl ?_
  refine rx_aload_n C 1 dX11_divides_46 rfl ?_
  refine rx_iload_n C 3 dX11_divides_47 rfl ?_
  obtain ⟨r_12, hc_13, hm⟩ := rr_b0_some hm
  refine rr_callV (rest := []) (st1 := [.int r_12]) C 9 hll (c_Mod_degreeOf l G hG fu v0 m_v0 k_v0 v2 σ_9 _ hc_13) q_997 q_999 qs_50 q_11 q_1000 hd_Mod_degreeOf ⟨_, rfl, rfl⟩ (by decide) m_v0 k_v0 ⟨by decide, by decide⟩ rfl rfl (Nat.le_of_ble_eq_true rfl) rfl dX11_divides_48 ?_
  refine rx_iload C 0 dX11_divides_51 rfl ?_
  refine rx_isub C dX11_divides_53 ?_
  refine rx_nmi hm (fun v5_14 ev5_14 hm => ?_)
  refine rx_istore (lv1 := [(5, .int v5_14), (4, .int r_10), (0, .ref v0), (1, .int v1), (2, .int v2), (3, .int v3)]) C dX11_divides_54 (by decide) rfl ?_
  refine rx_lv [2, 3, 5, 1, 0] rfl ?_
  refine lw_Mod_divides_56 hG hll C v0 m_v0 k_v0 v1 v3 r_10 _ _ _ _ hm (fun σ_34 hm => ?_)
  exact rx_vret C dX11_divides_146 hm
def l_Mod_digit_131 (fu : Nat) (N : Nat → Nat) (v0 : Nat) (v1 : Int32) (v2 : Int32) (v5 : Int64) : Nat → Int64 → Int32 → rr_M → (Int64 → rr_M → Option (Int32 × rr_M)) → Option (Int32 × rr_M)
  | 0, _, _, _, _ => none
  | n + 1, v9, v11, σ, kk =>
    if v2 ≤ v11 then (kk v9 σ) else
    rr_lt (mg_r σ v0 4) fun p_12 =>
    (if rr_ix (v1 + v11) (N p_12) then
    rr_lt (mg_r σ v0 5) fun p_13 =>
    (if rr_ix v11 (N p_13) then
    rr_lt (((mg_l σ p_12 (rr_n (v1 + v11))) - (v5 * (mg_l σ p_13 (rr_n v11)))) - v9) fun v12_14 =>
    rr_lt (((v12_14 - v12_14 / 65536 * 65536) + 65536) - ((v12_14 - v12_14 / 65536 * 65536) + 65536) / 65536 * 65536) fun v14_15 =>
    rr_lt ((v14_15 - v12_14) / 65536) fun v9_16 =>
    rr_lt (mg_r σ v0 4) fun p_17 =>
    (if rr_ix (v1 + v11) (N p_17) then rr_lt (ms_l σ p_17 (rr_n (v1 + v11)) v14_15) fun σ_18 =>
    rr_lt (v11 + 1) fun v11_19 =>
    l_Mod_digit_131 fu N v0 v1 v2 v5 n v9_16 v11_19 σ_18 kk else none) else none) else none)
theorem lw_Mod_digit_131 {X : rr_X} {G : rr_G} {l : Launch} {fu : Nat} (hG : G.2.2.1.Nodup) (hll : X.2.1 = l) (C : rr_C X G cX11_digit 18 "RootRowsModel" (some .int) 0 0) {r : Int32} {σr : rr_M} (v0 : Nat) (m_v0 : v0 ∈ G.2.2.1) (k_v0 : G.2.2.2.1 v0 = 9) (v1 : Int32) (v2 : Int32) (v5 : Int64) : ∀ (n : Nat) (v9 : Int64) (v11 : Int32) (σ : rr_M) (K : Int64 → rr_M → Option (Int32 × rr_M)), l_Mod_digit_131 fu G.2.2.2.2 v0 v1 v2 v5 n v9 v11 σ K = some (r, σr) → (∀ (w9 : Int64) (σ1 : rr_M), K w9 σ1 = some (r, σr) → rr_J X G 18 (rr_E X G σr (some (.int r))) σ1 206 [(0, .ref v0), (1, .int v1), (2, .int v2), (5, .long v5), (9, .long w9)] []) → rr_J X G 18 (rr_E X G σr (some (.int r))) σ 131 [(0, .ref v0), (1, .int v1), (2, .int v2), (5, .long v5), (9, .long v9), (11, .int v11)] [] := by
  intro n
  induction n with
  | zero =>
    intro v9 v11 σ K hm
    cases hm
  | succ n ih =>
    intro v9 v11 σ K hm hk
    unfold l_Mod_digit_131 at hm
    refine rx_iload C 5 dX11_digit_131 rfl ?_
    refine rx_iload_n C 2 dX11_digit_133 rfl ?_
    refine rx_icmp_ge (tgt := 206) C dX11_digit_134 (by decide) hm (fun h_11 hm => ?_) (fun h_11 hm => ?_)
    · refine rx_lv [0, 1, 2, 3, 4] rfl ?_
      exact hk _ _ hm
    refine rx_aload_n C 0 dX11_digit_137 rfl ?_
    refine gf_845 C m_v0 k_v0 dX11_digit_138 hm (fun p_12 m_p_12 k_p_12 hm => ?_)
    refine rx_iload_n C 1 dX11_digit_141 rfl ?_
    refine rx_iload C 5 dX11_digit_142 rfl ?_
    refine rx_iadd C dX11_digit_144 ?_
    refine rx_lald C m_p_12 k_p_12 dX11_digit_145 hm (fun hm => ?_)
    refine rx_lload C 3 dX11_digit_146 rfl ?_
    refine rx_aload_n C 0 dX11_digit_148 rfl ?_
    refine gf_846 C m_v0 k_v0 dX11_digit_149 hm (fun p_13 m_p_13 k_p_13 hm => ?_)
    refine rx_iload C 5 dX11_digit_152 rfl ?_
    refine rx_lald C m_p_13 k_p_13 dX11_digit_154 hm (fun hm => ?_)
    refine rx_lmul C dX11_digit_155 ?_
    refine rx_lsub C dX11_digit_156 ?_
    refine rx_lload C 4 dX11_digit_157 rfl ?_
    refine rx_lsub C dX11_digit_159 ?_
    refine rx_nml hm (fun v12_14 ev12_14 hm => ?_)
    refine rx_lstore (lv1 := [(12, .long v12_14), (0, .ref v0), (1, .int v1), (2, .int v2), (5, .long v5), (9, .long v9), (11, .int v11)]) C dX11_digit_160 (by decide) rfl ?_
    refine rx_lload C 0 dX11_digit_162 rfl ?_
    refine rx_ldc2 C q_996 dX11_digit_164 ?_
    refine rx_lrem C dX11_digit_167 (by decide) ?_
    refine rx_ldc2 C q_996 dX11_digit_168 ?_
    refine rx_ladd C dX11_digit_171 ?_
    refine rx_ldc2 C q_996 dX11_digit_172 ?_
    refine rx_lrem C dX11_digit_175 (by decide) ?_
    refine rx_nml hm (fun v14_15 ev14_15 hm => ?_)
    refine rx_lstore (lv1 := [(14, .long v14_15), (12, .long v12_14), (0, .ref v0), (1, .int v1), (2, .int v2), (5, .long v5), (9, .long v9), (11, .int v11)]) C dX11_digit_176 (by decide) rfl ?_
    refine rx_lload C 0 dX11_digit_178 rfl ?_
    refine rx_lload C 1 dX11_digit_180 rfl ?_
    refine rx_lsub C dX11_digit_182 ?_
    refine rx_ldc2 C q_996 dX11_digit_183 ?_
    refine rx_ldiv C dX11_digit_186 (by decide) ?_
    refine rx_nml hm (fun v9_16 ev9_16 hm => ?_)
    refine rx_lstore (lv1 := [(9, .long v9_16), (14, .long v14_15), (12, .long v12_14), (0, .ref v0), (1, .int v1), (2, .int v2), (5, .long v5), (11, .int v11)]) C dX11_digit_187 (by decide) rfl ?_
    refine rx_aload_n C 3 dX11_digit_189 rfl ?_
    refine gf_845 C m_v0 k_v0 dX11_digit_190 hm (fun p_17 m_p_17 k_p_17 hm => ?_)
    refine rx_iload_n C 4 dX11_digit_193 rfl ?_
    refine rx_iload C 7 dX11_digit_194 rfl ?_
    refine rx_iadd C dX11_digit_196 ?_
    refine rx_lload C 1 dX11_digit_197 rfl ?_
    refine rx_last C m_p_17 k_p_17 dX11_digit_199 hm (fun σ_18 hm => ?_)
    refine rx_iinc (d := 1) (lv1 := fun v => [(11, .int v), (9, .long v9_16), (14, .long v14_15), (12, .long v12_14), (0, .ref v0), (1, .int v1), (2, .int v2), (5, .long v5)]) C 7 dX11_digit_200 hm rfl rfl (by decide) (fun _ => rfl) (fun v11_19 hm => ?_)
    refine rx_goto (tgt := 131) C dX11_digit_203 (by decide) ?_
    refine rx_lv [4, 5, 6, 7, 1, 0] rfl ?_
    exact ih _ _ _ _ hm hk
def l_Mod_digit_246 (fu : Nat) (N : Nat → Nat) (v0 : Nat) (v1 : Int32) (v2 : Int32) : Nat → Int64 → Int32 → rr_M → (Int64 → rr_M → Option (Int32 × rr_M)) → Option (Int32 × rr_M)
  | 0, _, _, _, _ => none
  | n + 1, v13, v15, σ, kk =>
    if v2 ≤ v15 then (kk v13 σ) else
    rr_lt (mg_r σ v0 4) fun p_28 =>
    (if rr_ix (v1 + v15) (N p_28) then
    rr_lt (mg_r σ v0 5) fun p_29 =>
    (if rr_ix v15 (N p_29) then
    rr_lt (((mg_l σ p_28 (rr_n (v1 + v15))) + (mg_l σ p_29 (rr_n v15))) + v13) fun v16_30 =>
    rr_lt (mg_r σ v0 4) fun p_31 =>
    (if rr_ix (v1 + v15) (N p_31) then rr_lt (ms_l σ p_31 (rr_n (v1 + v15)) (v16_30 - v16_30 / 65536 * 65536)) fun σ_32 =>
    rr_lt (v16_30 / 65536) fun v13_33 =>
    rr_lt (v15 + 1) fun v15_34 =>
    l_Mod_digit_246 fu N v0 v1 v2 n v13_33 v15_34 σ_32 kk else none) else none) else none)
theorem lw_Mod_digit_246 {X : rr_X} {G : rr_G} {l : Launch} {fu : Nat} (hG : G.2.2.1.Nodup) (hll : X.2.1 = l) (C : rr_C X G cX11_digit 18 "RootRowsModel" (some .int) 0 0) {r : Int32} {σr : rr_M} (v0 : Nat) (m_v0 : v0 ∈ G.2.2.1) (k_v0 : G.2.2.2.1 v0 = 9) (v1 : Int32) (v2 : Int32) (v5 : Int64) (v11 : Int64) : ∀ (n : Nat) (v13 : Int64) (v15 : Int32) (σ : rr_M) (K : Int64 → rr_M → Option (Int32 × rr_M)), l_Mod_digit_246 fu G.2.2.2.2 v0 v1 v2 n v13 v15 σ K = some (r, σr) → (∀ (w13 : Int64) (σ1 : rr_M), K w13 σ1 = some (r, σr) → rr_J X G 18 (rr_E X G σr (some (.int r))) σ1 303 [(0, .ref v0), (1, .int v1), (2, .int v2), (5, .long v5), (11, .long v11), (13, .long w13)] []) → rr_J X G 18 (rr_E X G σr (some (.int r))) σ 246 [(0, .ref v0), (1, .int v1), (2, .int v2), (5, .long v5), (11, .long v11), (13, .long v13), (15, .int v15)] [] := by
  intro n
  induction n with
  | zero =>
    intro v13 v15 σ K hm
    cases hm
  | succ n ih =>
    intro v13 v15 σ K hm hk
    unfold l_Mod_digit_246 at hm
    refine rx_iload C 6 dX11_digit_246 rfl ?_
    refine rx_iload_n C 2 dX11_digit_248 rfl ?_
    refine rx_icmp_ge (tgt := 303) C dX11_digit_249 (by decide) hm (fun h_27 hm => ?_) (fun h_27 hm => ?_)
    · refine rx_lv [0, 1, 2, 3, 4, 5] rfl ?_
      exact hk _ _ hm
    refine rx_aload_n C 0 dX11_digit_252 rfl ?_
    refine gf_845 C m_v0 k_v0 dX11_digit_253 hm (fun p_28 m_p_28 k_p_28 hm => ?_)
    refine rx_iload_n C 1 dX11_digit_256 rfl ?_
    refine rx_iload C 6 dX11_digit_257 rfl ?_
    refine rx_iadd C dX11_digit_259 ?_
    refine rx_lald C m_p_28 k_p_28 dX11_digit_260 hm (fun hm => ?_)
    refine rx_aload_n C 0 dX11_digit_261 rfl ?_
    refine gf_846 C m_v0 k_v0 dX11_digit_262 hm (fun p_29 m_p_29 k_p_29 hm => ?_)
    refine rx_iload C 6 dX11_digit_265 rfl ?_
    refine rx_lald C m_p_29 k_p_29 dX11_digit_267 hm (fun hm => ?_)
    refine rx_ladd C dX11_digit_268 ?_
    refine rx_lload C 5 dX11_digit_269 rfl ?_
    refine rx_ladd C dX11_digit_271 ?_
    refine rx_nml hm (fun v16_30 ev16_30 hm => ?_)
    refine rx_lstore (lv1 := [(16, .long v16_30), (0, .ref v0), (1, .int v1), (2, .int v2), (5, .long v5), (11, .long v11), (13, .long v13), (15, .int v15)]) C dX11_digit_272 (by decide) rfl ?_
    refine rx_aload_n C 1 dX11_digit_274 rfl ?_
    refine gf_845 C m_v0 k_v0 dX11_digit_275 hm (fun p_31 m_p_31 k_p_31 hm => ?_)
    refine rx_iload_n C 2 dX11_digit_278 rfl ?_
    refine rx_iload C 7 dX11_digit_279 rfl ?_
    refine rx_iadd C dX11_digit_281 ?_
    refine rx_lload C 0 dX11_digit_282 rfl ?_
    refine rx_ldc2 C q_996 dX11_digit_284 ?_
    refine rx_lrem C dX11_digit_287 (by decide) ?_
    refine rx_last C m_p_31 k_p_31 dX11_digit_288 hm (fun σ_32 hm => ?_)
    refine rx_lload C 0 dX11_digit_289 rfl ?_
    refine rx_ldc2 C q_996 dX11_digit_291 ?_
    refine rx_ldiv C dX11_digit_294 (by decide) ?_
    refine rx_nml hm (fun v13_33 ev13_33 hm => ?_)
    refine rx_lstore (lv1 := [(13, .long v13_33), (16, .long v16_30), (0, .ref v0), (1, .int v1), (2, .int v2), (5, .long v5), (11, .long v11), (15, .int v15)]) C dX11_digit_295 (by decide) rfl ?_
    refine rx_iinc (d := 1) (lv1 := fun v => [(15, .int v), (13, .long v13_33), (16, .long v16_30), (0, .ref v0), (1, .int v1), (2, .int v2), (5, .long v5), (11, .long v11)]) C 7 dX11_digit_297 hm rfl rfl (by decide) (fun _ => rfl) (fun v15_34 hm => ?_)
    refine rx_goto (tgt := 246) C dX11_digit_300 (by decide) ?_
    refine rx_lv [3, 4, 5, 6, 7, 1, 0] rfl ?_
    exact ih _ _ _ _ hm hk
def l_Mod_digit_48 (fu : Nat) (N : Nat → Nat) (v0 : Nat) (v1 : Int32) (v2 : Int32) : Nat → Int64 → Int64 → rr_M → (Int64 → rr_M → Option (Int32 × rr_M)) → Option (Int32 × rr_M)
  | 0, _, _, _, _ => none
  | n + 1, v5, v7, σ, kk =>
    rr_jn (fun (v5_10 : Int64) =>
    l_Mod_digit_131 fu N v0 v1 v2 v5_10 fu 0 0 σ (fun v9_20 σ_21 =>
    rr_lt (mg_r σ_21 v0 4) fun p_22 =>
    (if rr_ix (v1 + v2) (N p_22) then
    rr_lt ((mg_l σ_21 p_22 (rr_n (v1 + v2))) - v9_20) fun v11_23 =>
    rr_lt (mg_r σ_21 v0 4) fun p_24 =>
    (if rr_ix (v1 + v2) (N p_24) then rr_lt (ms_l σ_21 p_24 (rr_n (v1 + v2)) v11_23) fun σ_25 =>
    if v11_23 < 0 then (l_Mod_digit_246 fu N v0 v1 v2 fu 0 0 σ_25 (fun v13_35 σ_36 =>
    rr_lt (mg_r σ_36 v0 4) fun p_37 =>
    (if rr_ix (v1 + v2) (N p_37) then rr_lt (ms_l σ_36 p_37 (rr_n (v1 + v2)) (v11_23 + v13_35)) fun σ_38 =>
    some ((v5_10 - 1).toInt32, σ_38) else none))) else
    some (v5_10.toInt32, σ_25) else none) else none))) fun j125 =>
    rr_jn (fun (_ : Unit) =>
    rr_lt (v5 - 1) fun v5_39 =>
    rr_lt (mg_r σ v0 5) fun p_40 =>
    (if rr_ix (v2 - 1) (N p_40) then
    rr_lt (v7 + (mg_l σ p_40 (rr_n (v2 - 1)))) fun v7_41 =>
    if v7_41 < 65536 then (l_Mod_digit_48 fu N v0 v1 v2 n v5_39 v7_41 σ kk) else
    kk v5_39 σ else none)) fun j94 =>
    if 65536 ≤ v5 then (j94 ()) else
    if v2 ≤ 1 then (j125 v5) else
    rr_lt (mg_r σ v0 5) fun p_45 =>
    (if rr_ix (v2 - 2) (N p_45) then
    rr_lt (mg_r σ v0 4) fun p_46 =>
    (if rr_ix ((v1 + v2) - 2) (N p_46) then
    if (v5 * (mg_l σ p_45 (rr_n (v2 - 2)))) ≤ ((v7 * 65536) + (mg_l σ p_46 (rr_n ((v1 + v2) - 2)))) then (j125 v5) else
    j94 () else none) else none)
theorem lw_Mod_digit_48 {X : rr_X} {G : rr_G} {l : Launch} {fu : Nat} (hG : G.2.2.1.Nodup) (hll : X.2.1 = l) (C : rr_C X G cX11_digit 18 "RootRowsModel" (some .int) 0 0) {r : Int32} {σr : rr_M} (v0 : Nat) (m_v0 : v0 ∈ G.2.2.1) (k_v0 : G.2.2.2.1 v0 = 9) (v1 : Int32) (v2 : Int32) : ∀ (n : Nat) (v5 : Int64) (v7 : Int64) (σ : rr_M) (K : Int64 → rr_M → Option (Int32 × rr_M)), l_Mod_digit_48 fu G.2.2.2.2 v0 v1 v2 n v5 v7 σ K = some (r, σr) → (∀ (w5 : Int64) (σ1 : rr_M), K w5 σ1 = some (r, σr) → rr_J X G 18 (rr_E X G σr (some (.int r))) σ1 122 [(0, .ref v0), (1, .int v1), (2, .int v2), (5, .long w5)] []) → rr_J X G 18 (rr_E X G σr (some (.int r))) σ 48 [(0, .ref v0), (1, .int v1), (2, .int v2), (5, .long v5), (7, .long v7)] [] := by
  intro n
  induction n with
  | zero =>
    intro v5 v7 σ K hm
    cases hm
  | succ n ih =>
    intro v5 v7 σ K hm hk
    unfold l_Mod_digit_48 at hm
    refine rx_lload C 3 dX11_digit_48 rfl ?_
    refine rx_ldc2 C q_996 dX11_digit_50 ?_
    refine rr_jn1 hm (fun j125 ej125 hm => ?_)
    have hj125 : ∀ (v5_10 : Int64), j125 v5_10 = some (r, σr) → rr_J X G 18 (rr_E X G σr (some (.int r))) σ 125 [(0, .ref v0), (1, .int v1), (2, .int v2), (5, .long v5_10), (7, .long v7)] [] := by
      intro v5_10 hm
      replace hm := ej125 _ hm
      refine rx_lconst (v := 0) C dX11_digit_125 rfl ?_
      refine rx_lstore (lv1 := [(9, .long 0), (0, .ref v0), (1, .int v1), (2, .int v2), (5, .long v5_10), (7, .long v7)]) C dX11_digit_126 (by decide) rfl ?_
      refine rx_iconst (v := 0) C dX11_digit_128 rfl ?_
      refine rx_istore (lv1 := [(11, .int 0), (9, .long 0), (0, .ref v0), (1, .int v1), (2, .int v2), (5, .long v5_10), (7, .long v7)]) C dX11_digit_129 (by decide) rfl ?_
      refine rx_lv [2, 3, 4, 5, 1, 0] rfl ?_
      refine lw_Mod_digit_131 hG hll C v0 m_v0 k_v0 v1 v2 v5_10 _ _ _ _ _ hm (fun v9_20 σ_21 hm => ?_)
      refine rx_aload_n C 0 dX11_digit_206 rfl ?_
      refine gf_845 C m_v0 k_v0 dX11_digit_207 hm (fun p_22 m_p_22 k_p_22 hm => ?_)
      refine rx_iload_n C 1 dX11_digit_210 rfl ?_
      refine rx_iload_n C 2 dX11_digit_211 rfl ?_
      refine rx_iadd C dX11_digit_212 ?_
      refine rx_lald C m_p_22 k_p_22 dX11_digit_213 hm (fun hm => ?_)
      refine rx_lload C 4 dX11_digit_214 rfl ?_
      refine rx_lsub C dX11_digit_216 ?_
      refine rx_nml hm (fun v11_23 ev11_23 hm => ?_)
      refine rx_lstore (lv1 := [(11, .long v11_23), (0, .ref v0), (1, .int v1), (2, .int v2), (5, .long v5_10), (9, .long v9_20)]) C dX11_digit_217 (by decide) rfl ?_
      refine rx_aload_n C 1 dX11_digit_219 rfl ?_
      refine gf_845 C m_v0 k_v0 dX11_digit_220 hm (fun p_24 m_p_24 k_p_24 hm => ?_)
      refine rx_iload_n C 2 dX11_digit_223 rfl ?_
      refine rx_iload_n C 3 dX11_digit_224 rfl ?_
      refine rx_iadd C dX11_digit_225 ?_
      refine rx_lload C 0 dX11_digit_226 rfl ?_
      refine rx_last C m_p_24 k_p_24 dX11_digit_228 hm (fun σ_25 hm => ?_)
      refine rx_lload C 0 dX11_digit_229 rfl ?_
      refine rx_lconst (v := 0) C dX11_digit_231 rfl ?_
      refine rx_lcmp_lt (tgt := 240) C dX11_digit_232 dX11_digit_233 (by decide) hm (fun h_26 hm => ?_) (fun h_26 hm => ?_)
      · refine rx_lconst (v := 0) C dX11_digit_240 rfl ?_
        refine rx_lstore (lv1 := [(13, .long 0), (11, .long v11_23), (0, .ref v0), (1, .int v1), (2, .int v2), (5, .long v5_10), (9, .long v9_20)]) C dX11_digit_241 (by decide) rfl ?_
        refine rx_iconst (v := 0) C dX11_digit_243 rfl ?_
        refine rx_istore (lv1 := [(15, .int 0), (13, .long 0), (11, .long v11_23), (0, .ref v0), (1, .int v1), (2, .int v2), (5, .long v5_10), (9, .long v9_20)]) C dX11_digit_244 (by decide) rfl ?_
        refine rx_lv [3, 4, 5, 6, 2, 1, 0] rfl ?_
        refine lw_Mod_digit_246 hG hll C v0 m_v0 k_v0 v1 v2 v5_10 v11_23 _ _ _ _ _ hm (fun v13_35 σ_36 hm => ?_)
        refine rx_aload_n C 0 dX11_digit_303 rfl ?_
        refine gf_845 C m_v0 k_v0 dX11_digit_304 hm (fun p_37 m_p_37 k_p_37 hm => ?_)
        refine rx_iload_n C 1 dX11_digit_307 rfl ?_
        refine rx_iload_n C 2 dX11_digit_308 rfl ?_
        refine rx_iadd C dX11_digit_309 ?_
        refine rx_lload C 4 dX11_digit_310 rfl ?_
        refine rx_lload C 5 dX11_digit_312 rfl ?_
        refine rx_ladd C dX11_digit_314 ?_
        refine rx_last C m_p_37 k_p_37 dX11_digit_315 hm (fun σ_38 hm => ?_)
        refine rx_lload C 3 dX11_digit_316 rfl ?_
        refine rx_lconst (v := 1) C dX11_digit_318 rfl ?_
        refine rx_lsub C dX11_digit_319 ?_
        refine rx_l2i C dX11_digit_320 ?_
        exact rx_iret C dX11_digit_321 hm
      refine rx_lload C 4 dX11_digit_236 rfl ?_
      refine rx_l2i C dX11_digit_238 ?_
      exact rx_iret C dX11_digit_239 hm
    refine rr_jn1 hm (fun j94 ej94 hm => ?_)
    have hj94 : ∀ (uu : Unit), j94 uu = some (r, σr) → rr_J X G 18 (rr_E X G σr (some (.int r))) σ 94 [(0, .ref v0), (1, .int v1), (2, .int v2), (5, .long v5), (7, .long v7)] [] := by
      intro uu hm
      replace hm := ej94 _ hm
      refine rx_lload C 3 dX11_digit_94 rfl ?_
      refine rx_lconst (v := 1) C dX11_digit_96 rfl ?_
      refine rx_lsub C dX11_digit_97 ?_
      refine rx_nml hm (fun v5_39 ev5_39 hm => ?_)
      refine rx_lstore (lv1 := [(5, .long v5_39), (0, .ref v0), (1, .int v1), (2, .int v2), (7, .long v7)]) C dX11_digit_98 (by decide) rfl ?_
      refine rx_lload C 4 dX11_digit_100 rfl ?_
      refine rx_aload_n C 1 dX11_digit_102 rfl ?_
      refine gf_846 C m_v0 k_v0 dX11_digit_103 hm (fun p_40 m_p_40 k_p_40 hm => ?_)
      refine rx_iload_n C 3 dX11_digit_106 rfl ?_
      refine rx_iconst (v := 1) C dX11_digit_107 rfl ?_
      refine rx_isub C dX11_digit_108 ?_
      refine rx_lald C m_p_40 k_p_40 dX11_digit_109 hm (fun hm => ?_)
      refine rx_ladd C dX11_digit_110 ?_
      refine rx_nml hm (fun v7_41 ev7_41 hm => ?_)
      refine rx_lstore (lv1 := [(7, .long v7_41), (5, .long v5_39), (0, .ref v0), (1, .int v1), (2, .int v2)]) C dX11_digit_111 (by decide) rfl ?_
      refine rx_lload C 0 dX11_digit_113 rfl ?_
      refine rx_ldc2 C q_996 dX11_digit_115 ?_
      refine rx_lcmp_lt (tgt := 48) C dX11_digit_118 dX11_digit_119 (by decide) hm (fun h_42 hm => ?_) (fun h_42 hm => ?_)
      · refine rx_lv [2, 3, 4, 1, 0] rfl ?_
        exact ih _ _ _ _ hm hk
      refine rx_lv [2, 3, 4, 1] rfl ?_
      exact hk _ _ hm
    refine rx_lcmp_ge (tgt := 94) C dX11_digit_53 dX11_digit_54 (by decide) hm (fun h_43 hm => ?_) (fun h_43 hm => ?_)
    · refine rx_lv [0, 1, 2, 3, 4] rfl ?_
      exact hj94 () hm
    refine rx_iload_n C 2 dX11_digit_57 rfl ?_
    refine rx_iconst (v := 1) C dX11_digit_58 rfl ?_
    refine rx_icmp_le (tgt := 125) C dX11_digit_59 (by decide) hm (fun h_44 hm => ?_) (fun h_44 hm => ?_)
    · refine rx_lv [0, 1, 2, 3, 4] rfl ?_
      exact hj125 _ hm
    refine rx_lload C 3 dX11_digit_62 rfl ?_
    refine rx_aload_n C 0 dX11_digit_64 rfl ?_
    refine gf_846 C m_v0 k_v0 dX11_digit_65 hm (fun p_45 m_p_45 k_p_45 hm => ?_)
    refine rx_iload_n C 2 dX11_digit_68 rfl ?_
    refine rx_iconst (v := 2) C dX11_digit_69 rfl ?_
    refine rx_isub C dX11_digit_70 ?_
    refine rx_lald C m_p_45 k_p_45 dX11_digit_71 hm (fun hm => ?_)
    refine rx_lmul C dX11_digit_72 ?_
    refine rx_lload C 4 dX11_digit_73 rfl ?_
    refine rx_ldc2 C q_996 dX11_digit_75 ?_
    refine rx_lmul C dX11_digit_78 ?_
    refine rx_aload_n C 0 dX11_digit_79 rfl ?_
    refine gf_845 C m_v0 k_v0 dX11_digit_80 hm (fun p_46 m_p_46 k_p_46 hm => ?_)
    refine rx_iload_n C 1 dX11_digit_83 rfl ?_
    refine rx_iload_n C 2 dX11_digit_84 rfl ?_
    refine rx_iadd C dX11_digit_85 ?_
    refine rx_iconst (v := 2) C dX11_digit_86 rfl ?_
    refine rx_isub C dX11_digit_87 ?_
    refine rx_lald C m_p_46 k_p_46 dX11_digit_88 hm (fun hm => ?_)
    refine rx_ladd C dX11_digit_89 ?_
    refine rx_lcmp_le (tgt := 125) C dX11_digit_90 dX11_digit_91 (by decide) hm (fun h_47 hm => ?_) (fun h_47 hm => ?_)
    · refine rx_lv [0, 1, 2, 3, 4] rfl ?_
      exact hj125 _ hm
    refine rx_lv [0, 1, 2, 3, 4] rfl ?_
    exact hj94 () hm
def f_Mod_digit (fu : Nat) (N : Nat → Nat) (v0 : Nat) (v1 : Int32) (v2 : Int32) (σ : rr_M) : Option (Int32 × rr_M) :=
    rr_lt (mg_r σ v0 4) fun p_1 =>
    (if rr_ix (v1 + v2) (N p_1) then
    rr_lt (mg_r σ v0 4) fun p_2 =>
    (if rr_ix ((v1 + v2) - 1) (N p_2) then
    rr_lt (((mg_l σ p_1 (rr_n (v1 + v2))) * 65536) + (mg_l σ p_2 (rr_n ((v1 + v2) - 1)))) fun v3_3 =>
    rr_lt (mg_r σ v0 5) fun p_4 =>
    (if rr_ix (v2 - 1) (N p_4) then
    if (mg_l σ p_4 (rr_n (v2 - 1))) = 0 then none else
    rr_lt (v3_3 / (mg_l σ p_4 (rr_n (v2 - 1)))) fun v5_6 =>
    rr_lt (mg_r σ v0 5) fun p_7 =>
    (if rr_ix (v2 - 1) (N p_7) then
    if (mg_l σ p_7 (rr_n (v2 - 1))) = 0 then none else
    rr_lt (v3_3 - v3_3 / (mg_l σ p_7 (rr_n (v2 - 1))) * (mg_l σ p_7 (rr_n (v2 - 1)))) fun v7_9 =>
    l_Mod_digit_48 fu N v0 v1 v2 fu v5_6 v7_9 σ (fun v5_48 σ_49 =>
    l_Mod_digit_131 fu N v0 v1 v2 v5_48 fu 0 0 σ_49 (fun v9_50 σ_51 =>
    rr_lt (mg_r σ_51 v0 4) fun p_52 =>
    (if rr_ix (v1 + v2) (N p_52) then
    rr_lt ((mg_l σ_51 p_52 (rr_n (v1 + v2))) - v9_50) fun v11_53 =>
    rr_lt (mg_r σ_51 v0 4) fun p_54 =>
    (if rr_ix (v1 + v2) (N p_54) then rr_lt (ms_l σ_51 p_54 (rr_n (v1 + v2)) v11_53) fun σ_55 =>
    if v11_53 < 0 then (l_Mod_digit_246 fu N v0 v1 v2 fu 0 0 σ_55 (fun v13_57 σ_58 =>
    rr_lt (mg_r σ_58 v0 4) fun p_59 =>
    (if rr_ix (v1 + v2) (N p_59) then rr_lt (ms_l σ_58 p_59 (rr_n (v1 + v2)) (v11_53 + v13_57)) fun σ_60 =>
    some ((v5_48 - 1).toInt32, σ_60) else none))) else
    some (v5_48.toInt32, σ_55) else none) else none))) else none) else none) else none) else none)
theorem c_Mod_digit (l : Launch) (G : rr_G) (hG : G.2.2.1.Nodup) (fu : Nat) (v0 : Nat) (m_v0 : v0 ∈ G.2.2.1) (k_v0 : G.2.2.2.1 v0 = 9) (v1 : Int32) (v2 : Int32) (σ : rr_M) (r : Int32) (σr : rr_M) (hm : f_Mod_digit fu G.2.2.2.2 v0 v1 v2 σ = some (r, σr)) : rr_Met l G yX11_digit cX11_digit 18 (some .int) 0 0 [.ref v0, .int v1, .int v2] σ σr (some (.int r)) := by
  refine rr_enter (lv0 := [(0, .ref v0), (1, .int v1), (2, .int v2)]) hp_Mod_digit hG (Nat.le_of_ble_eq_true rfl) rfl (fun X hll C => ?_)
  replace C : rr_C X G cX11_digit 18 "RootRowsModel" (some .int) 0 0 := C
  unfold f_Mod_digit at hm
  refine rx_aload_n C 0 dX11_digit_0 rfl ?_
  refine gf_845 C m_v0 k_v0 dX11_digit_1 hm (fun p_1 m_p_1 k_p_1 hm => ?_)
  refine rx_iload_n C 1 dX11_digit_4 rfl ?_
  refine rx_iload_n C 2 dX11_digit_5 rfl ?_
  refine rx_iadd C dX11_digit_6 ?_
  refine rx_lald C m_p_1 k_p_1 dX11_digit_7 hm (fun hm => ?_)
  refine rx_ldc2 C q_996 dX11_digit_8 ?_
  refine rx_lmul C dX11_digit_11 ?_
  refine rx_aload_n C 0 dX11_digit_12 rfl ?_
  refine gf_845 C m_v0 k_v0 dX11_digit_13 hm (fun p_2 m_p_2 k_p_2 hm => ?_)
  refine rx_iload_n C 1 dX11_digit_16 rfl ?_
  refine rx_iload_n C 2 dX11_digit_17 rfl ?_
  refine rx_iadd C dX11_digit_18 ?_
  refine rx_iconst (v := 1) C dX11_digit_19 rfl ?_
  refine rx_isub C dX11_digit_20 ?_
  refine rx_lald C m_p_2 k_p_2 dX11_digit_21 hm (fun hm => ?_)
  refine rx_ladd C dX11_digit_22 ?_
  refine rx_nml hm (fun v3_3 ev3_3 hm => ?_)
  refine rx_lstore_n (lv1 := [(3, .long v3_3), (0, .ref v0), (1, .int v1), (2, .int v2)]) C dX11_digit_23 (by decide) rfl ?_
  refine rx_lload_n C 0 dX11_digit_24 rfl ?_
  refine rx_aload_n C 1 dX11_digit_25 rfl ?_
  refine gf_846 C m_v0 k_v0 dX11_digit_26 hm (fun p_4 m_p_4 k_p_4 hm => ?_)
  refine rx_iload_n C 3 dX11_digit_29 rfl ?_
  refine rx_iconst (v := 1) C dX11_digit_30 rfl ?_
  refine rx_isub C dX11_digit_31 ?_
  refine rx_lald C m_p_4 k_p_4 dX11_digit_32 hm (fun hm => ?_)
  obtain ⟨hz_5, hm⟩ := rr_gzl hm
  refine rx_ldiv C dX11_digit_33 hz_5 ?_
  refine rx_nml hm (fun v5_6 ev5_6 hm => ?_)
  refine rx_lstore (lv1 := [(5, .long v5_6), (3, .long v3_3), (0, .ref v0), (1, .int v1), (2, .int v2)]) C dX11_digit_34 (by decide) rfl ?_
  refine rx_lload_n C 1 dX11_digit_36 rfl ?_
  refine rx_aload_n C 2 dX11_digit_37 rfl ?_
  refine gf_846 C m_v0 k_v0 dX11_digit_38 hm (fun p_7 m_p_7 k_p_7 hm => ?_)
  refine rx_iload_n C 4 dX11_digit_41 rfl ?_
  refine rx_iconst (v := 1) C dX11_digit_42 rfl ?_
  refine rx_isub C dX11_digit_43 ?_
  refine rx_lald C m_p_7 k_p_7 dX11_digit_44 hm (fun hm => ?_)
  obtain ⟨hz_8, hm⟩ := rr_gzl hm
  refine rx_lrem C dX11_digit_45 hz_8 ?_
  refine rx_nml hm (fun v7_9 ev7_9 hm => ?_)
  refine rx_lstore (lv1 := [(7, .long v7_9), (5, .long v5_6), (3, .long v3_3), (0, .ref v0), (1, .int v1), (2, .int v2)]) C dX11_digit_46 (by decide) rfl ?_
  refine rx_lv [3, 4, 5, 1, 0] rfl ?_
  refine lw_Mod_digit_48 hG hll C v0 m_v0 k_v0 v1 v2 _ _ _ _ _ hm (fun v5_48 σ_49 hm => ?_)
  refine rx_goto (tgt := 125) C dX11_digit_122 (by decide) ?_
  refine rx_lconst (v := 0) C dX11_digit_125 rfl ?_
  refine rx_lstore (lv1 := [(9, .long 0), (0, .ref v0), (1, .int v1), (2, .int v2), (5, .long v5_48)]) C dX11_digit_126 (by decide) rfl ?_
  refine rx_iconst (v := 0) C dX11_digit_128 rfl ?_
  refine rx_istore (lv1 := [(11, .int 0), (9, .long 0), (0, .ref v0), (1, .int v1), (2, .int v2), (5, .long v5_48)]) C dX11_digit_129 (by decide) rfl ?_
  refine rx_lv [2, 3, 4, 5, 1, 0] rfl ?_
  refine lw_Mod_digit_131 hG hll C v0 m_v0 k_v0 v1 v2 v5_48 _ _ _ _ _ hm (fun v9_50 σ_51 hm => ?_)
  refine rx_aload_n C 0 dX11_digit_206 rfl ?_
  refine gf_845 C m_v0 k_v0 dX11_digit_207 hm (fun p_52 m_p_52 k_p_52 hm => ?_)
  refine rx_iload_n C 1 dX11_digit_210 rfl ?_
  refine rx_iload_n C 2 dX11_digit_211 rfl ?_
  refine rx_iadd C dX11_digit_212 ?_
  refine rx_lald C m_p_52 k_p_52 dX11_digit_213 hm (fun hm => ?_)
  refine rx_lload C 4 dX11_digit_214 rfl ?_
  refine rx_lsub C dX11_digit_216 ?_
  refine rx_nml hm (fun v11_53 ev11_53 hm => ?_)
  refine rx_lstore (lv1 := [(11, .long v11_53), (0, .ref v0), (1, .int v1), (2, .int v2), (5, .long v5_48), (9, .long v9_50)]) C dX11_digit_217 (by decide) rfl ?_
  refine rx_aload_n C 1 dX11_digit_219 rfl ?_
  refine gf_845 C m_v0 k_v0 dX11_digit_220 hm (fun p_54 m_p_54 k_p_54 hm => ?_)
  refine rx_iload_n C 2 dX11_digit_223 rfl ?_
  refine rx_iload_n C 3 dX11_digit_224 rfl ?_
  refine rx_iadd C dX11_digit_225 ?_
  refine rx_lload C 0 dX11_digit_226 rfl ?_
  refine rx_last C m_p_54 k_p_54 dX11_digit_228 hm (fun σ_55 hm => ?_)
  refine rx_lload C 0 dX11_digit_229 rfl ?_
  refine rx_lconst (v := 0) C dX11_digit_231 rfl ?_
  refine rx_lcmp_lt (tgt := 240) C dX11_digit_232 dX11_digit_233 (by decide) hm (fun h_56 hm => ?_) (fun h_56 hm => ?_)
  · refine rx_lconst (v := 0) C dX11_digit_240 rfl ?_
    refine rx_lstore (lv1 := [(13, .long 0), (11, .long v11_53), (0, .ref v0), (1, .int v1), (2, .int v2), (5, .long v5_48), (9, .long v9_50)]) C dX11_digit_241 (by decide) rfl ?_
    refine rx_iconst (v := 0) C dX11_digit_243 rfl ?_
    refine rx_istore (lv1 := [(15, .int 0), (13, .long 0), (11, .long v11_53), (0, .ref v0), (1, .int v1), (2, .int v2), (5, .long v5_48), (9, .long v9_50)]) C dX11_digit_244 (by decide) rfl ?_
    refine rx_lv [3, 4, 5, 6, 2, 1, 0] rfl ?_
    refine lw_Mod_digit_246 hG hll C v0 m_v0 k_v0 v1 v2 v5_48 v11_53 _ _ _ _ _ hm (fun v13_57 σ_58 hm => ?_)
    refine rx_aload_n C 0 dX11_digit_303 rfl ?_
    refine gf_845 C m_v0 k_v0 dX11_digit_304 hm (fun p_59 m_p_59 k_p_59 hm => ?_)
    refine rx_iload_n C 1 dX11_digit_307 rfl ?_
    refine rx_iload_n C 2 dX11_digit_308 rfl ?_
    refine rx_iadd C dX11_digit_309 ?_
    refine rx_lload C 4 dX11_digit_310 rfl ?_
    refine rx_lload C 5 dX11_digit_312 rfl ?_
    refine rx_ladd C dX11_digit_314 ?_
    refine rx_last C m_p_59 k_p_59 dX11_digit_315 hm (fun σ_60 hm => ?_)
    refine rx_lload C 3 dX11_digit_316 rfl ?_
    refine rx_lconst (v := 1) C dX11_digit_318 rfl ?_
    refine rx_lsub C dX11_digit_319 ?_
    refine rx_l2i C dX11_digit_320 ?_
    exact rx_iret C dX11_digit_321 hm
  refine rx_lload C 4 dX11_digit_236 rfl ?_
  refine rx_l2i C dX11_digit_238 ?_
  exact rx_iret C dX11_digit_239 hm
def f_Mod_size (v0 : Int64) : Option (Int64) :=
    if 0 ≤ v0 then (some (v0)) else
    some (-v0)
theorem c_Mod_size (l : Launch) (G : rr_G) (hG : G.2.2.1.Nodup) (v0 : Int64) (σ : rr_M) (r : Int64) (hm : f_Mod_size v0 = some r) : rr_Met l G yX11_size cX11_size 2 (some .long) 0 0 [.long v0] σ σ (some (.long r)) := by
  refine rr_enter (lv0 := [(0, .long v0)]) hp_Mod_size hG (Nat.le_of_ble_eq_true rfl) rfl (fun X hll C => ?_)
  replace C : rr_C X G cX11_size 2 "RootRowsModel" (some .long) 0 0 := C
  unfold f_Mod_size at hm
  refine rx_lload_n C 0 dX11_size_0 rfl ?_
  refine rx_lconst (v := 0) C dX11_size_1 rfl ?_
  refine rx_lcmp_ge (tgt := 11) C dX11_size_2 dX11_size_3 (by decide) hm (fun h_1 hm => ?_) (fun h_1 hm => ?_)
  · refine rx_lload_n C 0 dX11_size_11 rfl ?_
    exact rx_lretR C dX11_size_12 hm
  refine rx_lload_n C 0 dX11_size_6 rfl ?_
  refine rx_lneg C dX11_size_7 ?_
  refine rx_goto (tgt := 12) C dX11_size_8 (by decide) ?_
  exact rx_lretR C dX11_size_12 hm
def l_Mod_sets_9 (fu : Nat) (N : Nat → Nat) (v0 : Nat) (v1 : Int32) : Nat → Int64 → Int32 → rr_M → (Int32 → rr_M → Option (Unit × rr_M)) → Option (Unit × rr_M)
  | 0, _, _, _, _ => none
  | n + 1, v4, v6, σ, kk =>
    if v4 ≤ 0 then (kk v6 σ) else
    rr_lt (mg_r σ v0 1) fun p_4 =>
    (if rr_ix ((200 * v1) + v6) (N p_4) then rr_lt (ms_i σ p_4 (rr_n ((200 * v1) + v6)) ((v4 - v4 / 65536 * 65536).toInt32)) fun σ_5 =>
    rr_lt (v4 / 65536) fun v4_6 =>
    rr_lt (v6 + 1) fun v6_7 =>
    l_Mod_sets_9 fu N v0 v1 n v4_6 v6_7 σ_5 kk else none)
theorem lw_Mod_sets_9 {X : rr_X} {G : rr_G} {l : Launch} {fu : Nat} (hG : G.2.2.1.Nodup) (hll : X.2.1 = l) (C : rr_C X G cX11_sets 7 "RootRowsModel" none 1 21) {σr : rr_M} (v0 : Nat) (m_v0 : v0 ∈ G.2.2.1) (k_v0 : G.2.2.2.1 v0 = 9) (v1 : Int32) (v2 : Int64) : ∀ (n : Nat) (v4 : Int64) (v6 : Int32) (σ : rr_M) (K : Int32 → rr_M → Option (Unit × rr_M)), l_Mod_sets_9 fu G.2.2.2.2 v0 v1 n v4 v6 σ K = some ((), σr) → (∀ (w6 : Int32) (σ1 : rr_M), K w6 σ1 = some ((), σr) → rr_J X G 7 (rr_E X G σr none) σ1 50 [(0, .ref v0), (1, .int v1), (2, .long v2), (6, .int w6)] []) → rr_J X G 7 (rr_E X G σr none) σ 9 [(0, .ref v0), (1, .int v1), (2, .long v2), (4, .long v4), (6, .int v6)] [] := by
  intro n
  induction n with
  | zero =>
    intro v4 v6 σ K hm
    cases hm
  | succ n ih =>
    intro v4 v6 σ K hm hk
    unfold l_Mod_sets_9 at hm
    refine rx_lload C 3 dX11_sets_9 rfl ?_
    refine rx_lconst (v := 0) C dX11_sets_11 rfl ?_
    refine rx_lcmp_le (tgt := 50) C dX11_sets_12 dX11_sets_13 (by decide) hm (fun h_3 hm => ?_) (fun h_3 hm => ?_)
    · refine rx_lv [0, 1, 2, 4] rfl ?_
      exact hk _ _ hm
    refine rx_aload_n C 0 dX11_sets_16 rfl ?_
    refine gf_842 C m_v0 k_v0 dX11_sets_17 hm (fun p_4 m_p_4 k_p_4 hm => ?_)
    refine rx_sipush (v := 200) C dX11_sets_20 rfl ?_
    refine rx_iload_n C 1 dX11_sets_23 rfl ?_
    refine rx_imul C dX11_sets_24 ?_
    refine rx_iload C 4 dX11_sets_25 rfl ?_
    refine rx_iadd C dX11_sets_27 ?_
    refine rx_lload C 3 dX11_sets_28 rfl ?_
    refine rx_ldc2 C q_996 dX11_sets_30 ?_
    refine rx_lrem C dX11_sets_33 (by decide) ?_
    refine rx_l2i C dX11_sets_34 ?_
    refine rx_iast C m_p_4 k_p_4 dX11_sets_35 hm (fun σ_5 hm => ?_)
    refine rx_lload C 3 dX11_sets_36 rfl ?_
    refine rx_ldc2 C q_996 dX11_sets_38 ?_
    refine rx_ldiv C dX11_sets_41 (by decide) ?_
    refine rx_nml hm (fun v4_6 ev4_6 hm => ?_)
    refine rx_lstore (lv1 := [(4, .long v4_6), (0, .ref v0), (1, .int v1), (2, .long v2), (6, .int v6)]) C dX11_sets_42 (by decide) rfl ?_
    refine rx_iinc (d := 1) (lv1 := fun v => [(6, .int v), (4, .long v4_6), (0, .ref v0), (1, .int v1), (2, .long v2)]) C 4 dX11_sets_44 hm rfl rfl (by decide) (fun _ => rfl) (fun v6_7 hm => ?_)
    refine rx_goto (tgt := 9) C dX11_sets_47 (by decide) ?_
    refine rx_lv [2, 3, 4, 1, 0] rfl ?_
    exact ih _ _ _ _ hm hk
def f_Mod_sets (fu : Nat) (N : Nat → Nat) (v0 : Nat) (v1 : Int32) (v2 : Int64) (σ : rr_M) : Option (Unit × rr_M) :=
    Option.bind (f_Mod_size v2) fun r_1 =>
    l_Mod_sets_9 fu N v0 v1 fu r_1 0 σ (fun v6_8 σ_9 =>
    rr_lt (mg_r σ_9 v0 2) fun p_10 =>
    (if rr_ix v1 (N p_10) then rr_lt (ms_i σ_9 p_10 (rr_n v1) v6_8) fun σ_11 =>
    rr_lt (mg_r σ_11 v0 3) fun p_12 =>
    rr_jn (fun (t_13 : Int32) =>
    (if rr_ix v1 (N p_12) then rr_lt (ms_i σ_11 p_12 (rr_n v1) t_13) fun σ_14 =>
    some ((), σ_14) else none)) fun j84 =>
    if 0 ≤ v2 then (if v2 ≤ 0 then (j84 0) else
    j84 1) else
    j84 (-1) else none))
theorem c_Mod_sets (l : Launch) (G : rr_G) (hG : G.2.2.1.Nodup) (fu : Nat) (v0 : Nat) (m_v0 : v0 ∈ G.2.2.1) (k_v0 : G.2.2.2.1 v0 = 9) (v1 : Int32) (v2 : Int64) (σ : rr_M) (σr : rr_M) (hm : f_Mod_sets fu G.2.2.2.2 v0 v1 v2 σ = some ((), σr)) : rr_Met l G yX11_sets cX11_sets 7 none 1 21 [.ref v0, .int v1, .long v2] σ σr none := by
  refine rr_enter (lv0 := [(0, .ref v0), (1, .int v1), (2, .long v2)]) hp_Mod_sets hG (Nat.le_of_ble_eq_true rfl) rfl (fun X hll C => ?_)
  replace C : rr_C X G cX11_sets 7 "RootRowsModel" none 1 21 := C
  unfold f_Mod_sets at hm
  refine rx_lload_n C 2 dX11_sets_0 rfl ?_
  obtain ⟨r_1, hc_2, hm⟩ := rr_b0_some hm
  refine rr_callS (rest := []) (st1 := [.long r_1]) C hll (c_Mod_size l G hG v2 σ _ hc_2) q_958 q_959 q_11 q_960 hd_Mod_size ⟨by decide, by decide⟩ rfl rfl (Nat.le_of_ble_eq_true rfl) rfl dX11_sets_1 ?_
  refine rx_lstore (lv1 := [(4, .long r_1), (0, .ref v0), (1, .int v1), (2, .long v2)]) C dX11_sets_4 (by decide) rfl ?_
  refine rx_iconst (v := 0) C dX11_sets_6 rfl ?_
  refine rx_istore (lv1 := [(6, .int 0), (4, .long r_1), (0, .ref v0), (1, .int v1), (2, .long v2)]) C dX11_sets_7 (by decide) rfl ?_
  refine rx_lv [2, 3, 4, 1, 0] rfl ?_
  refine lw_Mod_sets_9 hG hll C v0 m_v0 k_v0 v1 v2 _ _ _ _ _ hm (fun v6_8 σ_9 hm => ?_)
  refine rx_aload_n C 0 dX11_sets_50 rfl ?_
  refine gf_843 C m_v0 k_v0 dX11_sets_51 hm (fun p_10 m_p_10 k_p_10 hm => ?_)
  refine rx_iload_n C 1 dX11_sets_54 rfl ?_
  refine rx_iload C 3 dX11_sets_55 rfl ?_
  refine rx_iast C m_p_10 k_p_10 dX11_sets_57 hm (fun σ_11 hm => ?_)
  refine rx_aload_n C 0 dX11_sets_58 rfl ?_
  refine gf_844 C m_v0 k_v0 dX11_sets_59 hm (fun p_12 m_p_12 k_p_12 hm => ?_)
  refine rx_iload_n C 1 dX11_sets_62 rfl ?_
  refine rx_lload_n C 2 dX11_sets_63 rfl ?_
  refine rx_lconst (v := 0) C dX11_sets_64 rfl ?_
  refine rr_jn1 hm (fun j84 ej84 hm => ?_)
  have hj84 : ∀ (t_13 : Int32), j84 t_13 = some ((), σr) → rr_J X G 7 (rr_E X G σr none) σ_11 84 [] [.int t_13, .int v1, .ref p_12] := by
    intro t_13 hm
    replace hm := ej84 _ hm
    refine rx_iast C m_p_12 k_p_12 dX11_sets_84 hm (fun σ_14 hm => ?_)
    exact rx_vret C dX11_sets_85 hm
  refine rx_lcmp_ge (tgt := 73) C dX11_sets_65 dX11_sets_66 (by decide) hm (fun h_15 hm => ?_) (fun h_15 hm => ?_)
  · refine rx_lload_n C 2 dX11_sets_73 rfl ?_
    refine rx_lconst (v := 0) C dX11_sets_74 rfl ?_
    refine rx_lcmp_le (tgt := 83) C dX11_sets_75 dX11_sets_76 (by decide) hm (fun h_16 hm => ?_) (fun h_16 hm => ?_)
    · refine rx_iconst (v := 0) C dX11_sets_83 rfl ?_
      refine rx_lv [] rfl ?_
      exact hj84 _ hm
    refine rx_iconst (v := 1) C dX11_sets_79 rfl ?_
    refine rx_goto (tgt := 84) C dX11_sets_80 (by decide) ?_
    refine rx_lv [] rfl ?_
    exact hj84 _ hm
  refine rx_iconst (v := (-1)) C dX11_sets_69 rfl ?_
  refine rx_goto (tgt := 84) C dX11_sets_70 (by decide) ?_
  refine rx_lv [] rfl ?_
  exact hj84 _ hm
def l_Mod_parts_68 (fu : Nat) (N : Nat → Nat) (v0 : Nat) (v3 : Int32) (v7 : Int64) : Nat → Int64 → Int32 → rr_M → (Int64 → rr_M → Option (Unit × rr_M)) → Option (Unit × rr_M)
  | 0, _, _, _, _ => none
  | n + 1, v9, v11, σ, kk =>
    rr_lt (mg_r σ v0 2) fun p_12 =>
    (if rr_ix v3 (N p_12) then
    if (mg_i σ p_12 (rr_n v3)) ≤ v11 then (kk v9 σ) else
    Option.bind (f_Mod_limbAt N v0 v3 v11 σ) fun r_14 =>
    rr_lt ((r_14.toInt64 * v7) + v9) fun v12_16 =>
    rr_lt (mg_r σ v0 4) fun p_17 =>
    (if rr_ix v11 (N p_17) then rr_lt (ms_l σ p_17 (rr_n v11) (v12_16 - v12_16 / 65536 * 65536)) fun σ_18 =>
    rr_lt (v12_16 / 65536) fun v9_19 =>
    rr_lt (v11 + 1) fun v11_20 =>
    l_Mod_parts_68 fu N v0 v3 v7 n v9_19 v11_20 σ_18 kk else none) else none)
theorem lw_Mod_parts_68 {X : rr_X} {G : rr_G} {l : Launch} {fu : Nat} (hG : G.2.2.1.Nodup) (hll : X.2.1 = l) (C : rr_C X G cX11_parts 14 "RootRowsModel" none 2 47) {σr : rr_M} (v0 : Nat) (m_v0 : v0 ∈ G.2.2.1) (k_v0 : G.2.2.2.1 v0 = 9) (v1 : Int32) (v2 : Int32) (v3 : Int32) (v4 : Int32) (v5 : Int32) (v6 : Int32) (v7 : Int64) : ∀ (n : Nat) (v9 : Int64) (v11 : Int32) (σ : rr_M) (K : Int64 → rr_M → Option (Unit × rr_M)), l_Mod_parts_68 fu G.2.2.2.2 v0 v3 v7 n v9 v11 σ K = some ((), σr) → (∀ (w9 : Int64) (σ1 : rr_M), K w9 σ1 = some ((), σr) → rr_J X G 14 (rr_E X G σr none) σ1 122 [(0, .ref v0), (1, .int v1), (2, .int v2), (3, .int v3), (4, .int v4), (5, .int v5), (6, .int v6), (7, .long v7), (9, .long w9)] []) → rr_J X G 14 (rr_E X G σr none) σ 68 [(0, .ref v0), (1, .int v1), (2, .int v2), (3, .int v3), (4, .int v4), (5, .int v5), (6, .int v6), (7, .long v7), (9, .long v9), (11, .int v11)] [] := by
  intro n
  induction n with
  | zero =>
    intro v9 v11 σ K hm
    cases hm
  | succ n ih =>
    intro v9 v11 σ K hm hk
    unfold l_Mod_parts_68 at hm
    refine rx_iload C 9 dX11_parts_68 rfl ?_
    refine rx_aload_n C 0 dX11_parts_70 rfl ?_
    refine gf_843 C m_v0 k_v0 dX11_parts_71 hm (fun p_12 m_p_12 k_p_12 hm => ?_)
    refine rx_iload_n C 3 dX11_parts_74 rfl ?_
    refine rx_iald C m_p_12 k_p_12 dX11_parts_75 hm (fun hm => ?_)
    refine rx_icmp_ge (tgt := 122) C dX11_parts_76 (by decide) hm (fun h_13 hm => ?_) (fun h_13 hm => ?_)
    · refine rx_lv [0, 1, 2, 3, 4, 5, 6, 7, 8] rfl ?_
      exact hk _ _ hm
    refine rx_aload_n C 0 dX11_parts_79 rfl ?_
    refine rx_iload_n C 3 dX11_parts_80 rfl ?_
    refine rx_iload C 9 dX11_parts_81 rfl ?_
    obtain ⟨r_14, hc_15, hm⟩ := rr_b0_some hm
    refine rr_callV (rest := []) (st1 := [.int r_14]) C 9 hll (c_Mod_limbAt l G hG v0 m_v0 k_v0 v3 v11 σ _ hc_15) q_1005 q_1007 qs_52 q_11 q_1008 hd_Mod_limbAt ⟨_, rfl, rfl⟩ (by decide) m_v0 k_v0 ⟨by decide, by decide⟩ rfl rfl (Nat.le_of_ble_eq_true rfl) rfl dX11_parts_83 ?_
    refine rx_i2l C dX11_parts_86 ?_
    refine rx_lload C 7 dX11_parts_87 rfl ?_
    refine rx_lmul C dX11_parts_89 ?_
    refine rx_lload C 8 dX11_parts_90 rfl ?_
    refine rx_ladd C dX11_parts_92 ?_
    refine rx_nml hm (fun v12_16 ev12_16 hm => ?_)
    refine rx_lstore (lv1 := [(12, .long v12_16), (0, .ref v0), (1, .int v1), (2, .int v2), (3, .int v3), (4, .int v4), (5, .int v5), (6, .int v6), (7, .long v7), (9, .long v9), (11, .int v11)]) C dX11_parts_93 (by decide) rfl ?_
    refine rx_aload_n C 1 dX11_parts_95 rfl ?_
    refine gf_845 C m_v0 k_v0 dX11_parts_96 hm (fun p_17 m_p_17 k_p_17 hm => ?_)
    refine rx_iload C 10 dX11_parts_99 rfl ?_
    refine rx_lload C 0 dX11_parts_101 rfl ?_
    refine rx_ldc2 C q_996 dX11_parts_103 ?_
    refine rx_lrem C dX11_parts_106 (by decide) ?_
    refine rx_last C m_p_17 k_p_17 dX11_parts_107 hm (fun σ_18 hm => ?_)
    refine rx_lload C 0 dX11_parts_108 rfl ?_
    refine rx_ldc2 C q_996 dX11_parts_110 ?_
    refine rx_ldiv C dX11_parts_113 (by decide) ?_
    refine rx_nml hm (fun v9_19 ev9_19 hm => ?_)
    refine rx_lstore (lv1 := [(9, .long v9_19), (12, .long v12_16), (0, .ref v0), (1, .int v1), (2, .int v2), (3, .int v3), (4, .int v4), (5, .int v5), (6, .int v6), (7, .long v7), (11, .int v11)]) C dX11_parts_114 (by decide) rfl ?_
    refine rx_iinc (d := 1) (lv1 := fun v => [(11, .int v), (9, .long v9_19), (12, .long v12_16), (0, .ref v0), (1, .int v1), (2, .int v2), (3, .int v3), (4, .int v4), (5, .int v5), (6, .int v6), (7, .long v7)]) C 10 dX11_parts_116 hm rfl rfl (by decide) (fun _ => rfl) (fun v11_20 hm => ?_)
    refine rx_goto (tgt := 68) C dX11_parts_119 (by decide) ?_
    refine rx_lv [3, 4, 5, 6, 7, 8, 9, 10, 1, 0] rfl ?_
    exact ih _ _ _ _ hm hk
def l_Mod_parts_141 (fu : Nat) (N : Nat → Nat) (v0 : Nat) (v4 : Int32) (v5 : Int32) (v7 : Int64) : Nat → Int64 → Int32 → rr_M → (rr_M → Option (Unit × rr_M)) → Option (Unit × rr_M)
  | 0, _, _, _, _ => none
  | n + 1, v9, v11, σ, kk =>
    if v5 ≤ v11 then (kk σ) else
    Option.bind (f_Mod_limbAt N v0 v4 v11 σ) fun r_27 =>
    rr_lt ((r_27.toInt64 * v7) + v9) fun v12_29 =>
    rr_lt (mg_r σ v0 5) fun p_30 =>
    (if rr_ix v11 (N p_30) then rr_lt (ms_l σ p_30 (rr_n v11) (v12_29 - v12_29 / 65536 * 65536)) fun σ_31 =>
    rr_lt (v12_29 / 65536) fun v9_32 =>
    rr_lt (v11 + 1) fun v11_33 =>
    l_Mod_parts_141 fu N v0 v4 v5 v7 n v9_32 v11_33 σ_31 kk else none)
theorem lw_Mod_parts_141 {X : rr_X} {G : rr_G} {l : Launch} {fu : Nat} (hG : G.2.2.1.Nodup) (hll : X.2.1 = l) (C : rr_C X G cX11_parts 14 "RootRowsModel" none 2 47) {σr : rr_M} (v0 : Nat) (m_v0 : v0 ∈ G.2.2.1) (k_v0 : G.2.2.2.1 v0 = 9) (v1 : Int32) (v2 : Int32) (v3 : Int32) (v4 : Int32) (v5 : Int32) (v6 : Int32) (v7 : Int64) : ∀ (n : Nat) (v9 : Int64) (v11 : Int32) (σ : rr_M) (K : rr_M → Option (Unit × rr_M)), l_Mod_parts_141 fu G.2.2.2.2 v0 v4 v5 v7 n v9 v11 σ K = some ((), σr) → (∀ (σ1 : rr_M), K σ1 = some ((), σr) → rr_J X G 14 (rr_E X G σr none) σ1 192 [(0, .ref v0), (1, .int v1), (2, .int v2), (3, .int v3), (4, .int v4), (5, .int v5), (6, .int v6), (7, .long v7)] []) → rr_J X G 14 (rr_E X G σr none) σ 141 [(0, .ref v0), (1, .int v1), (2, .int v2), (3, .int v3), (4, .int v4), (5, .int v5), (6, .int v6), (7, .long v7), (9, .long v9), (11, .int v11)] [] := by
  intro n
  induction n with
  | zero =>
    intro v9 v11 σ K hm
    cases hm
  | succ n ih =>
    intro v9 v11 σ K hm hk
    unfold l_Mod_parts_141 at hm
    refine rx_iload C 9 dX11_parts_141 rfl ?_
    refine rx_iload C 5 dX11_parts_143 rfl ?_
    refine rx_icmp_ge (tgt := 192) C dX11_parts_145 (by decide) hm (fun h_26 hm => ?_) (fun h_26 hm => ?_)
    · refine rx_lv [0, 1, 2, 3, 4, 5, 6, 7] rfl ?_
      exact hk _ hm
    refine rx_aload_n C 0 dX11_parts_148 rfl ?_
    refine rx_iload C 4 dX11_parts_149 rfl ?_
    refine rx_iload C 9 dX11_parts_151 rfl ?_
    obtain ⟨r_27, hc_28, hm⟩ := rr_b0_some hm
    refine rr_callV (rest := []) (st1 := [.int r_27]) C 9 hll (c_Mod_limbAt l G hG v0 m_v0 k_v0 v4 v11 σ _ hc_28) q_1005 q_1007 qs_52 q_11 q_1008 hd_Mod_limbAt ⟨_, rfl, rfl⟩ (by decide) m_v0 k_v0 ⟨by decide, by decide⟩ rfl rfl (Nat.le_of_ble_eq_true rfl) rfl dX11_parts_153 ?_
    refine rx_i2l C dX11_parts_156 ?_
    refine rx_lload C 7 dX11_parts_157 rfl ?_
    refine rx_lmul C dX11_parts_159 ?_
    refine rx_lload C 8 dX11_parts_160 rfl ?_
    refine rx_ladd C dX11_parts_162 ?_
    refine rx_nml hm (fun v12_29 ev12_29 hm => ?_)
    refine rx_lstore (lv1 := [(12, .long v12_29), (0, .ref v0), (1, .int v1), (2, .int v2), (3, .int v3), (4, .int v4), (5, .int v5), (6, .int v6), (7, .long v7), (9, .long v9), (11, .int v11)]) C dX11_parts_163 (by decide) rfl ?_
    refine rx_aload_n C 1 dX11_parts_165 rfl ?_
    refine gf_846 C m_v0 k_v0 dX11_parts_166 hm (fun p_30 m_p_30 k_p_30 hm => ?_)
    refine rx_iload C 10 dX11_parts_169 rfl ?_
    refine rx_lload C 0 dX11_parts_171 rfl ?_
    refine rx_ldc2 C q_996 dX11_parts_173 ?_
    refine rx_lrem C dX11_parts_176 (by decide) ?_
    refine rx_last C m_p_30 k_p_30 dX11_parts_177 hm (fun σ_31 hm => ?_)
    refine rx_lload C 0 dX11_parts_178 rfl ?_
    refine rx_ldc2 C q_996 dX11_parts_180 ?_
    refine rx_ldiv C dX11_parts_183 (by decide) ?_
    refine rx_nml hm (fun v9_32 ev9_32 hm => ?_)
    refine rx_lstore (lv1 := [(9, .long v9_32), (12, .long v12_29), (0, .ref v0), (1, .int v1), (2, .int v2), (3, .int v3), (4, .int v4), (5, .int v5), (6, .int v6), (7, .long v7), (11, .int v11)]) C dX11_parts_184 (by decide) rfl ?_
    refine rx_iinc (d := 1) (lv1 := fun v => [(11, .int v), (9, .long v9_32), (12, .long v12_29), (0, .ref v0), (1, .int v1), (2, .int v2), (3, .int v3), (4, .int v4), (5, .int v5), (6, .int v6), (7, .long v7)]) C 10 dX11_parts_186 hm rfl rfl (by decide) (fun _ => rfl) (fun v11_33 hm => ?_)
    refine rx_goto (tgt := 141) C dX11_parts_189 (by decide) ?_
    refine rx_lv [3, 4, 5, 6, 7, 8, 9, 10, 1, 0] rfl ?_
    exact ih _ _ _ _ hm hk
def l_Mod_parts_196 (fu : Nat) (N : Nat → Nat) (v0 : Nat) (v1 : Int32) (v5 : Int32) : Nat → Int32 → rr_M → (rr_M → Option (Unit × rr_M)) → Option (Unit × rr_M)
  | 0, _, _, _ => none
  | n + 1, v11, σ, kk =>
    if v11 < 0 then (kk σ) else
    rr_lt (mg_r σ v0 1) fun p_36 =>
    rr_bd (f_Mod_digit fu N v0 v11 v5 σ) fun r_37 σ_38 =>
    (if rr_ix ((200 * v1) + v11) (N p_36) then rr_lt (ms_i σ_38 p_36 (rr_n ((200 * v1) + v11)) r_37) fun σ_40 =>
    rr_lt (v11 + (-1)) fun v11_41 =>
    l_Mod_parts_196 fu N v0 v1 v5 n v11_41 σ_40 kk else none)
theorem lw_Mod_parts_196 {X : rr_X} {G : rr_G} {l : Launch} {fu : Nat} (hG : G.2.2.1.Nodup) (hll : X.2.1 = l) (C : rr_C X G cX11_parts 14 "RootRowsModel" none 2 47) {σr : rr_M} (v0 : Nat) (m_v0 : v0 ∈ G.2.2.1) (k_v0 : G.2.2.2.1 v0 = 9) (v1 : Int32) (v2 : Int32) (v3 : Int32) (v4 : Int32) (v5 : Int32) (v6 : Int32) (v7 : Int64) : ∀ (n : Nat) (v11 : Int32) (σ : rr_M) (K : rr_M → Option (Unit × rr_M)), l_Mod_parts_196 fu G.2.2.2.2 v0 v1 v5 n v11 σ K = some ((), σr) → (∀ (σ1 : rr_M), K σ1 = some ((), σr) → rr_J X G 14 (rr_E X G σr none) σ1 228 [(0, .ref v0), (1, .int v1), (2, .int v2), (3, .int v3), (4, .int v4), (5, .int v5), (6, .int v6), (7, .long v7)] []) → rr_J X G 14 (rr_E X G σr none) σ 196 [(0, .ref v0), (1, .int v1), (2, .int v2), (3, .int v3), (4, .int v4), (5, .int v5), (6, .int v6), (7, .long v7), (11, .int v11)] [] := by
  intro n
  induction n with
  | zero =>
    intro v11 σ K hm
    cases hm
  | succ n ih =>
    intro v11 σ K hm hk
    unfold l_Mod_parts_196 at hm
    refine rx_iload C 8 dX11_parts_196 rfl ?_
    refine rx_if_lt (tgt := 228) C dX11_parts_198 (by decide) hm (fun h_35 hm => ?_) (fun h_35 hm => ?_)
    · refine rx_lv [0, 1, 2, 3, 4, 5, 6, 7] rfl ?_
      exact hk _ hm
    refine rx_aload_n C 0 dX11_parts_201 rfl ?_
    refine gf_842 C m_v0 k_v0 dX11_parts_202 hm (fun p_36 m_p_36 k_p_36 hm => ?_)
    refine rx_sipush (v := 200) C dX11_parts_205 rfl ?_
    refine rx_iload_n C 1 dX11_parts_208 rfl ?_
    refine rx_imul C dX11_parts_209 ?_
    refine rx_iload C 8 dX11_parts_210 rfl ?_
    refine rx_iadd C dX11_parts_212 ?_
    refine rx_aload_n C 0 dX11_parts_213 rfl ?_
    refine rx_iload C 8 dX11_parts_214 rfl ?_
    refine rx_iload C 5 dX11_parts_216 rfl ?_
    obtain ⟨r_37, σ_38, hc_39, hm⟩ := rr_bd_some hm
    refine rr_callV (rest := [.int ((200 * v1) + v11), .ref p_36]) (st1 := [.int r_37, .int ((200 * v1) + v11), .ref p_36]) C 9 hll (c_Mod_digit l G hG fu v0 m_v0 k_v0 v11 v5 σ _ _ hc_39) q_1083 q_1085 qs_67 q_11 q_1086 hd_Mod_digit ⟨_, rfl, rfl⟩ (by decide) m_v0 k_v0 ⟨by decide, by decide⟩ rfl rfl (Nat.le_of_ble_eq_true rfl) rfl dX11_parts_218 ?_
    refine rx_iast C m_p_36 k_p_36 dX11_parts_221 hm (fun σ_40 hm => ?_)
    refine rx_iinc (d := (-1)) (lv1 := fun v => [(11, .int v), (0, .ref v0), (1, .int v1), (2, .int v2), (3, .int v3), (4, .int v4), (5, .int v5), (6, .int v6), (7, .long v7)]) C 8 dX11_parts_222 hm rfl rfl (by decide) (fun _ => rfl) (fun v11_41 hm => ?_)
    refine rx_goto (tgt := 196) C dX11_parts_225 (by decide) ?_
    refine rx_lv [1, 2, 3, 4, 5, 6, 7, 8, 0] rfl ?_
    exact ih _ _ _ hm hk
def l_Mod_parts_266 (fu : Nat) (N : Nat → Nat) (v0 : Nat) (v2 : Int32) (v7 : Int64) : Nat → Int64 → Int32 → rr_M → (rr_M → Option (Unit × rr_M)) → Option (Unit × rr_M)
  | 0, _, _, _, _ => none
  | n + 1, v9, v11, σ, kk =>
    if v11 < 0 then (kk σ) else
    rr_lt (mg_r σ v0 4) fun p_51 =>
    (if rr_ix v11 (N p_51) then
    rr_lt ((mg_l σ p_51 (rr_n v11)) + (v9 * 65536)) fun v12_52 =>
    rr_lt (mg_r σ v0 1) fun p_53 =>
    if v7 = 0 then none else
    (if rr_ix ((200 * v2) + v11) (N p_53) then rr_lt (ms_i σ p_53 (rr_n ((200 * v2) + v11)) ((v12_52 / v7).toInt32)) fun σ_55 =>
    if v7 = 0 then none else
    rr_lt (v12_52 - v12_52 / v7 * v7) fun v9_57 =>
    rr_lt (v11 + (-1)) fun v11_58 =>
    l_Mod_parts_266 fu N v0 v2 v7 n v9_57 v11_58 σ_55 kk else none) else none)
theorem lw_Mod_parts_266 {X : rr_X} {G : rr_G} {l : Launch} {fu : Nat} (hG : G.2.2.1.Nodup) (hll : X.2.1 = l) (C : rr_C X G cX11_parts 14 "RootRowsModel" none 2 47) {σr : rr_M} (v0 : Nat) (m_v0 : v0 ∈ G.2.2.1) (k_v0 : G.2.2.2.1 v0 = 9) (v2 : Int32) (v3 : Int32) (v5 : Int32) (v7 : Int64) : ∀ (n : Nat) (v9 : Int64) (v11 : Int32) (σ : rr_M) (K : rr_M → Option (Unit × rr_M)), l_Mod_parts_266 fu G.2.2.2.2 v0 v2 v7 n v9 v11 σ K = some ((), σr) → (∀ (σ1 : rr_M), K σ1 = some ((), σr) → rr_J X G 14 (rr_E X G σr none) σ1 319 [(0, .ref v0), (2, .int v2), (3, .int v3), (5, .int v5)] []) → rr_J X G 14 (rr_E X G σr none) σ 266 [(0, .ref v0), (2, .int v2), (3, .int v3), (5, .int v5), (7, .long v7), (9, .long v9), (11, .int v11)] [] := by
  intro n
  induction n with
  | zero =>
    intro v9 v11 σ K hm
    cases hm
  | succ n ih =>
    intro v9 v11 σ K hm hk
    unfold l_Mod_parts_266 at hm
    refine rx_iload C 6 dX11_parts_266 rfl ?_
    refine rx_if_lt (tgt := 319) C dX11_parts_268 (by decide) hm (fun h_50 hm => ?_) (fun h_50 hm => ?_)
    · refine rx_lv [0, 1, 2, 3] rfl ?_
      exact hk _ hm
    refine rx_aload_n C 0 dX11_parts_271 rfl ?_
    refine gf_845 C m_v0 k_v0 dX11_parts_272 hm (fun p_51 m_p_51 k_p_51 hm => ?_)
    refine rx_iload C 6 dX11_parts_275 rfl ?_
    refine rx_lald C m_p_51 k_p_51 dX11_parts_277 hm (fun hm => ?_)
    refine rx_lload C 5 dX11_parts_278 rfl ?_
    refine rx_ldc2 C q_996 dX11_parts_280 ?_
    refine rx_lmul C dX11_parts_283 ?_
    refine rx_ladd C dX11_parts_284 ?_
    refine rx_nml hm (fun v12_52 ev12_52 hm => ?_)
    refine rx_lstore (lv1 := [(12, .long v12_52), (0, .ref v0), (2, .int v2), (3, .int v3), (5, .int v5), (7, .long v7), (9, .long v9), (11, .int v11)]) C dX11_parts_285 (by decide) rfl ?_
    refine rx_aload_n C 1 dX11_parts_287 rfl ?_
    refine gf_842 C m_v0 k_v0 dX11_parts_288 hm (fun p_53 m_p_53 k_p_53 hm => ?_)
    refine rx_sipush (v := 200) C dX11_parts_291 rfl ?_
    refine rx_iload_n C 2 dX11_parts_294 rfl ?_
    refine rx_imul C dX11_parts_295 ?_
    refine rx_iload C 7 dX11_parts_296 rfl ?_
    refine rx_iadd C dX11_parts_298 ?_
    refine rx_lload C 0 dX11_parts_299 rfl ?_
    refine rx_lload C 5 dX11_parts_301 rfl ?_
    obtain ⟨hz_54, hm⟩ := rr_gzl hm
    refine rx_ldiv C dX11_parts_303 hz_54 ?_
    refine rx_l2i C dX11_parts_304 ?_
    refine rx_iast C m_p_53 k_p_53 dX11_parts_305 hm (fun σ_55 hm => ?_)
    refine rx_lload C 0 dX11_parts_306 rfl ?_
    refine rx_lload C 5 dX11_parts_308 rfl ?_
    obtain ⟨hz_56, hm⟩ := rr_gzl hm
    refine rx_lrem C dX11_parts_310 hz_56 ?_
    refine rx_nml hm (fun v9_57 ev9_57 hm => ?_)
    refine rx_lstore (lv1 := [(9, .long v9_57), (12, .long v12_52), (0, .ref v0), (2, .int v2), (3, .int v3), (5, .int v5), (7, .long v7), (11, .int v11)]) C dX11_parts_311 (by decide) rfl ?_
    refine rx_iinc (d := (-1)) (lv1 := fun v => [(11, .int v), (9, .long v9_57), (12, .long v12_52), (0, .ref v0), (2, .int v2), (3, .int v3), (5, .int v5), (7, .long v7)]) C 7 dX11_parts_313 hm rfl rfl (by decide) (fun _ => rfl) (fun v11_58 hm => ?_)
    refine rx_goto (tgt := 266) C dX11_parts_316 (by decide) ?_
    refine rx_lv [3, 4, 5, 6, 7, 1, 0] rfl ?_
    exact ih _ _ _ _ hm hk
def f_Mod_parts (fu : Nat) (N : Nat → Nat) (v0 : Nat) (v1 : Int32) (v2 : Int32) (v3 : Int32) (v4 : Int32) (σ : rr_M) : Option (Unit × rr_M) :=
    Option.bind (f_Mod_against fu N v0 v3 v4 σ) fun r_1 =>
    if 0 ≤ r_1 then (rr_lt (mg_r σ v0 2) fun p_4 =>
    (if rr_ix v4 (N p_4) then
    rr_lt (mg_i σ p_4 (rr_n v4)) fun v5_5 =>
    rr_lt (mg_r σ v0 2) fun p_6 =>
    (if rr_ix v3 (N p_6) then
    rr_lt ((mg_i σ p_6 (rr_n v3)) - v5_5) fun v6_7 =>
    Option.bind (f_Mod_limbAt N v0 v4 (v5_5 - 1) σ) fun r_8 =>
    if (r_8.toInt64 + 1) = 0 then none else
    rr_lt (65536 / (r_8.toInt64 + 1)) fun v7_11 =>
    l_Mod_parts_68 fu N v0 v3 v7_11 fu 0 0 σ (fun v9_21 σ_22 =>
    rr_lt (mg_r σ_22 v0 4) fun p_23 =>
    rr_lt (mg_r σ_22 v0 2) fun p_24 =>
    (if rr_ix v3 (N p_24) then
    (if rr_ix (mg_i σ_22 p_24 (rr_n v3)) (N p_23) then rr_lt (ms_l σ_22 p_23 (rr_n (mg_i σ_22 p_24 (rr_n v3))) v9_21) fun σ_25 =>
    l_Mod_parts_141 fu N v0 v4 v5_5 v7_11 fu 0 0 σ_25 (fun σ_34 =>
    l_Mod_parts_196 fu N v0 v1 v5_5 fu v6_7 σ_34 (fun σ_42 =>
    rr_lt (mg_r σ_42 v0 3) fun p_43 =>
    rr_lt (mg_r σ_42 v0 3) fun p_44 =>
    (if rr_ix v3 (N p_44) then
    rr_lt (mg_r σ_42 v0 3) fun p_45 =>
    (if rr_ix v4 (N p_45) then
    (if rr_ix v1 (N p_43) then rr_lt (ms_i σ_42 p_43 (rr_n v1) ((mg_i σ_42 p_44 (rr_n v3)) * (mg_i σ_42 p_45 (rr_n v4)))) fun σ_46 =>
    rr_bd (f_Mod_trims fu N v0 v1 (v6_7 + 1) σ_46) fun _ σ_47 =>
    rr_lt (v5_5 - 1) fun v11_49 =>
    l_Mod_parts_266 fu N v0 v2 v7_11 fu 0 v11_49 σ_47 (fun σ_59 =>
    rr_lt (mg_r σ_59 v0 3) fun p_60 =>
    rr_lt (mg_r σ_59 v0 3) fun p_61 =>
    (if rr_ix v3 (N p_61) then
    (if rr_ix v2 (N p_60) then rr_lt (ms_i σ_59 p_60 (rr_n v2) (mg_i σ_59 p_61 (rr_n v3))) fun σ_62 =>
    rr_bd (f_Mod_trims fu N v0 v2 v5_5 σ_62) fun _ σ_63 =>
    some ((), σ_63) else none) else none)) else none) else none) else none))) else none) else none)) else none) else none)) else
    rr_bd (f_Mod_copies fu N v0 v2 v3 σ) fun _ σ_65 =>
    rr_bd (f_Mod_sets fu N v0 v1 0 σ_65) fun _ σ_67 =>
    some ((), σ_67)
theorem c_Mod_parts (l : Launch) (G : rr_G) (hG : G.2.2.1.Nodup) (fu : Nat) (v0 : Nat) (m_v0 : v0 ∈ G.2.2.1) (k_v0 : G.2.2.2.1 v0 = 9) (v1 : Int32) (v2 : Int32) (v3 : Int32) (v4 : Int32) (σ : rr_M) (σr : rr_M) (hm : f_Mod_parts fu G.2.2.2.2 v0 v1 v2 v3 v4 σ = some ((), σr)) : rr_Met l G yX11_parts cX11_parts 14 none 2 47 [.ref v0, .int v1, .int v2, .int v3, .int v4] σ σr none := by
  refine rr_enter (lv0 := [(0, .ref v0), (1, .int v1), (2, .int v2), (3, .int v3), (4, .int v4)]) hp_Mod_parts hG (Nat.le_of_ble_eq_true rfl) rfl (fun X hll C => ?_)
  replace C : rr_C X G cX11_parts 14 "RootRowsModel" none 2 47 := C
  unfold f_Mod_parts at hm
  refine rx_aload_n C 0 dX11_parts_0 rfl ?_
  refine rx_iload_n C 3 dX11_parts_1 rfl ?_
  refine rx_iload C 4 dX11_parts_2 rfl ?_
  obtain ⟨r_1, hc_2, hm⟩ := rr_b0_some hm
  refine rr_callV (rest := []) (st1 := [.int r_1]) C 9 hll (c_Mod_against l G hG fu v0 m_v0 k_v0 v3 v4 σ _ hc_2) q_1022 q_1024 qs_56 q_11 q_1025 hd_Mod_against ⟨_, rfl, rfl⟩ (by decide) m_v0 k_v0 ⟨by decide, by decide⟩ rfl rfl (Nat.le_of_ble_eq_true rfl) rfl dX11_parts_4 ?_
  refine rx_if_ge (tgt := 23) C dX11_parts_7 (by decide) hm (fun h_3 hm => ?_) (fun h_3 hm => ?_)
  · refine rx_aload_n C 0 dX11_parts_23 rfl ?_
    refine gf_843 C m_v0 k_v0 dX11_parts_24 hm (fun p_4 m_p_4 k_p_4 hm => ?_)
    refine rx_iload C 4 dX11_parts_27 rfl ?_
    refine rx_iald C m_p_4 k_p_4 dX11_parts_29 hm (fun hm => ?_)
    refine rx_nmi hm (fun v5_5 ev5_5 hm => ?_)
    refine rx_istore (lv1 := [(5, .int v5_5), (0, .ref v0), (1, .int v1), (2, .int v2), (3, .int v3), (4, .int v4)]) C dX11_parts_30 (by decide) rfl ?_
    refine rx_aload_n C 1 dX11_parts_32 rfl ?_
    refine gf_843 C m_v0 k_v0 dX11_parts_33 hm (fun p_6 m_p_6 k_p_6 hm => ?_)
    refine rx_iload_n C 4 dX11_parts_36 rfl ?_
    refine rx_iald C m_p_6 k_p_6 dX11_parts_37 hm (fun hm => ?_)
    refine rx_iload C 0 dX11_parts_38 rfl ?_
    refine rx_isub C dX11_parts_40 ?_
    refine rx_nmi hm (fun v6_7 ev6_7 hm => ?_)
    refine rx_istore (lv1 := [(6, .int v6_7), (5, .int v5_5), (0, .ref v0), (1, .int v1), (2, .int v2), (3, .int v3), (4, .int v4)]) C dX11_parts_41 (by decide) rfl ?_
    refine rx_ldc2 C q_996 dX11_parts_43 ?_
    refine rx_aload_n C 2 dX11_parts_46 rfl ?_
    refine rx_iload C 6 dX11_parts_47 rfl ?_
    refine rx_iload C 1 dX11_parts_49 rfl ?_
    refine rx_iconst (v := 1) C dX11_parts_51 rfl ?_
    refine rx_isub C dX11_parts_52 ?_
    obtain ⟨r_8, hc_9, hm⟩ := rr_b0_some hm
    refine rr_callV (rest := [.long 65536]) (st1 := [.int r_8, .long 65536]) C 9 hll (c_Mod_limbAt l G hG v0 m_v0 k_v0 v4 (v5_5 - 1) σ _ hc_9) q_1005 q_1007 qs_52 q_11 q_1008 hd_Mod_limbAt ⟨_, rfl, rfl⟩ (by decide) m_v0 k_v0 ⟨by decide, by decide⟩ rfl rfl (Nat.le_of_ble_eq_true rfl) rfl dX11_parts_53 ?_
    refine rx_i2l C dX11_parts_56 ?_
    refine rx_lconst (v := 1) C dX11_parts_57 rfl ?_
    refine rx_ladd C dX11_parts_58 ?_
    obtain ⟨hz_10, hm⟩ := rr_gzl hm
    refine rx_ldiv C dX11_parts_59 hz_10 ?_
    refine rx_nml hm (fun v7_11 ev7_11 hm => ?_)
    refine rx_lstore (lv1 := [(7, .long v7_11), (6, .int v6_7), (5, .int v5_5), (0, .ref v0), (1, .int v1), (2, .int v2), (3, .int v3), (4, .int v4)]) C dX11_parts_60 (by decide) rfl ?_
    refine rx_lconst (v := 0) C dX11_parts_62 rfl ?_
    refine rx_lstore (lv1 := [(9, .long 0), (7, .long v7_11), (6, .int v6_7), (5, .int v5_5), (0, .ref v0), (1, .int v1), (2, .int v2), (3, .int v3), (4, .int v4)]) C dX11_parts_63 (by decide) rfl ?_
    refine rx_iconst (v := 0) C dX11_parts_65 rfl ?_
    refine rx_istore (lv1 := [(11, .int 0), (9, .long 0), (7, .long v7_11), (6, .int v6_7), (5, .int v5_5), (0, .ref v0), (1, .int v1), (2, .int v2), (3, .int v3), (4, .int v4)]) C dX11_parts_66 (by decide) rfl ?_
    refine rx_lv [5, 6, 7, 8, 9, 4, 3, 2, 1, 0] rfl ?_
    refine lw_Mod_parts_68 hG hll C v0 m_v0 k_v0 v1 v2 v3 v4 v5_5 v6_7 v7_11 _ _ _ _ _ hm (fun v9_21 σ_22 hm => ?_)
    refine rx_aload_n C 0 dX11_parts_122 rfl ?_
    refine gf_845 C m_v0 k_v0 dX11_parts_123 hm (fun p_23 m_p_23 k_p_23 hm => ?_)
    refine rx_aload_n C 0 dX11_parts_126 rfl ?_
    refine gf_843 C m_v0 k_v0 dX11_parts_127 hm (fun p_24 m_p_24 k_p_24 hm => ?_)
    refine rx_iload_n C 3 dX11_parts_130 rfl ?_
    refine rx_iald C m_p_24 k_p_24 dX11_parts_131 hm (fun hm => ?_)
    refine rx_lload C 8 dX11_parts_132 rfl ?_
    refine rx_last C m_p_23 k_p_23 dX11_parts_134 hm (fun σ_25 hm => ?_)
    refine rx_lconst (v := 0) C dX11_parts_135 rfl ?_
    refine rx_lstore (lv1 := [(9, .long 0), (0, .ref v0), (1, .int v1), (2, .int v2), (3, .int v3), (4, .int v4), (5, .int v5_5), (6, .int v6_7), (7, .long v7_11)]) C dX11_parts_136 (by decide) rfl ?_
    refine rx_iconst (v := 0) C dX11_parts_138 rfl ?_
    refine rx_istore (lv1 := [(11, .int 0), (9, .long 0), (0, .ref v0), (1, .int v1), (2, .int v2), (3, .int v3), (4, .int v4), (5, .int v5_5), (6, .int v6_7), (7, .long v7_11)]) C dX11_parts_139 (by decide) rfl ?_
    refine rx_lv [2, 3, 4, 5, 6, 7, 8, 9, 1, 0] rfl ?_
    refine lw_Mod_parts_141 hG hll C v0 m_v0 k_v0 v1 v2 v3 v4 v5_5 v6_7 v7_11 _ _ _ _ _ hm (fun σ_34 hm => ?_)
    refine rx_iload C 6 dX11_parts_192 rfl ?_
    refine rx_istore (lv1 := [(11, .int v6_7), (0, .ref v0), (1, .int v1), (2, .int v2), (3, .int v3), (4, .int v4), (5, .int v5_5), (6, .int v6_7), (7, .long v7_11)]) C dX11_parts_194 (by decide) rfl ?_
    refine rx_lv [1, 2, 3, 4, 5, 6, 7, 8, 0] rfl ?_
    refine lw_Mod_parts_196 hG hll C v0 m_v0 k_v0 v1 v2 v3 v4 v5_5 v6_7 v7_11 _ _ _ _ hm (fun σ_42 hm => ?_)
    refine rx_aload_n C 0 dX11_parts_228 rfl ?_
    refine gf_844 C m_v0 k_v0 dX11_parts_229 hm (fun p_43 m_p_43 k_p_43 hm => ?_)
    refine rx_iload_n C 1 dX11_parts_232 rfl ?_
    refine rx_aload_n C 0 dX11_parts_233 rfl ?_
    refine gf_844 C m_v0 k_v0 dX11_parts_234 hm (fun p_44 m_p_44 k_p_44 hm => ?_)
    refine rx_iload_n C 3 dX11_parts_237 rfl ?_
    refine rx_iald C m_p_44 k_p_44 dX11_parts_238 hm (fun hm => ?_)
    refine rx_aload_n C 0 dX11_parts_239 rfl ?_
    refine gf_844 C m_v0 k_v0 dX11_parts_240 hm (fun p_45 m_p_45 k_p_45 hm => ?_)
    refine rx_iload C 4 dX11_parts_243 rfl ?_
    refine rx_iald C m_p_45 k_p_45 dX11_parts_245 hm (fun hm => ?_)
    refine rx_imul C dX11_parts_246 ?_
    refine rx_iast C m_p_43 k_p_43 dX11_parts_247 hm (fun σ_46 hm => ?_)
    refine rx_aload_n C 0 dX11_parts_248 rfl ?_
    refine rx_iload_n C 1 dX11_parts_249 rfl ?_
    refine rx_iload C 6 dX11_parts_250 rfl ?_
    refine rx_iconst (v := 1) C dX11_parts_252 rfl ?_
    refine rx_iadd C dX11_parts_253 ?_
    obtain ⟨_, σ_47, hc_48, hm⟩ := rr_bd_some hm
    refine rr_callV (rest := []) (st1 := []) C 9 hll (c_Mod_trims l G hG fu v0 m_v0 k_v0 v1 (v6_7 + 1) σ_46 _ hc_48) q_1009 q_1011 qs_53 q_11 q_1012 hd_Mod_trims ⟨_, rfl, rfl⟩ (by decide) m_v0 k_v0 ⟨by decide, by decide⟩ rfl rfl (Nat.le_of_ble_eq_true rfl) rfl dX11_parts_254 ?_
    refine rx_lconst (v := 0) C dX11_parts_257 rfl ?_
    refine rx_lstore (lv1 := [(9, .long 0), (0, .ref v0), (1, .int v1), (2, .int v2), (3, .int v3), (4, .int v4), (5, .int v5_5), (6, .int v6_7), (7, .long v7_11)]) C dX11_parts_258 (by decide) rfl ?_
    refine rx_iload C 6 dX11_parts_260 rfl ?_
    refine rx_iconst (v := 1) C dX11_parts_262 rfl ?_
    refine rx_isub C dX11_parts_263 ?_
    refine rx_nmi hm (fun v11_49 ev11_49 hm => ?_)
    refine rx_istore (lv1 := [(11, .int v11_49), (9, .long 0), (0, .ref v0), (1, .int v1), (2, .int v2), (3, .int v3), (4, .int v4), (5, .int v5_5), (6, .int v6_7), (7, .long v7_11)]) C dX11_parts_264 (by decide) rfl ?_
    refine rx_lv [2, 4, 5, 7, 9, 1, 0] rfl ?_
    refine lw_Mod_parts_266 hG hll C v0 m_v0 k_v0 v2 v3 v5_5 v7_11 _ _ _ _ _ hm (fun σ_59 hm => ?_)
    refine rx_aload_n C 0 dX11_parts_319 rfl ?_
    refine gf_844 C m_v0 k_v0 dX11_parts_320 hm (fun p_60 m_p_60 k_p_60 hm => ?_)
    refine rx_iload_n C 1 dX11_parts_323 rfl ?_
    refine rx_aload_n C 0 dX11_parts_324 rfl ?_
    refine gf_844 C m_v0 k_v0 dX11_parts_325 hm (fun p_61 m_p_61 k_p_61 hm => ?_)
    refine rx_iload_n C 2 dX11_parts_328 rfl ?_
    refine rx_iald C m_p_61 k_p_61 dX11_parts_329 hm (fun hm => ?_)
    refine rx_iast C m_p_60 k_p_60 dX11_parts_330 hm (fun σ_62 hm => ?_)
    refine rx_aload_n C 0 dX11_parts_331 rfl ?_
    refine rx_iload_n C 1 dX11_parts_332 rfl ?_
    refine rx_iload C 3 dX11_parts_333 rfl ?_
    obtain ⟨_, σ_63, hc_64, hm⟩ := rr_bd_some hm
    refine rr_callV (rest := []) (st1 := []) C 9 hll (c_Mod_trims l G hG fu v0 m_v0 k_v0 v2 v5_5 σ_62 _ hc_64) q_1009 q_1011 qs_53 q_11 q_1012 hd_Mod_trims ⟨_, rfl, rfl⟩ (by decide) m_v0 k_v0 ⟨by decide, by decide⟩ rfl rfl (Nat.le_of_ble_eq_true rfl) rfl dX11_parts_335 ?_
    exact rx_vret C dX11_parts_338 hm
  refine rx_aload_n C 0 dX11_parts_10 rfl ?_
  refine rx_iload_n C 2 dX11_parts_11 rfl ?_
  refine rx_iload_n C 3 dX11_parts_12 rfl ?_
  obtain ⟨_, σ_65, hc_66, hm⟩ := rr_bd_some hm
  refine rr_callV (rest := []) (st1 := []) C 9 hll (c_Mod_copies l G hG fu v0 m_v0 k_v0 v2 v3 σ _ hc_66) q_1017 q_1019 qs_55 q_11 q_1020 hd_Mod_copies ⟨_, rfl, rfl⟩ (by decide) m_v0 k_v0 ⟨by decide, by decide⟩ rfl rfl (Nat.le_of_ble_eq_true rfl) rfl dX11_parts_13 ?_
  refine rx_aload_n C 0 dX11_parts_16 rfl ?_
  refine rx_iload_n C 1 dX11_parts_17 rfl ?_
  refine rx_lconst (v := 0) C dX11_parts_18 rfl ?_
  obtain ⟨_, σ_67, hc_68, hm⟩ := rr_bd_some hm
  refine rr_callV (rest := []) (st1 := []) C 9 hll (c_Mod_sets l G hG fu v0 m_v0 k_v0 v1 0 σ_65 _ hc_68) q_992 q_994 qs_49 q_11 q_995 hd_Mod_sets ⟨_, rfl, rfl⟩ (by decide) m_v0 k_v0 ⟨by decide, by decide⟩ rfl rfl (Nat.le_of_ble_eq_true rfl) rfl dX11_parts_19 ?_
  exact rx_vret C dX11_parts_22 hm
def l_Mod_contents_48 (fu : Nat) (N : Nat → Nat) (v0 : Nat) : Nat → rr_M → (rr_M → Option (Unit × rr_M)) → Option (Unit × rr_M)
  | 0, _, _ => none
  | n + 1, σ, kk =>
    rr_lt (mg_r σ v0 3) fun p_15 =>
    (if rr_ix 12 (N p_15) then
    if (mg_i σ p_15 (rr_n 12)) = 0 then (kk σ) else
    rr_bd (f_Mod_parts fu N v0 13 14 11 12 σ) fun _ σ_17 =>
    rr_bd (f_Mod_copies fu N v0 11 12 σ_17) fun _ σ_19 =>
    rr_bd (f_Mod_copies fu N v0 12 14 σ_19) fun _ σ_21 =>
    l_Mod_contents_48 fu N v0 n σ_21 kk else none)
theorem lw_Mod_contents_48 {X : rr_X} {G : rr_G} {l : Launch} {fu : Nat} (hG : G.2.2.1.Nodup) (hll : X.2.1 = l) (C : rr_C X G cX11_contents 3 "RootRowsModel" none 3 80) {σr : rr_M} (v0 : Nat) (m_v0 : v0 ∈ G.2.2.1) (k_v0 : G.2.2.2.1 v0 = 9) (v1 : Int32) (v2 : Int32) : ∀ (n : Nat) (σ : rr_M) (K : rr_M → Option (Unit × rr_M)), l_Mod_contents_48 fu G.2.2.2.2 v0 n σ K = some ((), σr) → (∀ (σ1 : rr_M), K σ1 = some ((), σr) → rr_J X G 3 (rr_E X G σr none) σ1 89 [(0, .ref v0), (1, .int v1), (2, .int v2)] []) → rr_J X G 3 (rr_E X G σr none) σ 48 [(0, .ref v0), (1, .int v1), (2, .int v2)] [] := by
  intro n
  induction n with
  | zero =>
    intro σ K hm
    cases hm
  | succ n ih =>
    intro σ K hm hk
    unfold l_Mod_contents_48 at hm
    refine rx_aload_n C 0 dX11_contents_48 rfl ?_
    refine gf_844 C m_v0 k_v0 dX11_contents_49 hm (fun p_15 m_p_15 k_p_15 hm => ?_)
    refine rx_bipush (v := 12) C dX11_contents_52 rfl ?_
    refine rx_iald C m_p_15 k_p_15 dX11_contents_54 hm (fun hm => ?_)
    refine rx_if_eq (tgt := 89) C dX11_contents_55 (by decide) hm (fun h_16 hm => ?_) (fun h_16 hm => ?_)
    · refine rx_lv [0, 1, 2] rfl ?_
      exact hk _ hm
    refine rx_aload_n C 0 dX11_contents_58 rfl ?_
    refine rx_bipush (v := 13) C dX11_contents_59 rfl ?_
    refine rx_bipush (v := 14) C dX11_contents_61 rfl ?_
    refine rx_bipush (v := 11) C dX11_contents_63 rfl ?_
    refine rx_bipush (v := 12) C dX11_contents_65 rfl ?_
    obtain ⟨_, σ_17, hc_18, hm⟩ := rr_bd_some hm
    refine rr_callV (rest := []) (st1 := []) C 9 hll (c_Mod_parts l G hG fu v0 m_v0 k_v0 13 14 11 12 σ _ hc_18) q_1079 q_1081 qs_66 q_11 q_1082 hd_Mod_parts ⟨_, rfl, rfl⟩ (by decide) m_v0 k_v0 ⟨by decide, by decide⟩ rfl rfl (Nat.le_of_ble_eq_true rfl) rfl dX11_contents_67 ?_
    refine rx_aload_n C 0 dX11_contents_70 rfl ?_
    refine rx_bipush (v := 11) C dX11_contents_71 rfl ?_
    refine rx_bipush (v := 12) C dX11_contents_73 rfl ?_
    obtain ⟨_, σ_19, hc_20, hm⟩ := rr_bd_some hm
    refine rr_callV (rest := []) (st1 := []) C 9 hll (c_Mod_copies l G hG fu v0 m_v0 k_v0 11 12 σ_17 _ hc_20) q_1017 q_1019 qs_55 q_11 q_1020 hd_Mod_copies ⟨_, rfl, rfl⟩ (by decide) m_v0 k_v0 ⟨by decide, by decide⟩ rfl rfl (Nat.le_of_ble_eq_true rfl) rfl dX11_contents_75 ?_
    refine rx_aload_n C 0 dX11_contents_78 rfl ?_
    refine rx_bipush (v := 12) C dX11_contents_79 rfl ?_
    refine rx_bipush (v := 14) C dX11_contents_81 rfl ?_
    obtain ⟨_, σ_21, hc_22, hm⟩ := rr_bd_some hm
    refine rr_callV (rest := []) (st1 := []) C 9 hll (c_Mod_copies l G hG fu v0 m_v0 k_v0 12 14 σ_19 _ hc_22) q_1017 q_1019 qs_55 q_11 q_1020 hd_Mod_copies ⟨_, rfl, rfl⟩ (by decide) m_v0 k_v0 ⟨by decide, by decide⟩ rfl rfl (Nat.le_of_ble_eq_true rfl) rfl dX11_contents_83 ?_
    refine rx_goto (tgt := 48) C dX11_contents_86 (by decide) ?_
    refine rx_lv [0, 1, 2] rfl ?_
    exact ih _ _ hm hk
def l_Mod_contents_33 (fu : Nat) (N : Nat → Nat) (v0 : Nat) (v1 : Int32) : Nat → Int32 → rr_M → (rr_M → Option (Unit × rr_M)) → Option (Unit × rr_M)
  | 0, _, _, _ => none
  | n + 1, v2, σ, kk =>
    if v2 < 0 then (kk σ) else
    Option.bind (f_Mod_slot v1 v2) fun r_11 =>
    rr_bd (f_Mod_copies fu N v0 12 r_11 σ) fun _ σ_13 =>
    l_Mod_contents_48 fu N v0 fu σ_13 (fun σ_23 =>
    rr_lt (v2 + (-1)) fun v2_24 =>
    l_Mod_contents_33 fu N v0 v1 n v2_24 σ_23 kk)
theorem lw_Mod_contents_33 {X : rr_X} {G : rr_G} {l : Launch} {fu : Nat} (hG : G.2.2.1.Nodup) (hll : X.2.1 = l) (C : rr_C X G cX11_contents 3 "RootRowsModel" none 3 80) {σr : rr_M} (v0 : Nat) (m_v0 : v0 ∈ G.2.2.1) (k_v0 : G.2.2.2.1 v0 = 9) (v1 : Int32) : ∀ (n : Nat) (v2 : Int32) (σ : rr_M) (K : rr_M → Option (Unit × rr_M)), l_Mod_contents_33 fu G.2.2.2.2 v0 v1 n v2 σ K = some ((), σr) → (∀ (σ1 : rr_M), K σ1 = some ((), σr) → rr_J X G 3 (rr_E X G σr none) σ1 95 [(0, .ref v0)] []) → rr_J X G 3 (rr_E X G σr none) σ 33 [(0, .ref v0), (1, .int v1), (2, .int v2)] [] := by
  intro n
  induction n with
  | zero =>
    intro v2 σ K hm
    cases hm
  | succ n ih =>
    intro v2 σ K hm hk
    unfold l_Mod_contents_33 at hm
    refine rx_iload_n C 2 dX11_contents_33 rfl ?_
    refine rx_if_lt (tgt := 95) C dX11_contents_34 (by decide) hm (fun h_10 hm => ?_) (fun h_10 hm => ?_)
    · refine rx_lv [0] rfl ?_
      exact hk _ hm
    refine rx_aload_n C 0 dX11_contents_37 rfl ?_
    refine rx_bipush (v := 12) C dX11_contents_38 rfl ?_
    refine rx_iload_n C 1 dX11_contents_40 rfl ?_
    refine rx_iload_n C 2 dX11_contents_41 rfl ?_
    obtain ⟨r_11, hc_12, hm⟩ := rr_b0_some hm
    refine rr_callS (rest := [.int 12, .ref v0]) (st1 := [.int r_11, .int 12, .ref v0]) C hll (c_Mod_slot l G hG v1 v2 σ _ hc_12) q_989 q_990 q_11 q_991 hd_Mod_slot ⟨by decide, by decide⟩ rfl rfl (Nat.le_of_ble_eq_true rfl) rfl dX11_contents_42 ?_
    obtain ⟨_, σ_13, hc_14, hm⟩ := rr_bd_some hm
    refine rr_callV (rest := []) (st1 := []) C 9 hll (c_Mod_copies l G hG fu v0 m_v0 k_v0 12 r_11 σ _ hc_14) q_1017 q_1019 qs_55 q_11 q_1020 hd_Mod_copies ⟨_, rfl, rfl⟩ (by decide) m_v0 k_v0 ⟨by decide, by decide⟩ rfl rfl (Nat.le_of_ble_eq_true rfl) rfl dX11_contents_45 ?_
    refine rx_lv [0, 1, 2] rfl ?_
    refine lw_Mod_contents_48 hG hll C v0 m_v0 k_v0 v1 v2 _ _ _ hm (fun σ_23 hm => ?_)
    refine rx_iinc (d := (-1)) (lv1 := fun v => [(2, .int v), (0, .ref v0), (1, .int v1)]) C 2 dX11_contents_89 hm rfl rfl (by decide) (fun _ => rfl) (fun v2_24 hm => ?_)
    refine rx_goto (tgt := 33) C dX11_contents_92 (by decide) ?_
    refine rx_lv [1, 2, 0] rfl ?_
    exact ih _ _ _ hm hk
def f_Mod_contents (fu : Nat) (N : Nat → Nat) (v0 : Nat) (v1 : Int32) (σ : rr_M) : Option (Unit × rr_M) :=
    rr_lt (mg_r σ v0 6) fun p_1 =>
    (if rr_ix v1 (N p_1) then
    Option.bind (f_Mod_slot v1 (mg_i σ p_1 (rr_n v1))) fun r_2 =>
    rr_bd (f_Mod_copies fu N v0 11 r_2 σ) fun _ σ_4 =>
    rr_lt (mg_r σ_4 v0 3) fun p_6 =>
    (if rr_ix 11 (N p_6) then rr_lt (ms_i σ_4 p_6 (rr_n 11) 1) fun σ_7 =>
    rr_lt (mg_r σ_7 v0 6) fun p_8 =>
    (if rr_ix v1 (N p_8) then
    rr_lt ((mg_i σ_7 p_8 (rr_n v1)) - 1) fun v2_9 =>
    l_Mod_contents_33 fu N v0 v1 fu v2_9 σ_7 (fun σ_25 =>
    rr_lt (mg_r σ_25 v0 3) fun p_26 =>
    (if rr_ix 11 (N p_26) then rr_lt (ms_i σ_25 p_26 (rr_n 11) 1) fun σ_27 =>
    some ((), σ_27) else none)) else none) else none) else none)
theorem c_Mod_contents (l : Launch) (G : rr_G) (hG : G.2.2.1.Nodup) (fu : Nat) (v0 : Nat) (m_v0 : v0 ∈ G.2.2.1) (k_v0 : G.2.2.2.1 v0 = 9) (v1 : Int32) (σ : rr_M) (σr : rr_M) (hm : f_Mod_contents fu G.2.2.2.2 v0 v1 σ = some ((), σr)) : rr_Met l G yX11_contents cX11_contents 3 none 3 80 [.ref v0, .int v1] σ σr none := by
  refine rr_enter (lv0 := [(0, .ref v0), (1, .int v1)]) hp_Mod_contents hG (Nat.le_of_ble_eq_true rfl) rfl (fun X hll C => ?_)
  replace C : rr_C X G cX11_contents 3 "RootRowsModel" none 3 80 := C
  unfold f_Mod_contents at hm
  refine rx_aload_n C 0 dX11_contents_0 rfl ?_
  refine rx_bipush (v := 11) C dX11_contents_1 rfl ?_
  refine rx_iload_n C 1 dX11_contents_3 rfl ?_
  refine rx_aload_n C 0 dX11_contents_4 rfl ?_
  refine gf_847 C m_v0 k_v0 dX11_contents_5 hm (fun p_1 m_p_1 k_p_1 hm => ?_)
  refine rx_iload_n C 1 dX11_contents_8 rfl ?_
  refine rx_iald C m_p_1 k_p_1 dX11_contents_9 hm (fun hm => ?_)
  obtain ⟨r_2, hc_3, hm⟩ := rr_b0_some hm
  refine rr_callS (rest := [.int 11, .ref v0]) (st1 := [.int r_2, .int 11, .ref v0]) C hll (c_Mod_slot l G hG v1 (mg_i σ p_1 (rr_n v1)) σ _ hc_3) q_989 q_990 q_11 q_991 hd_Mod_slot ⟨by decide, by decide⟩ rfl rfl (Nat.le_of_ble_eq_true rfl) rfl dX11_contents_10 ?_
  obtain ⟨_, σ_4, hc_5, hm⟩ := rr_bd_some hm
  refine rr_callV (rest := []) (st1 := []) C 9 hll (c_Mod_copies l G hG fu v0 m_v0 k_v0 11 r_2 σ _ hc_5) q_1017 q_1019 qs_55 q_11 q_1020 hd_Mod_copies ⟨_, rfl, rfl⟩ (by decide) m_v0 k_v0 ⟨by decide, by decide⟩ rfl rfl (Nat.le_of_ble_eq_true rfl) rfl dX11_contents_13 ?_
  refine rx_aload_n C 0 dX11_contents_16 rfl ?_
  refine gf_844 C m_v0 k_v0 dX11_contents_17 hm (fun p_6 m_p_6 k_p_6 hm => ?_)
  refine rx_bipush (v := 11) C dX11_contents_20 rfl ?_
  refine rx_iconst (v := 1) C dX11_contents_22 rfl ?_
  refine rx_iast C m_p_6 k_p_6 dX11_contents_23 hm (fun σ_7 hm => ?_)
  refine rx_aload_n C 0 dX11_contents_24 rfl ?_
  refine gf_847 C m_v0 k_v0 dX11_contents_25 hm (fun p_8 m_p_8 k_p_8 hm => ?_)
  refine rx_iload_n C 1 dX11_contents_28 rfl ?_
  refine rx_iald C m_p_8 k_p_8 dX11_contents_29 hm (fun hm => ?_)
  refine rx_iconst (v := 1) C dX11_contents_30 rfl ?_
  refine rx_isub C dX11_contents_31 ?_
  refine rx_nmi hm (fun v2_9 ev2_9 hm => ?_)
  refine rx_istore_n (lv1 := [(2, .int v2_9), (0, .ref v0), (1, .int v1)]) C dX11_contents_32 (by decide) rfl ?_
  refine rx_lv [1, 2, 0] rfl ?_
  refine lw_Mod_contents_33 hG hll C v0 m_v0 k_v0 v1 _ _ _ _ hm (fun σ_25 hm => ?_)
  refine rx_aload_n C 0 dX11_contents_95 rfl ?_
  refine gf_844 C m_v0 k_v0 dX11_contents_96 hm (fun p_26 m_p_26 k_p_26 hm => ?_)
  refine rx_bipush (v := 11) C dX11_contents_99 rfl ?_
  refine rx_iconst (v := 1) C dX11_contents_101 rfl ?_
  refine rx_iast C m_p_26 k_p_26 dX11_contents_102 hm (fun σ_27 hm => ?_)
  exact rx_vret C dX11_contents_103 hm
def l_Mod_longOf_12 (fu : Nat) (N : Nat → Nat) (v0 : Nat) (v1 : Int32) (σ : rr_M) : Nat → Int64 → Int32 → (Int64 → Option (Int64)) → Option (Int64)
  | 0, _, _, _ => none
  | n + 1, v2, v4, kk =>
    if v4 < 0 then (kk v2) else
    Option.bind (f_Mod_limbAt N v0 v1 v4 σ) fun r_4 =>
    rr_lt ((v2 * 65536) + r_4.toInt64) fun v2_6 =>
    rr_lt (v4 + (-1)) fun v4_7 =>
    l_Mod_longOf_12 fu N v0 v1 σ n v2_6 v4_7 kk
theorem lw_Mod_longOf_12 {X : rr_X} {G : rr_G} {l : Launch} {fu : Nat} (hG : G.2.2.1.Nodup) (hll : X.2.1 = l) (C : rr_C X G cX11_longOf 5 "RootRowsModel" (some .long) 1 22) {r : Int64}  (σ : rr_M) (v0 : Nat) (m_v0 : v0 ∈ G.2.2.1) (k_v0 : G.2.2.2.1 v0 = 9) (v1 : Int32) : ∀ (n : Nat) (v2 : Int64) (v4 : Int32) (K : Int64 → Option (Int64)), l_Mod_longOf_12 fu G.2.2.2.2 v0 v1 σ n v2 v4 K = some r → (∀ (w2 : Int64), K w2 = some r → rr_J X G 5 (rr_E X G σ (some (.long r))) σ 38 [(0, .ref v0), (1, .int v1), (2, .long w2)] []) → rr_J X G 5 (rr_E X G σ (some (.long r))) σ 12 [(0, .ref v0), (1, .int v1), (2, .long v2), (4, .int v4)] [] := by
  intro n
  induction n with
  | zero =>
    intro v2 v4 K hm
    cases hm
  | succ n ih =>
    intro v2 v4 K hm hk
    unfold l_Mod_longOf_12 at hm
    refine rx_iload C 3 dX11_longOf_12 rfl ?_
    refine rx_if_lt (tgt := 38) C dX11_longOf_14 (by decide) hm (fun h_3 hm => ?_) (fun h_3 hm => ?_)
    · refine rx_lv [0, 1, 2] rfl ?_
      exact hk _ hm
    refine rx_lload_n C 2 dX11_longOf_17 rfl ?_
    refine rx_ldc2 C q_996 dX11_longOf_18 ?_
    refine rx_lmul C dX11_longOf_21 ?_
    refine rx_aload_n C 0 dX11_longOf_22 rfl ?_
    refine rx_iload_n C 1 dX11_longOf_23 rfl ?_
    refine rx_iload C 3 dX11_longOf_24 rfl ?_
    obtain ⟨r_4, hc_5, hm⟩ := rr_b0_some hm
    refine rr_callV (rest := [.long (v2 * 65536)]) (st1 := [.int r_4, .long (v2 * 65536)]) C 9 hll (c_Mod_limbAt l G hG v0 m_v0 k_v0 v1 v4 σ _ hc_5) q_1005 q_1007 qs_52 q_11 q_1008 hd_Mod_limbAt ⟨_, rfl, rfl⟩ (by decide) m_v0 k_v0 ⟨by decide, by decide⟩ rfl rfl (Nat.le_of_ble_eq_true rfl) rfl dX11_longOf_26 ?_
    refine rx_i2l C dX11_longOf_29 ?_
    refine rx_ladd C dX11_longOf_30 ?_
    refine rx_nml hm (fun v2_6 ev2_6 hm => ?_)
    refine rx_lstore_n (lv1 := [(2, .long v2_6), (0, .ref v0), (1, .int v1), (4, .int v4)]) C dX11_longOf_31 (by decide) rfl ?_
    refine rx_iinc (d := (-1)) (lv1 := fun v => [(4, .int v), (2, .long v2_6), (0, .ref v0), (1, .int v1)]) C 3 dX11_longOf_32 hm rfl rfl (by decide) (fun _ => rfl) (fun v4_7 hm => ?_)
    refine rx_goto (tgt := 12) C dX11_longOf_35 (by decide) ?_
    refine rx_lv [2, 3, 1, 0] rfl ?_
    exact ih _ _ _ hm hk
def f_Mod_longOf (fu : Nat) (N : Nat → Nat) (v0 : Nat) (v1 : Int32) (σ : rr_M) : Option (Int64) :=
    rr_lt (mg_r σ v0 2) fun p_1 =>
    (if rr_ix v1 (N p_1) then
    rr_lt ((mg_i σ p_1 (rr_n v1)) - 1) fun v4_2 =>
    l_Mod_longOf_12 fu N v0 v1 σ fu 0 v4_2 (fun v2_8 =>
    rr_lt (mg_r σ v0 3) fun p_9 =>
    (if rr_ix v1 (N p_9) then
    some (((mg_i σ p_9 (rr_n v1)).toInt64) * v2_8) else none)) else none)
theorem c_Mod_longOf (l : Launch) (G : rr_G) (hG : G.2.2.1.Nodup) (fu : Nat) (v0 : Nat) (m_v0 : v0 ∈ G.2.2.1) (k_v0 : G.2.2.2.1 v0 = 9) (v1 : Int32) (σ : rr_M) (r : Int64) (hm : f_Mod_longOf fu G.2.2.2.2 v0 v1 σ = some r) : rr_Met l G yX11_longOf cX11_longOf 5 (some .long) 1 22 [.ref v0, .int v1] σ σ (some (.long r)) := by
  refine rr_enter (lv0 := [(0, .ref v0), (1, .int v1)]) hp_Mod_longOf hG (Nat.le_of_ble_eq_true rfl) rfl (fun X hll C => ?_)
  replace C : rr_C X G cX11_longOf 5 "RootRowsModel" (some .long) 1 22 := C
  unfold f_Mod_longOf at hm
  refine rx_lconst (v := 0) C dX11_longOf_0 rfl ?_
  refine rx_lstore_n (lv1 := [(2, .long 0), (0, .ref v0), (1, .int v1)]) C dX11_longOf_1 (by decide) rfl ?_
  refine rx_aload_n C 1 dX11_longOf_2 rfl ?_
  refine gf_843 C m_v0 k_v0 dX11_longOf_3 hm (fun p_1 m_p_1 k_p_1 hm => ?_)
  refine rx_iload_n C 2 dX11_longOf_6 rfl ?_
  refine rx_iald C m_p_1 k_p_1 dX11_longOf_7 hm (fun hm => ?_)
  refine rx_iconst (v := 1) C dX11_longOf_8 rfl ?_
  refine rx_isub C dX11_longOf_9 ?_
  refine rx_nmi hm (fun v4_2 ev4_2 hm => ?_)
  refine rx_istore (lv1 := [(4, .int v4_2), (2, .long 0), (0, .ref v0), (1, .int v1)]) C dX11_longOf_10 (by decide) rfl ?_
  refine rx_lv [2, 3, 1, 0] rfl ?_
  refine lw_Mod_longOf_12 hG hll C σ v0 m_v0 k_v0 v1 _ _ _ _ hm (fun v2_8 hm => ?_)
  refine rx_aload_n C 0 dX11_longOf_38 rfl ?_
  refine gf_844 C m_v0 k_v0 dX11_longOf_39 hm (fun p_9 m_p_9 k_p_9 hm => ?_)
  refine rx_iload_n C 1 dX11_longOf_42 rfl ?_
  refine rx_iald C m_p_9 k_p_9 dX11_longOf_43 hm (fun hm => ?_)
  refine rx_i2l C dX11_longOf_44 ?_
  refine rx_lload_n C 2 dX11_longOf_45 rfl ?_
  refine rx_lmul C dX11_longOf_46 ?_
  exact rx_lretR C dX11_longOf_47 hm
def l_Mod_plains_24 (fu : Nat) (N : Nat → Nat) (v0 : Nat) (v1 : Int32) (v2 : Int32) (v3 : Int32) : Nat → Int32 → rr_M → (rr_M → Option (Unit × rr_M)) → Option (Unit × rr_M)
  | 0, _, _, _ => none
  | n + 1, v4, σ, kk =>
    if 9 ≤ v4 then (kk σ) else
    rr_lt (mg_r σ v0 6) fun p_9 =>
    (if rr_ix v2 (N p_9) then
    rr_jn (fun (v5_10 : Int64) (σ_11 : rr_M) =>
    rr_bd (f_Mod_puts N v0 v1 v4 v5_10 σ_11) fun _ σ_12 =>
    rr_lt (v4 + 1) fun v4_14 =>
    l_Mod_plains_24 fu N v0 v1 v2 v3 n v4_14 σ_12 kk) fun j72 =>
    if (mg_i σ p_9 (rr_n v2)) < v4 then (j72 0 σ) else
    Option.bind (f_Mod_slot v2 v4) fun r_16 =>
    rr_bd (f_Mod_parts fu N v0 13 14 r_16 11 σ) fun _ σ_18 =>
    Option.bind (f_Mod_longOf fu N v0 13 σ_18) fun r_20 =>
    rr_lt (v3.toInt64 * r_20) fun v5_22 =>
    j72 v5_22 σ_18 else none)
theorem lw_Mod_plains_24 {X : rr_X} {G : rr_G} {l : Launch} {fu : Nat} (hG : G.2.2.1.Nodup) (hll : X.2.1 = l) (C : rr_C X G cX11_plains 7 "RootRowsModel" none 4 102) {σr : rr_M} (v0 : Nat) (m_v0 : v0 ∈ G.2.2.1) (k_v0 : G.2.2.2.1 v0 = 9) (v1 : Int32) (v2 : Int32) (v3 : Int32) : ∀ (n : Nat) (v4 : Int32) (σ : rr_M) (K : rr_M → Option (Unit × rr_M)), l_Mod_plains_24 fu G.2.2.2.2 v0 v1 v2 v3 n v4 σ K = some ((), σr) → (∀ (σ1 : rr_M), K σ1 = some ((), σr) → rr_J X G 7 (rr_E X G σr none) σ1 87 [] []) → rr_J X G 7 (rr_E X G σr none) σ 24 [(0, .ref v0), (1, .int v1), (2, .int v2), (3, .int v3), (4, .int v4)] [] := by
  intro n
  induction n with
  | zero =>
    intro v4 σ K hm
    cases hm
  | succ n ih =>
    intro v4 σ K hm hk
    unfold l_Mod_plains_24 at hm
    refine rx_iload C 4 dX11_plains_24 rfl ?_
    refine rx_bipush (v := 9) C dX11_plains_26 rfl ?_
    refine rx_icmp_ge (tgt := 87) C dX11_plains_28 (by decide) hm (fun h_8 hm => ?_) (fun h_8 hm => ?_)
    · refine rx_lv [] rfl ?_
      exact hk _ hm
    refine rx_lconst (v := 0) C dX11_plains_31 rfl ?_
    refine rx_lstore (lv1 := [(5, .long 0), (0, .ref v0), (1, .int v1), (2, .int v2), (3, .int v3), (4, .int v4)]) C dX11_plains_32 (by decide) rfl ?_
    refine rx_iload C 5 dX11_plains_34 rfl ?_
    refine rx_aload_n C 1 dX11_plains_36 rfl ?_
    refine gf_847 C m_v0 k_v0 dX11_plains_37 hm (fun p_9 m_p_9 k_p_9 hm => ?_)
    refine rx_iload_n C 3 dX11_plains_40 rfl ?_
    refine rx_iald C m_p_9 k_p_9 dX11_plains_41 hm (fun hm => ?_)
    refine rr_jn2 hm (fun j72 ej72 hm => ?_)
    have hj72 : ∀ (v5_10 : Int64) (σ_11 : rr_M), j72 v5_10 σ_11 = some ((), σr) → rr_J X G 7 (rr_E X G σr none) σ_11 72 [(0, .ref v0), (1, .int v1), (2, .int v2), (3, .int v3), (4, .int v4), (5, .long v5_10)] [] := by
      intro v5_10 σ_11 hm
      replace hm := ej72 _ _ hm
      refine rx_aload_n C 0 dX11_plains_72 rfl ?_
      refine rx_iload_n C 1 dX11_plains_73 rfl ?_
      refine rx_iload C 4 dX11_plains_74 rfl ?_
      refine rx_lload C 5 dX11_plains_76 rfl ?_
      obtain ⟨_, σ_12, hc_13, hm⟩ := rr_bd_some hm
      refine rr_callV (rest := []) (st1 := []) C 9 hll (c_Mod_puts l G hG v0 m_v0 k_v0 v1 v4 v5_10 σ_11 _ hc_13) q_921 q_923 qs_38 q_11 q_924 hd_Mod_puts ⟨_, rfl, rfl⟩ (by decide) m_v0 k_v0 ⟨by decide, by decide⟩ rfl rfl (Nat.le_of_ble_eq_true rfl) rfl dX11_plains_78 ?_
      refine rx_iinc (d := 1) (lv1 := fun v => [(4, .int v), (0, .ref v0), (1, .int v1), (2, .int v2), (3, .int v3), (5, .long v5_10)]) C 4 dX11_plains_81 hm rfl rfl (by decide) (fun _ => rfl) (fun v4_14 hm => ?_)
      refine rx_goto (tgt := 24) C dX11_plains_84 (by decide) ?_
      refine rx_lv [1, 2, 3, 4, 0] rfl ?_
      exact ih _ _ _ hm hk
    refine rx_icmp_gt (tgt := 72) C dX11_plains_42 (by decide) hm (fun h_15 hm => ?_) (fun h_15 hm => ?_)
    · refine rx_lv [1, 2, 3, 4, 5, 0] rfl ?_
      exact hj72 _ _ hm
    refine rx_aload_n C 1 dX11_plains_45 rfl ?_
    refine rx_bipush (v := 13) C dX11_plains_46 rfl ?_
    refine rx_bipush (v := 14) C dX11_plains_48 rfl ?_
    refine rx_iload_n C 3 dX11_plains_50 rfl ?_
    refine rx_iload C 5 dX11_plains_51 rfl ?_
    obtain ⟨r_16, hc_17, hm⟩ := rr_b0_some hm
    refine rr_callS (rest := [.int 14, .int 13, .ref v0]) (st1 := [.int r_16, .int 14, .int 13, .ref v0]) C hll (c_Mod_slot l G hG v2 v4 σ _ hc_17) q_989 q_990 q_11 q_991 hd_Mod_slot ⟨by decide, by decide⟩ rfl rfl (Nat.le_of_ble_eq_true rfl) rfl dX11_plains_53 ?_
    refine rx_bipush (v := 11) C dX11_plains_56 rfl ?_
    obtain ⟨_, σ_18, hc_19, hm⟩ := rr_bd_some hm
    refine rr_callV (rest := []) (st1 := []) C 9 hll (c_Mod_parts l G hG fu v0 m_v0 k_v0 13 14 r_16 11 σ _ hc_19) q_1079 q_1081 qs_66 q_11 q_1082 hd_Mod_parts ⟨_, rfl, rfl⟩ (by decide) m_v0 k_v0 ⟨by decide, by decide⟩ rfl rfl (Nat.le_of_ble_eq_true rfl) rfl dX11_plains_58 ?_
    refine rx_iload_n C 4 dX11_plains_61 rfl ?_
    refine rx_i2l C dX11_plains_62 ?_
    refine rx_aload_n C 1 dX11_plains_63 rfl ?_
    refine rx_bipush (v := 13) C dX11_plains_64 rfl ?_
    obtain ⟨r_20, hc_21, hm⟩ := rr_b0_some hm
    refine rr_callV (rest := [.long v3.toInt64]) (st1 := [.long r_20, .long v3.toInt64]) C 9 hll (c_Mod_longOf l G hG fu v0 m_v0 k_v0 13 σ_18 _ hc_21) q_1026 q_1028 qs_57 q_11 q_1029 hd_Mod_longOf ⟨_, rfl, rfl⟩ (by decide) m_v0 k_v0 ⟨by decide, by decide⟩ rfl rfl (Nat.le_of_ble_eq_true rfl) rfl dX11_plains_66 ?_
    refine rx_lmul C dX11_plains_69 ?_
    refine rx_nml hm (fun v5_22 ev5_22 hm => ?_)
    refine rx_lstore (lv1 := [(5, .long v5_22), (0, .ref v0), (1, .int v1), (2, .int v2), (3, .int v3), (4, .int v4)]) C dX11_plains_70 (by decide) rfl ?_
    refine rx_lv [1, 2, 3, 4, 5, 0] rfl ?_
    exact hj72 _ _ hm
def f_Mod_plains (fu : Nat) (N : Nat → Nat) (v0 : Nat) (v1 : Int32) (v2 : Int32) (σ : rr_M) : Option (Unit × rr_M) :=
    rr_bd (f_Mod_contents fu N v0 v2 σ) fun _ σ_1 =>
    rr_lt (mg_r σ_1 v0 3) fun p_3 =>
    rr_lt (mg_r σ_1 v0 6) fun p_4 =>
    (if rr_ix v2 (N p_4) then
    Option.bind (f_Mod_slot v2 (mg_i σ_1 p_4 (rr_n v2))) fun r_5 =>
    (if rr_ix r_5 (N p_3) then
    rr_lt (mg_i σ_1 p_3 (rr_n r_5)) fun v3_7 =>
    l_Mod_plains_24 fu N v0 v1 v2 v3_7 fu 0 σ_1 (fun σ_23 =>
    some ((), σ_23)) else none) else none)
theorem c_Mod_plains (l : Launch) (G : rr_G) (hG : G.2.2.1.Nodup) (fu : Nat) (v0 : Nat) (m_v0 : v0 ∈ G.2.2.1) (k_v0 : G.2.2.2.1 v0 = 9) (v1 : Int32) (v2 : Int32) (σ : rr_M) (σr : rr_M) (hm : f_Mod_plains fu G.2.2.2.2 v0 v1 v2 σ = some ((), σr)) : rr_Met l G yX11_plains cX11_plains 7 none 4 102 [.ref v0, .int v1, .int v2] σ σr none := by
  refine rr_enter (lv0 := [(0, .ref v0), (1, .int v1), (2, .int v2)]) hp_Mod_plains hG (Nat.le_of_ble_eq_true rfl) rfl (fun X hll C => ?_)
  replace C : rr_C X G cX11_plains 7 "RootRowsModel" none 4 102 := C
  unfold f_Mod_plains at hm
  refine rx_aload_n C 0 dX11_plains_0 rfl ?_
  refine rx_iload_n C 2 dX11_plains_1 rfl ?_
  obtain ⟨_, σ_1, hc_2, hm⟩ := rr_bd_some hm
  refine rr_callV (rest := []) (st1 := []) C 9 hll (c_Mod_contents l G hG fu v0 m_v0 k_v0 v2 σ _ hc_2) q_1099 q_1101 qs_71 q_11 q_1102 hd_Mod_contents ⟨_, rfl, rfl⟩ (by decide) m_v0 k_v0 ⟨by decide, by decide⟩ rfl rfl (Nat.le_of_ble_eq_true rfl) rfl dX11_plains_2 ?_
  refine rx_aload_n C 0 dX11_plains_5 rfl ?_
  refine gf_844 C m_v0 k_v0 dX11_plains_6 hm (fun p_3 m_p_3 k_p_3 hm => ?_)
  refine rx_iload_n C 2 dX11_plains_9 rfl ?_
  refine rx_aload_n C 0 dX11_plains_10 rfl ?_
  refine gf_847 C m_v0 k_v0 dX11_plains_11 hm (fun p_4 m_p_4 k_p_4 hm => ?_)
  refine rx_iload_n C 2 dX11_plains_14 rfl ?_
  refine rx_iald C m_p_4 k_p_4 dX11_plains_15 hm (fun hm => ?_)
  obtain ⟨r_5, hc_6, hm⟩ := rr_b0_some hm
  refine rr_callS (rest := [.ref p_3]) (st1 := [.int r_5, .ref p_3]) C hll (c_Mod_slot l G hG v2 (mg_i σ_1 p_4 (rr_n v2)) σ_1 _ hc_6) q_989 q_990 q_11 q_991 hd_Mod_slot ⟨by decide, by decide⟩ rfl rfl (Nat.le_of_ble_eq_true rfl) rfl dX11_plains_16 ?_
  refine rx_iald C m_p_3 k_p_3 dX11_plains_19 hm (fun hm => ?_)
  refine rx_nmi hm (fun v3_7 ev3_7 hm => ?_)
  refine rx_istore_n (lv1 := [(3, .int v3_7), (0, .ref v0), (1, .int v1), (2, .int v2)]) C dX11_plains_20 (by decide) rfl ?_
  refine rx_iconst (v := 0) C dX11_plains_21 rfl ?_
  refine rx_istore (lv1 := [(4, .int 0), (3, .int v3_7), (0, .ref v0), (1, .int v1), (2, .int v2)]) C dX11_plains_22 (by decide) rfl ?_
  refine rx_lv [2, 3, 4, 1, 0] rfl ?_
  refine lw_Mod_plains_24 hG hll C v0 m_v0 k_v0 v1 v2 v3_7 _ _ _ _ hm (fun σ_23 hm => ?_)
  exact rx_vret C dX11_plains_87 hm
def l_Mod_degreeOfRow_2 (fu : Nat) (N : Nat → Nat) (v0 : Nat) (v1 : Int32) (σ : rr_M) : Nat → Int32 → (Int32 → Option (Int32)) → Option (Int32)
  | 0, _, _ => none
  | n + 1, v3, kk =>
    if v3 < 0 then (kk v3) else
    rr_lt (mg_r σ v0 3) fun p_2 =>
    Option.bind (f_Mod_slot v1 v3) fun r_3 =>
    (if rr_ix r_3 (N p_2) then
    if (mg_i σ p_2 (rr_n r_3)) = 0 then (rr_lt (v3 + (-1)) fun v3_6 =>
    l_Mod_degreeOfRow_2 fu N v0 v1 σ n v3_6 kk) else
    kk v3 else none)
theorem lw_Mod_degreeOfRow_2 {X : rr_X} {G : rr_G} {l : Launch} {fu : Nat} (hG : G.2.2.1.Nodup) (hll : X.2.1 = l) (C : rr_C X G cX11_degreeOfRow 4 "RootRowsModel" (some .int) 1 21) {r : Int32}  (σ : rr_M) (v0 : Nat) (m_v0 : v0 ∈ G.2.2.1) (k_v0 : G.2.2.2.1 v0 = 9) (v1 : Int32) : ∀ (n : Nat) (v3 : Int32) (K : Int32 → Option (Int32)), l_Mod_degreeOfRow_2 fu G.2.2.2.2 v0 v1 σ n v3 K = some r → (∀ (w3 : Int32), K w3 = some r → rr_J X G 4 (rr_E X G σ (some (.int r))) σ 25 [(3, .int w3)] []) → rr_J X G 4 (rr_E X G σ (some (.int r))) σ 2 [(0, .ref v0), (1, .int v1), (3, .int v3)] [] := by
  intro n
  induction n with
  | zero =>
    intro v3 K hm
    cases hm
  | succ n ih =>
    intro v3 K hm hk
    unfold l_Mod_degreeOfRow_2 at hm
    refine rx_iload_n C 2 dX11_degreeOfRow_2 rfl ?_
    refine rx_if_lt (tgt := 25) C dX11_degreeOfRow_3 (by decide) hm (fun h_1 hm => ?_) (fun h_1 hm => ?_)
    · refine rx_lv [2] rfl ?_
      exact hk _ hm
    refine rx_aload_n C 0 dX11_degreeOfRow_6 rfl ?_
    refine gf_844 C m_v0 k_v0 dX11_degreeOfRow_7 hm (fun p_2 m_p_2 k_p_2 hm => ?_)
    refine rx_iload_n C 1 dX11_degreeOfRow_10 rfl ?_
    refine rx_iload_n C 2 dX11_degreeOfRow_11 rfl ?_
    obtain ⟨r_3, hc_4, hm⟩ := rr_b0_some hm
    refine rr_callS (rest := [.ref p_2]) (st1 := [.int r_3, .ref p_2]) C hll (c_Mod_slot l G hG v1 v3 σ _ hc_4) q_989 q_990 q_11 q_991 hd_Mod_slot ⟨by decide, by decide⟩ rfl rfl (Nat.le_of_ble_eq_true rfl) rfl dX11_degreeOfRow_12 ?_
    refine rx_iald C m_p_2 k_p_2 dX11_degreeOfRow_15 hm (fun hm => ?_)
    refine rx_if_ne (tgt := 25) C dX11_degreeOfRow_16 (by decide) hm (fun h_5 hm => ?_) (fun h_5 hm => ?_)
    · refine rx_lv [2] rfl ?_
      exact hk _ hm
    refine rx_iinc (d := (-1)) (lv1 := fun v => [(3, .int v), (0, .ref v0), (1, .int v1)]) C 2 dX11_degreeOfRow_19 hm rfl rfl (by decide) (fun _ => rfl) (fun v3_6 hm => ?_)
    refine rx_goto (tgt := 2) C dX11_degreeOfRow_22 (by decide) ?_
    refine rx_lv [1, 2, 0] rfl ?_
    exact ih _ _ hm hk
def f_Mod_degreeOfRow (fu : Nat) (N : Nat → Nat) (v0 : Nat) (v1 : Int32) (v2 : Int32) (σ : rr_M) : Option (Int32) :=
    l_Mod_degreeOfRow_2 fu N v0 v1 σ fu v2 (fun v3_7 =>
    some (v3_7))
theorem c_Mod_degreeOfRow (l : Launch) (G : rr_G) (hG : G.2.2.1.Nodup) (fu : Nat) (v0 : Nat) (m_v0 : v0 ∈ G.2.2.1) (k_v0 : G.2.2.2.1 v0 = 9) (v1 : Int32) (v2 : Int32) (σ : rr_M) (r : Int32) (hm : f_Mod_degreeOfRow fu G.2.2.2.2 v0 v1 v2 σ = some r) : rr_Met l G yX11_degreeOfRow cX11_degreeOfRow 4 (some .int) 1 21 [.ref v0, .int v1, .int v2] σ σ (some (.int r)) := by
  refine rr_enter (lv0 := [(0, .ref v0), (1, .int v1), (2, .int v2)]) hp_Mod_degreeOfRow hG (Nat.le_of_ble_eq_true rfl) rfl (fun X hll C => ?_)
  replace C : rr_C X G cX11_degreeOfRow 4 "RootRowsModel" (some .int) 1 21 := C
  unfold f_Mod_degreeOfRow at hm
  refine rx_iload_n C 2 dX11_degreeOfRow_0 rfl ?_
  refine rx_istore_n (lv1 := [(3, .int v2), (0, .ref v0), (1, .int v1), (2, .int v2)]) C dX11_degreeOfRow_1 (by decide) rfl ?_
  refine rx_lv [1, 2, 0] rfl ?_
  refine lw_Mod_degreeOfRow_2 hG hll C σ v0 m_v0 k_v0 v1 _ _ _ hm (fun v3_7 hm => ?_)
  refine rx_iload_n C 0 dX11_degreeOfRow_25 rfl ?_
  exact rx_iretR C dX11_degreeOfRow_26 hm
def l_Mod_multiplies_18 (fu : Nat) (N : Nat → Nat) (v0 : Nat) (v1 : Int32) (v4 : Int32) : Nat → Int32 → rr_M → (rr_M → Option (Unit × rr_M)) → Option (Unit × rr_M)
  | 0, _, _, _ => none
  | n + 1, v5, σ, kk =>
    if v4 ≤ v5 then (kk σ) else
    rr_lt (mg_r σ v0 1) fun p_5 =>
    (if rr_ix ((200 * v1) + v5) (N p_5) then rr_lt (ms_i σ p_5 (rr_n ((200 * v1) + v5)) 0) fun σ_6 =>
    rr_lt (v5 + 1) fun v5_7 =>
    l_Mod_multiplies_18 fu N v0 v1 v4 n v5_7 σ_6 kk else none)
theorem lw_Mod_multiplies_18 {X : rr_X} {G : rr_G} {l : Launch} {fu : Nat} (hG : G.2.2.1.Nodup) (hll : X.2.1 = l) (C : rr_C X G cX11_multiplies 13 "RootRowsModel" none 2 45) {σr : rr_M} (v0 : Nat) (m_v0 : v0 ∈ G.2.2.1) (k_v0 : G.2.2.2.1 v0 = 9) (v1 : Int32) (v2 : Int32) (v3 : Int32) (v4 : Int32) : ∀ (n : Nat) (v5 : Int32) (σ : rr_M) (K : rr_M → Option (Unit × rr_M)), l_Mod_multiplies_18 fu G.2.2.2.2 v0 v1 v4 n v5 σ K = some ((), σr) → (∀ (σ1 : rr_M), K σ1 = some ((), σr) → rr_J X G 13 (rr_E X G σr none) σ1 45 [(0, .ref v0), (1, .int v1), (2, .int v2), (3, .int v3), (4, .int v4)] []) → rr_J X G 13 (rr_E X G σr none) σ 18 [(0, .ref v0), (1, .int v1), (2, .int v2), (3, .int v3), (4, .int v4), (5, .int v5)] [] := by
  intro n
  induction n with
  | zero =>
    intro v5 σ K hm
    cases hm
  | succ n ih =>
    intro v5 σ K hm hk
    unfold l_Mod_multiplies_18 at hm
    refine rx_iload C 5 dX11_multiplies_18 rfl ?_
    refine rx_iload C 4 dX11_multiplies_20 rfl ?_
    refine rx_icmp_ge (tgt := 45) C dX11_multiplies_22 (by decide) hm (fun h_4 hm => ?_) (fun h_4 hm => ?_)
    · refine rx_lv [0, 1, 2, 3, 4] rfl ?_
      exact hk _ hm
    refine rx_aload_n C 0 dX11_multiplies_25 rfl ?_
    refine gf_842 C m_v0 k_v0 dX11_multiplies_26 hm (fun p_5 m_p_5 k_p_5 hm => ?_)
    refine rx_sipush (v := 200) C dX11_multiplies_29 rfl ?_
    refine rx_iload_n C 1 dX11_multiplies_32 rfl ?_
    refine rx_imul C dX11_multiplies_33 ?_
    refine rx_iload C 5 dX11_multiplies_34 rfl ?_
    refine rx_iadd C dX11_multiplies_36 ?_
    refine rx_iconst (v := 0) C dX11_multiplies_37 rfl ?_
    refine rx_iast C m_p_5 k_p_5 dX11_multiplies_38 hm (fun σ_6 hm => ?_)
    refine rx_iinc (d := 1) (lv1 := fun v => [(5, .int v), (0, .ref v0), (1, .int v1), (2, .int v2), (3, .int v3), (4, .int v4)]) C 5 dX11_multiplies_39 hm rfl rfl (by decide) (fun _ => rfl) (fun v5_7 hm => ?_)
    refine rx_goto (tgt := 18) C dX11_multiplies_42 (by decide) ?_
    refine rx_lv [1, 2, 3, 4, 5, 0] rfl ?_
    exact ih _ _ _ hm hk
def l_Mod_multiplies_75 (fu : Nat) (N : Nat → Nat) (v0 : Nat) (v1 : Int32) (v3 : Int32) (v5 : Int32) (v8 : Int64) : Nat → Int64 → Int32 → rr_M → (Int64 → rr_M → Option (Unit × rr_M)) → Option (Unit × rr_M)
  | 0, _, _, _, _ => none
  | n + 1, v6, v10, σ, kk =>
    rr_lt (mg_r σ v0 2) fun p_13 =>
    (if rr_ix v3 (N p_13) then
    if (mg_i σ p_13 (rr_n v3)) ≤ v10 then (kk v6 σ) else
    Option.bind (f_Mod_limbAt N v0 v3 v10 σ) fun r_15 =>
    Option.bind (f_Mod_limbAt N v0 v1 (v5 + v10) σ) fun r_17 =>
    rr_lt (((v8 * r_15.toInt64) + r_17.toInt64) + v6) fun v11_19 =>
    rr_lt (mg_r σ v0 1) fun p_20 =>
    (if rr_ix (((200 * v1) + v5) + v10) (N p_20) then rr_lt (ms_i σ p_20 (rr_n (((200 * v1) + v5) + v10)) ((v11_19 - v11_19 / 65536 * 65536).toInt32)) fun σ_21 =>
    rr_lt (v11_19 / 65536) fun v6_22 =>
    rr_lt (v10 + 1) fun v10_23 =>
    l_Mod_multiplies_75 fu N v0 v1 v3 v5 v8 n v6_22 v10_23 σ_21 kk else none) else none)
theorem lw_Mod_multiplies_75 {X : rr_X} {G : rr_G} {l : Launch} {fu : Nat} (hG : G.2.2.1.Nodup) (hll : X.2.1 = l) (C : rr_C X G cX11_multiplies 13 "RootRowsModel" none 2 45) {σr : rr_M} (v0 : Nat) (m_v0 : v0 ∈ G.2.2.1) (k_v0 : G.2.2.2.1 v0 = 9) (v1 : Int32) (v2 : Int32) (v3 : Int32) (v4 : Int32) (v5 : Int32) (v8 : Int64) : ∀ (n : Nat) (v6 : Int64) (v10 : Int32) (σ : rr_M) (K : Int64 → rr_M → Option (Unit × rr_M)), l_Mod_multiplies_75 fu G.2.2.2.2 v0 v1 v3 v5 v8 n v6 v10 σ K = some ((), σr) → (∀ (w6 : Int64) (σ1 : rr_M), K w6 σ1 = some ((), σr) → rr_J X G 13 (rr_E X G σr none) σ1 151 [(0, .ref v0), (1, .int v1), (2, .int v2), (3, .int v3), (4, .int v4), (5, .int v5), (6, .long w6)] []) → rr_J X G 13 (rr_E X G σr none) σ 75 [(0, .ref v0), (1, .int v1), (2, .int v2), (3, .int v3), (4, .int v4), (5, .int v5), (6, .long v6), (8, .long v8), (10, .int v10)] [] := by
  intro n
  induction n with
  | zero =>
    intro v6 v10 σ K hm
    cases hm
  | succ n ih =>
    intro v6 v10 σ K hm hk
    unfold l_Mod_multiplies_75 at hm
    refine rx_iload C 8 dX11_multiplies_75 rfl ?_
    refine rx_aload_n C 0 dX11_multiplies_77 rfl ?_
    refine gf_843 C m_v0 k_v0 dX11_multiplies_78 hm (fun p_13 m_p_13 k_p_13 hm => ?_)
    refine rx_iload_n C 3 dX11_multiplies_81 rfl ?_
    refine rx_iald C m_p_13 k_p_13 dX11_multiplies_82 hm (fun hm => ?_)
    refine rx_icmp_ge (tgt := 151) C dX11_multiplies_83 (by decide) hm (fun h_14 hm => ?_) (fun h_14 hm => ?_)
    · refine rx_lv [0, 1, 2, 3, 4, 5, 6] rfl ?_
      exact hk _ _ hm
    refine rx_lload C 7 dX11_multiplies_86 rfl ?_
    refine rx_aload_n C 0 dX11_multiplies_88 rfl ?_
    refine rx_iload_n C 3 dX11_multiplies_89 rfl ?_
    refine rx_iload C 8 dX11_multiplies_90 rfl ?_
    obtain ⟨r_15, hc_16, hm⟩ := rr_b0_some hm
    refine rr_callV (rest := [.long v8]) (st1 := [.int r_15, .long v8]) C 9 hll (c_Mod_limbAt l G hG v0 m_v0 k_v0 v3 v10 σ _ hc_16) q_1005 q_1007 qs_52 q_11 q_1008 hd_Mod_limbAt ⟨_, rfl, rfl⟩ (by decide) m_v0 k_v0 ⟨by decide, by decide⟩ rfl rfl (Nat.le_of_ble_eq_true rfl) rfl dX11_multiplies_92 ?_
    refine rx_i2l C dX11_multiplies_95 ?_
    refine rx_lmul C dX11_multiplies_96 ?_
    refine rx_aload_n C 0 dX11_multiplies_97 rfl ?_
    refine rx_iload_n C 1 dX11_multiplies_98 rfl ?_
    refine rx_iload C 5 dX11_multiplies_99 rfl ?_
    refine rx_iload C 8 dX11_multiplies_101 rfl ?_
    refine rx_iadd C dX11_multiplies_103 ?_
    obtain ⟨r_17, hc_18, hm⟩ := rr_b0_some hm
    refine rr_callV (rest := [.long (v8 * r_15.toInt64)]) (st1 := [.int r_17, .long (v8 * r_15.toInt64)]) C 9 hll (c_Mod_limbAt l G hG v0 m_v0 k_v0 v1 (v5 + v10) σ _ hc_18) q_1005 q_1007 qs_52 q_11 q_1008 hd_Mod_limbAt ⟨_, rfl, rfl⟩ (by decide) m_v0 k_v0 ⟨by decide, by decide⟩ rfl rfl (Nat.le_of_ble_eq_true rfl) rfl dX11_multiplies_104 ?_
    refine rx_i2l C dX11_multiplies_107 ?_
    refine rx_ladd C dX11_multiplies_108 ?_
    refine rx_lload C 6 dX11_multiplies_109 rfl ?_
    refine rx_ladd C dX11_multiplies_111 ?_
    refine rx_nml hm (fun v11_19 ev11_19 hm => ?_)
    refine rx_lstore (lv1 := [(11, .long v11_19), (0, .ref v0), (1, .int v1), (2, .int v2), (3, .int v3), (4, .int v4), (5, .int v5), (6, .long v6), (8, .long v8), (10, .int v10)]) C dX11_multiplies_112 (by decide) rfl ?_
    refine rx_aload_n C 1 dX11_multiplies_114 rfl ?_
    refine gf_842 C m_v0 k_v0 dX11_multiplies_115 hm (fun p_20 m_p_20 k_p_20 hm => ?_)
    refine rx_sipush (v := 200) C dX11_multiplies_118 rfl ?_
    refine rx_iload_n C 2 dX11_multiplies_121 rfl ?_
    refine rx_imul C dX11_multiplies_122 ?_
    refine rx_iload C 6 dX11_multiplies_123 rfl ?_
    refine rx_iadd C dX11_multiplies_125 ?_
    refine rx_iload C 9 dX11_multiplies_126 rfl ?_
    refine rx_iadd C dX11_multiplies_128 ?_
    refine rx_lload C 0 dX11_multiplies_129 rfl ?_
    refine rx_ldc2 C q_996 dX11_multiplies_131 ?_
    refine rx_lrem C dX11_multiplies_134 (by decide) ?_
    refine rx_l2i C dX11_multiplies_135 ?_
    refine rx_iast C m_p_20 k_p_20 dX11_multiplies_136 hm (fun σ_21 hm => ?_)
    refine rx_lload C 0 dX11_multiplies_137 rfl ?_
    refine rx_ldc2 C q_996 dX11_multiplies_139 ?_
    refine rx_ldiv C dX11_multiplies_142 (by decide) ?_
    refine rx_nml hm (fun v6_22 ev6_22 hm => ?_)
    refine rx_lstore (lv1 := [(6, .long v6_22), (11, .long v11_19), (0, .ref v0), (1, .int v1), (2, .int v2), (3, .int v3), (4, .int v4), (5, .int v5), (8, .long v8), (10, .int v10)]) C dX11_multiplies_143 (by decide) rfl ?_
    refine rx_iinc (d := 1) (lv1 := fun v => [(10, .int v), (6, .long v6_22), (11, .long v11_19), (0, .ref v0), (1, .int v1), (2, .int v2), (3, .int v3), (4, .int v4), (5, .int v5), (8, .long v8)]) C 9 dX11_multiplies_145 hm rfl rfl (by decide) (fun _ => rfl) (fun v10_23 hm => ?_)
    refine rx_goto (tgt := 75) C dX11_multiplies_148 (by decide) ?_
    refine rx_lv [3, 4, 5, 6, 7, 8, 1, 9, 0] rfl ?_
    exact ih _ _ _ _ hm hk
def l_Mod_multiplies_48 (fu : Nat) (N : Nat → Nat) (v0 : Nat) (v1 : Int32) (v2 : Int32) (v3 : Int32) : Nat → Int32 → rr_M → (rr_M → Option (Unit × rr_M)) → Option (Unit × rr_M)
  | 0, _, _, _ => none
  | n + 1, v5, σ, kk =>
    rr_lt (mg_r σ v0 2) fun p_9 =>
    (if rr_ix v2 (N p_9) then
    if (mg_i σ p_9 (rr_n v2)) ≤ v5 then (kk σ) else
    Option.bind (f_Mod_limbAt N v0 v2 v5 σ) fun r_11 =>
    l_Mod_multiplies_75 fu N v0 v1 v3 v5 r_11.toInt64 fu 0 0 σ (fun v6_24 σ_25 =>
    rr_lt (mg_r σ_25 v0 1) fun p_26 =>
    rr_lt (mg_r σ_25 v0 2) fun p_27 =>
    (if rr_ix v3 (N p_27) then
    (if rr_ix (((200 * v1) + v5) + (mg_i σ_25 p_27 (rr_n v3))) (N p_26) then rr_lt (ms_i σ_25 p_26 (rr_n (((200 * v1) + v5) + (mg_i σ_25 p_27 (rr_n v3)))) v6_24.toInt32) fun σ_28 =>
    rr_lt (v5 + 1) fun v5_29 =>
    l_Mod_multiplies_48 fu N v0 v1 v2 v3 n v5_29 σ_28 kk else none) else none)) else none)
theorem lw_Mod_multiplies_48 {X : rr_X} {G : rr_G} {l : Launch} {fu : Nat} (hG : G.2.2.1.Nodup) (hll : X.2.1 = l) (C : rr_C X G cX11_multiplies 13 "RootRowsModel" none 2 45) {σr : rr_M} (v0 : Nat) (m_v0 : v0 ∈ G.2.2.1) (k_v0 : G.2.2.2.1 v0 = 9) (v1 : Int32) (v2 : Int32) (v3 : Int32) (v4 : Int32) : ∀ (n : Nat) (v5 : Int32) (σ : rr_M) (K : rr_M → Option (Unit × rr_M)), l_Mod_multiplies_48 fu G.2.2.2.2 v0 v1 v2 v3 n v5 σ K = some ((), σr) → (∀ (σ1 : rr_M), K σ1 = some ((), σr) → rr_J X G 13 (rr_E X G σr none) σ1 180 [(0, .ref v0), (1, .int v1), (2, .int v2), (3, .int v3), (4, .int v4)] []) → rr_J X G 13 (rr_E X G σr none) σ 48 [(0, .ref v0), (1, .int v1), (2, .int v2), (3, .int v3), (4, .int v4), (5, .int v5)] [] := by
  intro n
  induction n with
  | zero =>
    intro v5 σ K hm
    cases hm
  | succ n ih =>
    intro v5 σ K hm hk
    unfold l_Mod_multiplies_48 at hm
    refine rx_iload C 5 dX11_multiplies_48 rfl ?_
    refine rx_aload_n C 0 dX11_multiplies_50 rfl ?_
    refine gf_843 C m_v0 k_v0 dX11_multiplies_51 hm (fun p_9 m_p_9 k_p_9 hm => ?_)
    refine rx_iload_n C 2 dX11_multiplies_54 rfl ?_
    refine rx_iald C m_p_9 k_p_9 dX11_multiplies_55 hm (fun hm => ?_)
    refine rx_icmp_ge (tgt := 180) C dX11_multiplies_56 (by decide) hm (fun h_10 hm => ?_) (fun h_10 hm => ?_)
    · refine rx_lv [0, 1, 2, 3, 4] rfl ?_
      exact hk _ hm
    refine rx_lconst (v := 0) C dX11_multiplies_59 rfl ?_
    refine rx_lstore (lv1 := [(6, .long 0), (0, .ref v0), (1, .int v1), (2, .int v2), (3, .int v3), (4, .int v4), (5, .int v5)]) C dX11_multiplies_60 (by decide) rfl ?_
    refine rx_aload_n C 1 dX11_multiplies_62 rfl ?_
    refine rx_iload_n C 3 dX11_multiplies_63 rfl ?_
    refine rx_iload C 6 dX11_multiplies_64 rfl ?_
    obtain ⟨r_11, hc_12, hm⟩ := rr_b0_some hm
    refine rr_callV (rest := []) (st1 := [.int r_11]) C 9 hll (c_Mod_limbAt l G hG v0 m_v0 k_v0 v2 v5 σ _ hc_12) q_1005 q_1007 qs_52 q_11 q_1008 hd_Mod_limbAt ⟨_, rfl, rfl⟩ (by decide) m_v0 k_v0 ⟨by decide, by decide⟩ rfl rfl (Nat.le_of_ble_eq_true rfl) rfl dX11_multiplies_66 ?_
    refine rx_i2l C dX11_multiplies_69 ?_
    refine rx_lstore (lv1 := [(8, .long r_11.toInt64), (6, .long 0), (0, .ref v0), (1, .int v1), (2, .int v2), (3, .int v3), (4, .int v4), (5, .int v5)]) C dX11_multiplies_70 (by decide) rfl ?_
    refine rx_iconst (v := 0) C dX11_multiplies_72 rfl ?_
    refine rx_istore (lv1 := [(10, .int 0), (8, .long r_11.toInt64), (6, .long 0), (0, .ref v0), (1, .int v1), (2, .int v2), (3, .int v3), (4, .int v4), (5, .int v5)]) C dX11_multiplies_73 (by decide) rfl ?_
    refine rx_lv [3, 4, 5, 6, 7, 8, 2, 1, 0] rfl ?_
    refine lw_Mod_multiplies_75 hG hll C v0 m_v0 k_v0 v1 v2 v3 v4 v5 r_11.toInt64 _ _ _ _ _ hm (fun v6_24 σ_25 hm => ?_)
    refine rx_aload_n C 0 dX11_multiplies_151 rfl ?_
    refine gf_842 C m_v0 k_v0 dX11_multiplies_152 hm (fun p_26 m_p_26 k_p_26 hm => ?_)
    refine rx_sipush (v := 200) C dX11_multiplies_155 rfl ?_
    refine rx_iload_n C 1 dX11_multiplies_158 rfl ?_
    refine rx_imul C dX11_multiplies_159 ?_
    refine rx_iload C 5 dX11_multiplies_160 rfl ?_
    refine rx_iadd C dX11_multiplies_162 ?_
    refine rx_aload_n C 0 dX11_multiplies_163 rfl ?_
    refine gf_843 C m_v0 k_v0 dX11_multiplies_164 hm (fun p_27 m_p_27 k_p_27 hm => ?_)
    refine rx_iload_n C 3 dX11_multiplies_167 rfl ?_
    refine rx_iald C m_p_27 k_p_27 dX11_multiplies_168 hm (fun hm => ?_)
    refine rx_iadd C dX11_multiplies_169 ?_
    refine rx_lload C 6 dX11_multiplies_170 rfl ?_
    refine rx_l2i C dX11_multiplies_172 ?_
    refine rx_iast C m_p_26 k_p_26 dX11_multiplies_173 hm (fun σ_28 hm => ?_)
    refine rx_iinc (d := 1) (lv1 := fun v => [(5, .int v), (0, .ref v0), (1, .int v1), (2, .int v2), (3, .int v3), (4, .int v4), (6, .long v6_24)]) C 5 dX11_multiplies_174 hm rfl rfl (by decide) (fun _ => rfl) (fun v5_29 hm => ?_)
    refine rx_goto (tgt := 48) C dX11_multiplies_177 (by decide) ?_
    refine rx_lv [1, 2, 3, 4, 5, 0] rfl ?_
    exact ih _ _ _ hm hk
def f_Mod_multiplies (fu : Nat) (N : Nat → Nat) (v0 : Nat) (v1 : Int32) (v2 : Int32) (v3 : Int32) (σ : rr_M) : Option (Unit × rr_M) :=
    rr_lt (mg_r σ v0 2) fun p_1 =>
    (if rr_ix v2 (N p_1) then
    rr_lt (mg_r σ v0 2) fun p_2 =>
    (if rr_ix v3 (N p_2) then
    rr_lt ((mg_i σ p_1 (rr_n v2)) + (mg_i σ p_2 (rr_n v3))) fun v4_3 =>
    l_Mod_multiplies_18 fu N v0 v1 v4_3 fu 0 σ (fun σ_8 =>
    l_Mod_multiplies_48 fu N v0 v1 v2 v3 fu 0 σ_8 (fun σ_30 =>
    rr_lt (mg_r σ_30 v0 3) fun p_31 =>
    rr_lt (mg_r σ_30 v0 3) fun p_32 =>
    (if rr_ix v2 (N p_32) then
    rr_lt (mg_r σ_30 v0 3) fun p_33 =>
    (if rr_ix v3 (N p_33) then
    (if rr_ix v1 (N p_31) then rr_lt (ms_i σ_30 p_31 (rr_n v1) ((mg_i σ_30 p_32 (rr_n v2)) * (mg_i σ_30 p_33 (rr_n v3)))) fun σ_34 =>
    rr_bd (f_Mod_trims fu N v0 v1 v4_3 σ_34) fun _ σ_35 =>
    some ((), σ_35) else none) else none) else none))) else none) else none)
theorem c_Mod_multiplies (l : Launch) (G : rr_G) (hG : G.2.2.1.Nodup) (fu : Nat) (v0 : Nat) (m_v0 : v0 ∈ G.2.2.1) (k_v0 : G.2.2.2.1 v0 = 9) (v1 : Int32) (v2 : Int32) (v3 : Int32) (σ : rr_M) (σr : rr_M) (hm : f_Mod_multiplies fu G.2.2.2.2 v0 v1 v2 v3 σ = some ((), σr)) : rr_Met l G yX11_multiplies cX11_multiplies 13 none 2 45 [.ref v0, .int v1, .int v2, .int v3] σ σr none := by
  refine rr_enter (lv0 := [(0, .ref v0), (1, .int v1), (2, .int v2), (3, .int v3)]) hp_Mod_multiplies hG (Nat.le_of_ble_eq_true rfl) rfl (fun X hll C => ?_)
  replace C : rr_C X G cX11_multiplies 13 "RootRowsModel" none 2 45 := C
  unfold f_Mod_multiplies at hm
  refine rx_aload_n C 0 dX11_multiplies_0 rfl ?_
  refine gf_843 C m_v0 k_v0 dX11_multiplies_1 hm (fun p_1 m_p_1 k_p_1 hm => ?_)
  refine rx_iload_n C 2 dX11_multiplies_4 rfl ?_
  refine rx_iald C m_p_1 k_p_1 dX11_multiplies_5 hm (fun hm => ?_)
  refine rx_aload_n C 0 dX11_multiplies_6 rfl ?_
  refine gf_843 C m_v0 k_v0 dX11_multiplies_7 hm (fun p_2 m_p_2 k_p_2 hm => ?_)
  refine rx_iload_n C 3 dX11_multiplies_10 rfl ?_
  refine rx_iald C m_p_2 k_p_2 dX11_multiplies_11 hm (fun hm => ?_)
  refine rx_iadd C dX11_multiplies_12 ?_
  refine rx_nmi hm (fun v4_3 ev4_3 hm => ?_)
  refine rx_istore (lv1 := [(4, .int v4_3), (0, .ref v0), (1, .int v1), (2, .int v2), (3, .int v3)]) C dX11_multiplies_13 (by decide) rfl ?_
  refine rx_iconst (v := 0) C dX11_multiplies_15 rfl ?_
  refine rx_istore (lv1 := [(5, .int 0), (4, .int v4_3), (0, .ref v0), (1, .int v1), (2, .int v2), (3, .int v3)]) C dX11_multiplies_16 (by decide) rfl ?_
  refine rx_lv [2, 3, 4, 5, 1, 0] rfl ?_
  refine lw_Mod_multiplies_18 hG hll C v0 m_v0 k_v0 v1 v2 v3 v4_3 _ _ _ _ hm (fun σ_8 hm => ?_)
  refine rx_iconst (v := 0) C dX11_multiplies_45 rfl ?_
  refine rx_istore (lv1 := [(5, .int 0), (0, .ref v0), (1, .int v1), (2, .int v2), (3, .int v3), (4, .int v4_3)]) C dX11_multiplies_46 (by decide) rfl ?_
  refine rx_lv [1, 2, 3, 4, 5, 0] rfl ?_
  refine lw_Mod_multiplies_48 hG hll C v0 m_v0 k_v0 v1 v2 v3 v4_3 _ _ _ _ hm (fun σ_30 hm => ?_)
  refine rx_aload_n C 0 dX11_multiplies_180 rfl ?_
  refine gf_844 C m_v0 k_v0 dX11_multiplies_181 hm (fun p_31 m_p_31 k_p_31 hm => ?_)
  refine rx_iload_n C 1 dX11_multiplies_184 rfl ?_
  refine rx_aload_n C 0 dX11_multiplies_185 rfl ?_
  refine gf_844 C m_v0 k_v0 dX11_multiplies_186 hm (fun p_32 m_p_32 k_p_32 hm => ?_)
  refine rx_iload_n C 2 dX11_multiplies_189 rfl ?_
  refine rx_iald C m_p_32 k_p_32 dX11_multiplies_190 hm (fun hm => ?_)
  refine rx_aload_n C 0 dX11_multiplies_191 rfl ?_
  refine gf_844 C m_v0 k_v0 dX11_multiplies_192 hm (fun p_33 m_p_33 k_p_33 hm => ?_)
  refine rx_iload_n C 3 dX11_multiplies_195 rfl ?_
  refine rx_iald C m_p_33 k_p_33 dX11_multiplies_196 hm (fun hm => ?_)
  refine rx_imul C dX11_multiplies_197 ?_
  refine rx_iast C m_p_31 k_p_31 dX11_multiplies_198 hm (fun σ_34 hm => ?_)
  refine rx_aload_n C 0 dX11_multiplies_199 rfl ?_
  refine rx_iload_n C 1 dX11_multiplies_200 rfl ?_
  refine rx_iload C 4 dX11_multiplies_201 rfl ?_
  obtain ⟨_, σ_35, hc_36, hm⟩ := rr_bd_some hm
  refine rr_callV (rest := []) (st1 := []) C 9 hll (c_Mod_trims l G hG fu v0 m_v0 k_v0 v1 v4_3 σ_34 _ hc_36) q_1009 q_1011 qs_53 q_11 q_1012 hd_Mod_trims ⟨_, rfl, rfl⟩ (by decide) m_v0 k_v0 ⟨by decide, by decide⟩ rfl rfl (Nat.le_of_ble_eq_true rfl) rfl dX11_multiplies_203 ?_
  exact rx_vret C dX11_multiplies_206 hm
def l_Mod_leaves_33 (fu : Nat) (N : Nat → Nat) (v0 : Nat) (v4 : Int32) (v6 : Int32) : Nat → Int32 → rr_M → (rr_M → Option (Int32 × rr_M)) → Option (Int32 × rr_M)
  | 0, _, _, _ => none
  | n + 1, v8, σ, kk =>
    if 9 ≤ v8 then (kk σ) else
    rr_lt (mg_r σ v0 6) fun p_7 =>
    (if rr_ix v4 (N p_7) then
    rr_jn (fun (σ_8 : rr_M) =>
    rr_lt (v8 + 1) fun v8_9 =>
    l_Mod_leaves_33 fu N v0 v4 v6 n v8_9 σ_8 kk) fun j85 =>
    if (mg_i σ p_7 (rr_n v4)) < v8 then (Option.bind (f_Mod_slot v6 v8) fun r_11 =>
    rr_bd (f_Mod_sets fu N v0 r_11 0 σ) fun _ σ_13 =>
    j85 σ_13) else
    Option.bind (f_Mod_slot v6 v8) fun r_15 =>
    Option.bind (f_Mod_slot v4 v8) fun r_17 =>
    rr_bd (f_Mod_copies fu N v0 r_15 r_17 σ) fun _ σ_19 =>
    j85 σ_19 else none)
theorem lw_Mod_leaves_33 {X : rr_X} {G : rr_G} {l : Launch} {fu : Nat} (hG : G.2.2.1.Nodup) (hll : X.2.1 = l) (C : rr_C X G cX11_leaves 12 "RootRowsModel" (some .boolean) 3 80) {r : Int32} {σr : rr_M} (v0 : Nat) (m_v0 : v0 ∈ G.2.2.1) (k_v0 : G.2.2.2.1 v0 = 9) (v2 : Int32) (v3 : Int32) (v4 : Int32) (v5 : Int32) (v6 : Int32) (v7 : Int32) : ∀ (n : Nat) (v8 : Int32) (σ : rr_M) (K : rr_M → Option (Int32 × rr_M)), l_Mod_leaves_33 fu G.2.2.2.2 v0 v4 v6 n v8 σ K = some (r, σr) → (∀ (σ1 : rr_M), K σ1 = some (r, σr) → rr_J X G 12 (rr_E X G σr (some (.int r))) σ1 91 [(0, .ref v0), (2, .int v2), (3, .int v3), (4, .int v4), (5, .int v5), (6, .int v6), (7, .int v7)] []) → rr_J X G 12 (rr_E X G σr (some (.int r))) σ 33 [(0, .ref v0), (2, .int v2), (3, .int v3), (4, .int v4), (5, .int v5), (6, .int v6), (7, .int v7), (8, .int v8)] [] := by
  intro n
  induction n with
  | zero =>
    intro v8 σ K hm
    cases hm
  | succ n ih =>
    intro v8 σ K hm hk
    unfold l_Mod_leaves_33 at hm
    refine rx_iload C 7 dX11_leaves_33 rfl ?_
    refine rx_bipush (v := 9) C dX11_leaves_35 rfl ?_
    refine rx_icmp_ge (tgt := 91) C dX11_leaves_37 (by decide) hm (fun h_6 hm => ?_) (fun h_6 hm => ?_)
    · refine rx_lv [0, 1, 2, 3, 4, 5, 6] rfl ?_
      exact hk _ hm
    refine rx_iload C 7 dX11_leaves_40 rfl ?_
    refine rx_aload_n C 0 dX11_leaves_42 rfl ?_
    refine gf_847 C m_v0 k_v0 dX11_leaves_43 hm (fun p_7 m_p_7 k_p_7 hm => ?_)
    refine rx_iload C 3 dX11_leaves_46 rfl ?_
    refine rx_iald C m_p_7 k_p_7 dX11_leaves_48 hm (fun hm => ?_)
    refine rr_jn1 hm (fun j85 ej85 hm => ?_)
    have hj85 : ∀ (σ_8 : rr_M), j85 σ_8 = some (r, σr) → rr_J X G 12 (rr_E X G σr (some (.int r))) σ_8 85 [(0, .ref v0), (2, .int v2), (3, .int v3), (4, .int v4), (5, .int v5), (6, .int v6), (7, .int v7), (8, .int v8)] [] := by
      intro σ_8 hm
      replace hm := ej85 _ hm
      refine rx_iinc (d := 1) (lv1 := fun v => [(8, .int v), (0, .ref v0), (2, .int v2), (3, .int v3), (4, .int v4), (5, .int v5), (6, .int v6), (7, .int v7)]) C 7 dX11_leaves_85 hm rfl rfl (by decide) (fun _ => rfl) (fun v8_9 hm => ?_)
      refine rx_goto (tgt := 33) C dX11_leaves_88 (by decide) ?_
      refine rx_lv [1, 2, 3, 4, 5, 6, 7, 0] rfl ?_
      exact ih _ _ _ hm hk
    refine rx_icmp_gt (tgt := 73) C dX11_leaves_49 (by decide) hm (fun h_10 hm => ?_) (fun h_10 hm => ?_)
    · refine rx_aload_n C 0 dX11_leaves_73 rfl ?_
      refine rx_iload C 5 dX11_leaves_74 rfl ?_
      refine rx_iload C 7 dX11_leaves_76 rfl ?_
      obtain ⟨r_11, hc_12, hm⟩ := rr_b0_some hm
      refine rr_callS (rest := [.ref v0]) (st1 := [.int r_11, .ref v0]) C hll (c_Mod_slot l G hG v6 v8 σ _ hc_12) q_989 q_990 q_11 q_991 hd_Mod_slot ⟨by decide, by decide⟩ rfl rfl (Nat.le_of_ble_eq_true rfl) rfl dX11_leaves_78 ?_
      refine rx_lconst (v := 0) C dX11_leaves_81 rfl ?_
      obtain ⟨_, σ_13, hc_14, hm⟩ := rr_bd_some hm
      refine rr_callV (rest := []) (st1 := []) C 9 hll (c_Mod_sets l G hG fu v0 m_v0 k_v0 r_11 0 σ _ hc_14) q_992 q_994 qs_49 q_11 q_995 hd_Mod_sets ⟨_, rfl, rfl⟩ (by decide) m_v0 k_v0 ⟨by decide, by decide⟩ rfl rfl (Nat.le_of_ble_eq_true rfl) rfl dX11_leaves_82 ?_
      refine rx_lv [0, 1, 2, 3, 4, 5, 6, 7] rfl ?_
      exact hj85 _ hm
    refine rx_aload_n C 0 dX11_leaves_52 rfl ?_
    refine rx_iload C 5 dX11_leaves_53 rfl ?_
    refine rx_iload C 7 dX11_leaves_55 rfl ?_
    obtain ⟨r_15, hc_16, hm⟩ := rr_b0_some hm
    refine rr_callS (rest := [.ref v0]) (st1 := [.int r_15, .ref v0]) C hll (c_Mod_slot l G hG v6 v8 σ _ hc_16) q_989 q_990 q_11 q_991 hd_Mod_slot ⟨by decide, by decide⟩ rfl rfl (Nat.le_of_ble_eq_true rfl) rfl dX11_leaves_57 ?_
    refine rx_iload C 3 dX11_leaves_60 rfl ?_
    refine rx_iload C 7 dX11_leaves_62 rfl ?_
    obtain ⟨r_17, hc_18, hm⟩ := rr_b0_some hm
    refine rr_callS (rest := [.int r_15, .ref v0]) (st1 := [.int r_17, .int r_15, .ref v0]) C hll (c_Mod_slot l G hG v4 v8 σ _ hc_18) q_989 q_990 q_11 q_991 hd_Mod_slot ⟨by decide, by decide⟩ rfl rfl (Nat.le_of_ble_eq_true rfl) rfl dX11_leaves_64 ?_
    obtain ⟨_, σ_19, hc_20, hm⟩ := rr_bd_some hm
    refine rr_callV (rest := []) (st1 := []) C 9 hll (c_Mod_copies l G hG fu v0 m_v0 k_v0 r_15 r_17 σ _ hc_20) q_1017 q_1019 qs_55 q_11 q_1020 hd_Mod_copies ⟨_, rfl, rfl⟩ (by decide) m_v0 k_v0 ⟨by decide, by decide⟩ rfl rfl (Nat.le_of_ble_eq_true rfl) rfl dX11_leaves_67 ?_
    refine rx_goto (tgt := 85) C dX11_leaves_70 (by decide) ?_
    refine rx_lv [0, 1, 2, 3, 4, 5, 6, 7] rfl ?_
    exact hj85 _ hm
def l_Mod_leaves_141 (fu : Nat) (N : Nat → Nat) (v0 : Nat) (v5 : Int32) (v6 : Int32) (v8 : Int32) (v9 : Int32) : Nat → Int32 → rr_M → (rr_M → Option (Int32 × rr_M)) → Option (Int32 × rr_M)
  | 0, _, _, _ => none
  | n + 1, v10, σ, kk =>
    if v9 ≤ v10 then (kk σ) else
    Option.bind (f_Mod_slot v6 v10) fun r_34 =>
    rr_bd (f_Mod_multiplies fu N v0 1 r_34 v8 σ) fun _ σ_36 =>
    rr_lt (mg_r σ_36 v0 6) fun p_38 =>
    (if rr_ix v5 (N p_38) then
    rr_lt (v10 - (v9 - (mg_i σ_36 p_38 (rr_n v5)))) fun v11_39 =>
    rr_jn (fun (σ_40 : rr_M) =>
    Option.bind (f_Mod_slot v6 v10) fun r_41 =>
    rr_bd (f_Mod_copies fu N v0 r_41 1 σ_40) fun _ σ_43 =>
    rr_lt (v10 + 1) fun v10_45 =>
    l_Mod_leaves_141 fu N v0 v5 v6 v8 v9 n v10_45 σ_43 kk) fun j203 =>
    if v11_39 < 0 then (j203 σ_36) else
    Option.bind (f_Mod_slot v5 v11_39) fun r_47 =>
    rr_bd (f_Mod_multiplies fu N v0 2 r_47 0 σ_36) fun _ σ_49 =>
    rr_bd (f_Mod_adds fu N v0 1 1 2 (-1) σ_49) fun _ σ_51 =>
    j203 σ_51 else none)
theorem lw_Mod_leaves_141 {X : rr_X} {G : rr_G} {l : Launch} {fu : Nat} (hG : G.2.2.1.Nodup) (hll : X.2.1 = l) (C : rr_C X G cX11_leaves 12 "RootRowsModel" (some .boolean) 3 80) {r : Int32} {σr : rr_M} (v0 : Nat) (m_v0 : v0 ∈ G.2.2.1) (k_v0 : G.2.2.2.1 v0 = 9) (v2 : Int32) (v3 : Int32) (v4 : Int32) (v5 : Int32) (v6 : Int32) (v7 : Int32) (v8 : Int32) (v9 : Int32) : ∀ (n : Nat) (v10 : Int32) (σ : rr_M) (K : rr_M → Option (Int32 × rr_M)), l_Mod_leaves_141 fu G.2.2.2.2 v0 v5 v6 v8 v9 n v10 σ K = some (r, σr) → (∀ (σ1 : rr_M), K σ1 = some (r, σr) → rr_J X G 12 (rr_E X G σr (some (.int r))) σ1 221 [(0, .ref v0), (2, .int v2), (3, .int v3), (4, .int v4), (5, .int v5), (6, .int v6), (7, .int v7), (8, .int v8), (9, .int v9)] []) → rr_J X G 12 (rr_E X G σr (some (.int r))) σ 141 [(0, .ref v0), (2, .int v2), (3, .int v3), (4, .int v4), (5, .int v5), (6, .int v6), (7, .int v7), (8, .int v8), (9, .int v9), (10, .int v10)] [] := by
  intro n
  induction n with
  | zero =>
    intro v10 σ K hm
    cases hm
  | succ n ih =>
    intro v10 σ K hm hk
    unfold l_Mod_leaves_141 at hm
    refine rx_iload C 9 dX11_leaves_141 rfl ?_
    refine rx_iload C 8 dX11_leaves_143 rfl ?_
    refine rx_icmp_ge (tgt := 221) C dX11_leaves_145 (by decide) hm (fun h_33 hm => ?_) (fun h_33 hm => ?_)
    · refine rx_lv [0, 1, 2, 3, 4, 5, 6, 7, 8] rfl ?_
      exact hk _ hm
    refine rx_aload_n C 0 dX11_leaves_148 rfl ?_
    refine rx_iconst (v := 1) C dX11_leaves_149 rfl ?_
    refine rx_iload C 5 dX11_leaves_150 rfl ?_
    refine rx_iload C 9 dX11_leaves_152 rfl ?_
    obtain ⟨r_34, hc_35, hm⟩ := rr_b0_some hm
    refine rr_callS (rest := [.int 1, .ref v0]) (st1 := [.int r_34, .int 1, .ref v0]) C hll (c_Mod_slot l G hG v6 v10 σ _ hc_35) q_989 q_990 q_11 q_991 hd_Mod_slot ⟨by decide, by decide⟩ rfl rfl (Nat.le_of_ble_eq_true rfl) rfl dX11_leaves_154 ?_
    refine rx_iload C 7 dX11_leaves_157 rfl ?_
    obtain ⟨_, σ_36, hc_37, hm⟩ := rr_bd_some hm
    refine rr_callV (rest := []) (st1 := []) C 9 hll (c_Mod_multiplies l G hG fu v0 m_v0 k_v0 1 r_34 v8 σ _ hc_37) q_1001 q_1003 qs_51 q_11 q_1004 hd_Mod_multiplies ⟨_, rfl, rfl⟩ (by decide) m_v0 k_v0 ⟨by decide, by decide⟩ rfl rfl (Nat.le_of_ble_eq_true rfl) rfl dX11_leaves_159 ?_
    refine rx_iload C 9 dX11_leaves_162 rfl ?_
    refine rx_iload C 8 dX11_leaves_164 rfl ?_
    refine rx_aload_n C 0 dX11_leaves_166 rfl ?_
    refine gf_847 C m_v0 k_v0 dX11_leaves_167 hm (fun p_38 m_p_38 k_p_38 hm => ?_)
    refine rx_iload C 4 dX11_leaves_170 rfl ?_
    refine rx_iald C m_p_38 k_p_38 dX11_leaves_172 hm (fun hm => ?_)
    refine rx_isub C dX11_leaves_173 ?_
    refine rx_isub C dX11_leaves_174 ?_
    refine rx_nmi hm (fun v11_39 ev11_39 hm => ?_)
    refine rx_istore (lv1 := [(11, .int v11_39), (0, .ref v0), (2, .int v2), (3, .int v3), (4, .int v4), (5, .int v5), (6, .int v6), (7, .int v7), (8, .int v8), (9, .int v9), (10, .int v10)]) C dX11_leaves_175 (by decide) rfl ?_
    refine rx_iload C 0 dX11_leaves_177 rfl ?_
    refine rr_jn1 hm (fun j203 ej203 hm => ?_)
    have hj203 : ∀ (σ_40 : rr_M), j203 σ_40 = some (r, σr) → rr_J X G 12 (rr_E X G σr (some (.int r))) σ_40 203 [(0, .ref v0), (2, .int v2), (3, .int v3), (4, .int v4), (5, .int v5), (6, .int v6), (7, .int v7), (8, .int v8), (9, .int v9), (10, .int v10)] [] := by
      intro σ_40 hm
      replace hm := ej203 _ hm
      refine rx_aload_n C 0 dX11_leaves_203 rfl ?_
      refine rx_iload C 5 dX11_leaves_204 rfl ?_
      refine rx_iload C 9 dX11_leaves_206 rfl ?_
      obtain ⟨r_41, hc_42, hm⟩ := rr_b0_some hm
      refine rr_callS (rest := [.ref v0]) (st1 := [.int r_41, .ref v0]) C hll (c_Mod_slot l G hG v6 v10 σ_40 _ hc_42) q_989 q_990 q_11 q_991 hd_Mod_slot ⟨by decide, by decide⟩ rfl rfl (Nat.le_of_ble_eq_true rfl) rfl dX11_leaves_208 ?_
      refine rx_iconst (v := 1) C dX11_leaves_211 rfl ?_
      obtain ⟨_, σ_43, hc_44, hm⟩ := rr_bd_some hm
      refine rr_callV (rest := []) (st1 := []) C 9 hll (c_Mod_copies l G hG fu v0 m_v0 k_v0 r_41 1 σ_40 _ hc_44) q_1017 q_1019 qs_55 q_11 q_1020 hd_Mod_copies ⟨_, rfl, rfl⟩ (by decide) m_v0 k_v0 ⟨by decide, by decide⟩ rfl rfl (Nat.le_of_ble_eq_true rfl) rfl dX11_leaves_212 ?_
      refine rx_iinc (d := 1) (lv1 := fun v => [(10, .int v), (0, .ref v0), (2, .int v2), (3, .int v3), (4, .int v4), (5, .int v5), (6, .int v6), (7, .int v7), (8, .int v8), (9, .int v9)]) C 9 dX11_leaves_215 hm rfl rfl (by decide) (fun _ => rfl) (fun v10_45 hm => ?_)
      refine rx_goto (tgt := 141) C dX11_leaves_218 (by decide) ?_
      refine rx_lv [1, 2, 3, 4, 5, 6, 7, 8, 9, 0] rfl ?_
      exact ih _ _ _ hm hk
    refine rx_if_lt (tgt := 203) C dX11_leaves_179 (by decide) hm (fun h_46 hm => ?_) (fun h_46 hm => ?_)
    · refine rx_lv [1, 2, 3, 4, 5, 6, 7, 8, 9, 10] rfl ?_
      exact hj203 _ hm
    refine rx_aload_n C 1 dX11_leaves_182 rfl ?_
    refine rx_iconst (v := 2) C dX11_leaves_183 rfl ?_
    refine rx_iload C 5 dX11_leaves_184 rfl ?_
    refine rx_iload C 0 dX11_leaves_186 rfl ?_
    obtain ⟨r_47, hc_48, hm⟩ := rr_b0_some hm
    refine rr_callS (rest := [.int 2, .ref v0]) (st1 := [.int r_47, .int 2, .ref v0]) C hll (c_Mod_slot l G hG v5 v11_39 σ_36 _ hc_48) q_989 q_990 q_11 q_991 hd_Mod_slot ⟨by decide, by decide⟩ rfl rfl (Nat.le_of_ble_eq_true rfl) rfl dX11_leaves_188 ?_
    refine rx_iconst (v := 0) C dX11_leaves_191 rfl ?_
    obtain ⟨_, σ_49, hc_50, hm⟩ := rr_bd_some hm
    refine rr_callV (rest := []) (st1 := []) C 9 hll (c_Mod_multiplies l G hG fu v0 m_v0 k_v0 2 r_47 0 σ_36 _ hc_50) q_1001 q_1003 qs_51 q_11 q_1004 hd_Mod_multiplies ⟨_, rfl, rfl⟩ (by decide) m_v0 k_v0 ⟨by decide, by decide⟩ rfl rfl (Nat.le_of_ble_eq_true rfl) rfl dX11_leaves_192 ?_
    refine rx_aload_n C 1 dX11_leaves_195 rfl ?_
    refine rx_iconst (v := 1) C dX11_leaves_196 rfl ?_
    refine rx_iconst (v := 1) C dX11_leaves_197 rfl ?_
    refine rx_iconst (v := 2) C dX11_leaves_198 rfl ?_
    refine rx_iconst (v := (-1)) C dX11_leaves_199 rfl ?_
    obtain ⟨_, σ_51, hc_52, hm⟩ := rr_bd_some hm
    refine rr_callV (rest := []) (st1 := []) C 9 hll (c_Mod_adds l G hG fu v0 m_v0 k_v0 1 1 2 (-1) σ_49 _ hc_52) q_1013 q_1015 qs_54 q_11 q_1016 hd_Mod_adds ⟨_, rfl, rfl⟩ (by decide) m_v0 k_v0 ⟨by decide, by decide⟩ rfl rfl (Nat.le_of_ble_eq_true rfl) rfl dX11_leaves_200 ?_
    refine rx_lv [1, 2, 3, 4, 5, 6, 7, 8, 9, 10] rfl ?_
    exact hj203 _ hm
def l_Mod_leaves_114 (fu : Nat) (N : Nat → Nat) (v0 : Nat) (v5 : Int32) (v6 : Int32) (v8 : Int32) : Nat → Int32 → rr_M → (rr_M → Option (Int32 × rr_M)) → Option (Int32 × rr_M)
  | 0, _, _, _ => none
  | n + 1, v9, σ, kk =>
    rr_lt (mg_r σ v0 6) fun p_27 =>
    (if rr_ix v5 (N p_27) then
    if v9 < (mg_i σ p_27 (rr_n v5)) then (kk σ) else
    Option.bind (f_Mod_slot v6 v9) fun r_29 =>
    rr_bd (f_Mod_copies fu N v0 0 r_29 σ) fun _ σ_31 =>
    l_Mod_leaves_141 fu N v0 v5 v6 v8 v9 fu 0 σ_31 (fun σ_53 =>
    Option.bind (f_Mod_slot v6 v9) fun r_54 =>
    rr_bd (f_Mod_sets fu N v0 r_54 0 σ_53) fun _ σ_56 =>
    rr_lt (v9 + (-1)) fun v9_58 =>
    l_Mod_leaves_114 fu N v0 v5 v6 v8 n v9_58 σ_56 kk) else none)
theorem lw_Mod_leaves_114 {X : rr_X} {G : rr_G} {l : Launch} {fu : Nat} (hG : G.2.2.1.Nodup) (hll : X.2.1 = l) (C : rr_C X G cX11_leaves 12 "RootRowsModel" (some .boolean) 3 80) {r : Int32} {σr : rr_M} (v0 : Nat) (m_v0 : v0 ∈ G.2.2.1) (k_v0 : G.2.2.2.1 v0 = 9) (v2 : Int32) (v3 : Int32) (v4 : Int32) (v5 : Int32) (v6 : Int32) (v7 : Int32) (v8 : Int32) : ∀ (n : Nat) (v9 : Int32) (σ : rr_M) (K : rr_M → Option (Int32 × rr_M)), l_Mod_leaves_114 fu G.2.2.2.2 v0 v5 v6 v8 n v9 σ K = some (r, σr) → (∀ (σ1 : rr_M), K σ1 = some (r, σr) → rr_J X G 12 (rr_E X G σr (some (.int r))) σ1 239 [(0, .ref v0), (2, .int v2), (3, .int v3), (4, .int v4), (5, .int v5), (6, .int v6), (7, .int v7), (8, .int v8)] []) → rr_J X G 12 (rr_E X G σr (some (.int r))) σ 114 [(0, .ref v0), (2, .int v2), (3, .int v3), (4, .int v4), (5, .int v5), (6, .int v6), (7, .int v7), (8, .int v8), (9, .int v9)] [] := by
  intro n
  induction n with
  | zero =>
    intro v9 σ K hm
    cases hm
  | succ n ih =>
    intro v9 σ K hm hk
    unfold l_Mod_leaves_114 at hm
    refine rx_iload C 8 dX11_leaves_114 rfl ?_
    refine rx_aload_n C 0 dX11_leaves_116 rfl ?_
    refine gf_847 C m_v0 k_v0 dX11_leaves_117 hm (fun p_27 m_p_27 k_p_27 hm => ?_)
    refine rx_iload C 4 dX11_leaves_120 rfl ?_
    refine rx_iald C m_p_27 k_p_27 dX11_leaves_122 hm (fun hm => ?_)
    refine rx_icmp_lt (tgt := 239) C dX11_leaves_123 (by decide) hm (fun h_28 hm => ?_) (fun h_28 hm => ?_)
    · refine rx_lv [0, 1, 2, 3, 4, 5, 6, 7] rfl ?_
      exact hk _ hm
    refine rx_aload_n C 0 dX11_leaves_126 rfl ?_
    refine rx_iconst (v := 0) C dX11_leaves_127 rfl ?_
    refine rx_iload C 5 dX11_leaves_128 rfl ?_
    refine rx_iload C 8 dX11_leaves_130 rfl ?_
    obtain ⟨r_29, hc_30, hm⟩ := rr_b0_some hm
    refine rr_callS (rest := [.int 0, .ref v0]) (st1 := [.int r_29, .int 0, .ref v0]) C hll (c_Mod_slot l G hG v6 v9 σ _ hc_30) q_989 q_990 q_11 q_991 hd_Mod_slot ⟨by decide, by decide⟩ rfl rfl (Nat.le_of_ble_eq_true rfl) rfl dX11_leaves_132 ?_
    obtain ⟨_, σ_31, hc_32, hm⟩ := rr_bd_some hm
    refine rr_callV (rest := []) (st1 := []) C 9 hll (c_Mod_copies l G hG fu v0 m_v0 k_v0 0 r_29 σ _ hc_32) q_1017 q_1019 qs_55 q_11 q_1020 hd_Mod_copies ⟨_, rfl, rfl⟩ (by decide) m_v0 k_v0 ⟨by decide, by decide⟩ rfl rfl (Nat.le_of_ble_eq_true rfl) rfl dX11_leaves_135 ?_
    refine rx_iconst (v := 0) C dX11_leaves_138 rfl ?_
    refine rx_istore (lv1 := [(10, .int 0), (0, .ref v0), (2, .int v2), (3, .int v3), (4, .int v4), (5, .int v5), (6, .int v6), (7, .int v7), (8, .int v8), (9, .int v9)]) C dX11_leaves_139 (by decide) rfl ?_
    refine rx_lv [1, 2, 3, 4, 5, 6, 7, 8, 9, 0] rfl ?_
    refine lw_Mod_leaves_141 hG hll C v0 m_v0 k_v0 v2 v3 v4 v5 v6 v7 v8 v9 _ _ _ _ hm (fun σ_53 hm => ?_)
    refine rx_aload_n C 0 dX11_leaves_221 rfl ?_
    refine rx_iload C 5 dX11_leaves_222 rfl ?_
    refine rx_iload C 8 dX11_leaves_224 rfl ?_
    obtain ⟨r_54, hc_55, hm⟩ := rr_b0_some hm
    refine rr_callS (rest := [.ref v0]) (st1 := [.int r_54, .ref v0]) C hll (c_Mod_slot l G hG v6 v9 σ_53 _ hc_55) q_989 q_990 q_11 q_991 hd_Mod_slot ⟨by decide, by decide⟩ rfl rfl (Nat.le_of_ble_eq_true rfl) rfl dX11_leaves_226 ?_
    refine rx_lconst (v := 0) C dX11_leaves_229 rfl ?_
    obtain ⟨_, σ_56, hc_57, hm⟩ := rr_bd_some hm
    refine rr_callV (rest := []) (st1 := []) C 9 hll (c_Mod_sets l G hG fu v0 m_v0 k_v0 r_54 0 σ_53 _ hc_57) q_992 q_994 qs_49 q_11 q_995 hd_Mod_sets ⟨_, rfl, rfl⟩ (by decide) m_v0 k_v0 ⟨by decide, by decide⟩ rfl rfl (Nat.le_of_ble_eq_true rfl) rfl dX11_leaves_230 ?_
    refine rx_iinc (d := (-1)) (lv1 := fun v => [(9, .int v), (0, .ref v0), (2, .int v2), (3, .int v3), (4, .int v4), (5, .int v5), (6, .int v6), (7, .int v7), (8, .int v8)]) C 8 dX11_leaves_233 hm rfl rfl (by decide) (fun _ => rfl) (fun v9_58 hm => ?_)
    refine rx_goto (tgt := 114) C dX11_leaves_236 (by decide) ?_
    refine rx_lv [1, 2, 3, 4, 5, 6, 7, 8, 0] rfl ?_
    exact ih _ _ _ hm hk
def l_Mod_leaves_248 (fu : Nat) (N : Nat → Nat) (v0 : Nat) (v3 : Int32) (v7 : Int32) : Nat → Int32 → rr_M → (rr_M → Option (Int32 × rr_M)) → Option (Int32 × rr_M)
  | 0, _, _, _ => none
  | n + 1, v9, σ, kk =>
    if v7 ≤ v9 then (kk σ) else
    rr_bd (f_Mod_multiplies fu N v0 4 3 v3 σ) fun _ σ_63 =>
    rr_bd (f_Mod_copies fu N v0 3 4 σ_63) fun _ σ_65 =>
    rr_lt (v9 + 1) fun v9_67 =>
    l_Mod_leaves_248 fu N v0 v3 v7 n v9_67 σ_65 kk
theorem lw_Mod_leaves_248 {X : rr_X} {G : rr_G} {l : Launch} {fu : Nat} (hG : G.2.2.1.Nodup) (hll : X.2.1 = l) (C : rr_C X G cX11_leaves 12 "RootRowsModel" (some .boolean) 3 80) {r : Int32} {σr : rr_M} (v0 : Nat) (m_v0 : v0 ∈ G.2.2.1) (k_v0 : G.2.2.2.1 v0 = 9) (v3 : Int32) (v4 : Int32) (v5 : Int32) (v6 : Int32) (v7 : Int32) (v8 : Int32) : ∀ (n : Nat) (v9 : Int32) (σ : rr_M) (K : rr_M → Option (Int32 × rr_M)), l_Mod_leaves_248 fu G.2.2.2.2 v0 v3 v7 n v9 σ K = some (r, σr) → (∀ (σ1 : rr_M), K σ1 = some (r, σr) → rr_J X G 12 (rr_E X G σr (some (.int r))) σ1 274 [(0, .ref v0), (4, .int v4), (5, .int v5), (6, .int v6), (7, .int v7), (8, .int v8)] []) → rr_J X G 12 (rr_E X G σr (some (.int r))) σ 248 [(0, .ref v0), (3, .int v3), (4, .int v4), (5, .int v5), (6, .int v6), (7, .int v7), (8, .int v8), (9, .int v9)] [] := by
  intro n
  induction n with
  | zero =>
    intro v9 σ K hm
    cases hm
  | succ n ih =>
    intro v9 σ K hm hk
    unfold l_Mod_leaves_248 at hm
    refine rx_iload C 7 dX11_leaves_248 rfl ?_
    refine rx_iload C 5 dX11_leaves_250 rfl ?_
    refine rx_icmp_ge (tgt := 274) C dX11_leaves_252 (by decide) hm (fun h_62 hm => ?_) (fun h_62 hm => ?_)
    · refine rx_lv [0, 2, 3, 4, 5, 6] rfl ?_
      exact hk _ hm
    refine rx_aload_n C 0 dX11_leaves_255 rfl ?_
    refine rx_iconst (v := 4) C dX11_leaves_256 rfl ?_
    refine rx_iconst (v := 3) C dX11_leaves_257 rfl ?_
    refine rx_iload_n C 1 dX11_leaves_258 rfl ?_
    obtain ⟨_, σ_63, hc_64, hm⟩ := rr_bd_some hm
    refine rr_callV (rest := []) (st1 := []) C 9 hll (c_Mod_multiplies l G hG fu v0 m_v0 k_v0 4 3 v3 σ _ hc_64) q_1001 q_1003 qs_51 q_11 q_1004 hd_Mod_multiplies ⟨_, rfl, rfl⟩ (by decide) m_v0 k_v0 ⟨by decide, by decide⟩ rfl rfl (Nat.le_of_ble_eq_true rfl) rfl dX11_leaves_259 ?_
    refine rx_aload_n C 0 dX11_leaves_262 rfl ?_
    refine rx_iconst (v := 3) C dX11_leaves_263 rfl ?_
    refine rx_iconst (v := 4) C dX11_leaves_264 rfl ?_
    obtain ⟨_, σ_65, hc_66, hm⟩ := rr_bd_some hm
    refine rr_callV (rest := []) (st1 := []) C 9 hll (c_Mod_copies l G hG fu v0 m_v0 k_v0 3 4 σ_63 _ hc_66) q_1017 q_1019 qs_55 q_11 q_1020 hd_Mod_copies ⟨_, rfl, rfl⟩ (by decide) m_v0 k_v0 ⟨by decide, by decide⟩ rfl rfl (Nat.le_of_ble_eq_true rfl) rfl dX11_leaves_265 ?_
    refine rx_iinc (d := 1) (lv1 := fun v => [(9, .int v), (0, .ref v0), (3, .int v3), (4, .int v4), (5, .int v5), (6, .int v6), (7, .int v7), (8, .int v8)]) C 7 dX11_leaves_268 hm rfl rfl (by decide) (fun _ => rfl) (fun v9_67 hm => ?_)
    refine rx_goto (tgt := 248) C dX11_leaves_271 (by decide) ?_
    refine rx_lv [1, 2, 3, 4, 5, 6, 7, 0] rfl ?_
    exact ih _ _ _ hm hk
def l_Mod_leaves_285 (fu : Nat) (N : Nat → Nat) (v0 : Nat) (v5 : Int32) (v6 : Int32) : Nat → Int32 → rr_M → (rr_M → Option (Int32 × rr_M)) → Option (Int32 × rr_M)
  | 0, _, _, _ => none
  | n + 1, v10, σ, kk =>
    rr_lt (mg_r σ v0 6) fun p_71 =>
    (if rr_ix v5 (N p_71) then
    if (mg_i σ p_71 (rr_n v5)) ≤ v10 then (kk σ) else
    Option.bind (f_Mod_slot v6 v10) fun r_73 =>
    rr_bd (f_Mod_parts fu N v0 4 5 r_73 3 σ) fun _ σ_75 =>
    Option.bind (f_Mod_slot v6 v10) fun r_77 =>
    rr_bd (f_Mod_copies fu N v0 r_77 4 σ_75) fun _ σ_79 =>
    rr_lt (v10 + 1) fun v10_81 =>
    l_Mod_leaves_285 fu N v0 v5 v6 n v10_81 σ_79 kk else none)
theorem lw_Mod_leaves_285 {X : rr_X} {G : rr_G} {l : Launch} {fu : Nat} (hG : G.2.2.1.Nodup) (hll : X.2.1 = l) (C : rr_C X G cX11_leaves 12 "RootRowsModel" (some .boolean) 3 80) {r : Int32} {σr : rr_M} (v0 : Nat) (m_v0 : v0 ∈ G.2.2.1) (k_v0 : G.2.2.2.1 v0 = 9) (v4 : Int32) (v5 : Int32) (v6 : Int32) (v7 : Int32) (v8 : Int32) (v9 : Int32) : ∀ (n : Nat) (v10 : Int32) (σ : rr_M) (K : rr_M → Option (Int32 × rr_M)), l_Mod_leaves_285 fu G.2.2.2.2 v0 v5 v6 n v10 σ K = some (r, σr) → (∀ (σ1 : rr_M), K σ1 = some (r, σr) → rr_J X G 12 (rr_E X G σr (some (.int r))) σ1 329 [(0, .ref v0), (4, .int v4), (5, .int v5), (6, .int v6), (7, .int v7), (8, .int v8), (9, .int v9)] []) → rr_J X G 12 (rr_E X G σr (some (.int r))) σ 285 [(0, .ref v0), (4, .int v4), (5, .int v5), (6, .int v6), (7, .int v7), (8, .int v8), (9, .int v9), (10, .int v10)] [] := by
  intro n
  induction n with
  | zero =>
    intro v10 σ K hm
    cases hm
  | succ n ih =>
    intro v10 σ K hm hk
    unfold l_Mod_leaves_285 at hm
    refine rx_iload C 7 dX11_leaves_285 rfl ?_
    refine rx_aload_n C 0 dX11_leaves_287 rfl ?_
    refine gf_847 C m_v0 k_v0 dX11_leaves_288 hm (fun p_71 m_p_71 k_p_71 hm => ?_)
    refine rx_iload C 2 dX11_leaves_291 rfl ?_
    refine rx_iald C m_p_71 k_p_71 dX11_leaves_293 hm (fun hm => ?_)
    refine rx_icmp_ge (tgt := 329) C dX11_leaves_294 (by decide) hm (fun h_72 hm => ?_) (fun h_72 hm => ?_)
    · refine rx_lv [0, 1, 2, 3, 4, 5, 6] rfl ?_
      exact hk _ hm
    refine rx_aload_n C 0 dX11_leaves_297 rfl ?_
    refine rx_iconst (v := 4) C dX11_leaves_298 rfl ?_
    refine rx_iconst (v := 5) C dX11_leaves_299 rfl ?_
    refine rx_iload C 3 dX11_leaves_300 rfl ?_
    refine rx_iload C 7 dX11_leaves_302 rfl ?_
    obtain ⟨r_73, hc_74, hm⟩ := rr_b0_some hm
    refine rr_callS (rest := [.int 5, .int 4, .ref v0]) (st1 := [.int r_73, .int 5, .int 4, .ref v0]) C hll (c_Mod_slot l G hG v6 v10 σ _ hc_74) q_989 q_990 q_11 q_991 hd_Mod_slot ⟨by decide, by decide⟩ rfl rfl (Nat.le_of_ble_eq_true rfl) rfl dX11_leaves_304 ?_
    refine rx_iconst (v := 3) C dX11_leaves_307 rfl ?_
    obtain ⟨_, σ_75, hc_76, hm⟩ := rr_bd_some hm
    refine rr_callV (rest := []) (st1 := []) C 9 hll (c_Mod_parts l G hG fu v0 m_v0 k_v0 4 5 r_73 3 σ _ hc_76) q_1079 q_1081 qs_66 q_11 q_1082 hd_Mod_parts ⟨_, rfl, rfl⟩ (by decide) m_v0 k_v0 ⟨by decide, by decide⟩ rfl rfl (Nat.le_of_ble_eq_true rfl) rfl dX11_leaves_308 ?_
    refine rx_aload_n C 0 dX11_leaves_311 rfl ?_
    refine rx_iload C 3 dX11_leaves_312 rfl ?_
    refine rx_iload C 7 dX11_leaves_314 rfl ?_
    obtain ⟨r_77, hc_78, hm⟩ := rr_b0_some hm
    refine rr_callS (rest := [.ref v0]) (st1 := [.int r_77, .ref v0]) C hll (c_Mod_slot l G hG v6 v10 σ_75 _ hc_78) q_989 q_990 q_11 q_991 hd_Mod_slot ⟨by decide, by decide⟩ rfl rfl (Nat.le_of_ble_eq_true rfl) rfl dX11_leaves_316 ?_
    refine rx_iconst (v := 4) C dX11_leaves_319 rfl ?_
    obtain ⟨_, σ_79, hc_80, hm⟩ := rr_bd_some hm
    refine rr_callV (rest := []) (st1 := []) C 9 hll (c_Mod_copies l G hG fu v0 m_v0 k_v0 r_77 4 σ_75 _ hc_80) q_1017 q_1019 qs_55 q_11 q_1020 hd_Mod_copies ⟨_, rfl, rfl⟩ (by decide) m_v0 k_v0 ⟨by decide, by decide⟩ rfl rfl (Nat.le_of_ble_eq_true rfl) rfl dX11_leaves_320 ?_
    refine rx_iinc (d := 1) (lv1 := fun v => [(10, .int v), (0, .ref v0), (4, .int v4), (5, .int v5), (6, .int v6), (7, .int v7), (8, .int v8), (9, .int v9)]) C 7 dX11_leaves_323 hm rfl rfl (by decide) (fun _ => rfl) (fun v10_81 hm => ?_)
    refine rx_goto (tgt := 285) C dX11_leaves_326 (by decide) ?_
    refine rx_lv [1, 2, 3, 4, 5, 6, 7, 0] rfl ?_
    exact ih _ _ _ hm hk
def f_Mod_leaves (fu : Nat) (N : Nat → Nat) (v0 : Nat) (v1 : Int32) (v2 : Int32) (v3 : Int32) (σ : rr_M) : Option (Int32 × rr_M) :=
    rr_lt (v1 + 1) fun v5_1 =>
    rr_lt (v1 + 2) fun v6_2 =>
    rr_lt (mg_r σ v0 6) fun p_3 =>
    (if rr_ix v1 (N p_3) then
    rr_lt (mg_r σ v0 6) fun p_4 =>
    (if rr_ix v5_1 (N p_4) then
    rr_lt ((mg_i σ p_3 (rr_n v1)) - (mg_i σ p_4 (rr_n v5_1))) fun v7_5 =>
    l_Mod_leaves_33 fu N v0 v1 v6_2 fu 0 σ (fun σ_21 =>
    rr_lt (mg_r σ_21 v0 6) fun p_22 =>
    (if rr_ix v5_1 (N p_22) then
    Option.bind (f_Mod_slot v5_1 (mg_i σ_21 p_22 (rr_n v5_1))) fun r_23 =>
    rr_lt (mg_r σ_21 v0 6) fun p_25 =>
    (if rr_ix v1 (N p_25) then
    rr_lt (mg_i σ_21 p_25 (rr_n v1)) fun v9_26 =>
    l_Mod_leaves_114 fu N v0 v5_1 v6_2 r_23 fu v9_26 σ_21 (fun σ_59 =>
    rr_bd (f_Mod_copies fu N v0 3 v2 σ_59) fun _ σ_60 =>
    l_Mod_leaves_248 fu N v0 v3 v7_5 fu 0 σ_60 (fun σ_68 =>
    rr_lt (mg_r σ_68 v0 3) fun p_69 =>
    (if rr_ix 3 (N p_69) then
    rr_lt (mg_i σ_68 p_69 (rr_n 3)) fun v9_70 =>
    l_Mod_leaves_285 fu N v0 v5_1 v6_2 fu 0 σ_68 (fun σ_82 =>
    rr_lt (mg_r σ_82 v0 6) fun p_83 =>
    rr_lt (mg_r σ_82 v0 6) fun p_84 =>
    (if rr_ix v5_1 (N p_84) then
    Option.bind (f_Mod_degreeOfRow fu N v0 v6_2 ((mg_i σ_82 p_84 (rr_n v5_1)) - 1) σ_82) fun r_85 =>
    (if rr_ix v6_2 (N p_83) then rr_lt (ms_i σ_82 p_83 (rr_n v6_2) r_85) fun σ_87 =>
    rr_jn (fun (t_88 : Int32) =>
    rr_lt (mg_r σ_87 v0 7) fun p_89 =>
    rr_lt (mg_r σ_87 v0 7) fun p_90 =>
    (if rr_ix v1 (N p_90) then
    (if rr_ix v6_2 (N p_89) then rr_lt (ms_i σ_87 p_89 (rr_n v6_2) (((-t_88) * (mg_i σ_87 p_90 (rr_n v1))) * v9_70)) fun σ_91 =>
    rr_lt (mg_r σ_91 v0 6) fun p_92 =>
    (if rr_ix v6_2 (N p_92) then
    if (mg_i σ_91 p_92 (rr_n v6_2)) < 0 then (if rr_b1 0 then some (0, σ_91) else none) else
    if rr_b1 1 then some (1, σ_91) else none else none) else none) else none)) fun j369 =>
    if (v7_5 - v7_5 / 2 * 2) = 0 then (rr_lt (mg_r σ_87 v0 3) fun p_95 =>
    (if rr_ix r_23 (N p_95) then
    j369 (mg_i σ_87 p_95 (rr_n r_23)) else none)) else
    j369 1 else none) else none)) else none))) else none) else none)) else none) else none)
theorem c_Mod_leaves (l : Launch) (G : rr_G) (hG : G.2.2.1.Nodup) (fu : Nat) (v0 : Nat) (m_v0 : v0 ∈ G.2.2.1) (k_v0 : G.2.2.2.1 v0 = 9) (v1 : Int32) (v2 : Int32) (v3 : Int32) (σ : rr_M) (r : Int32) (σr : rr_M) (hm : f_Mod_leaves fu G.2.2.2.2 v0 v1 v2 v3 σ = some (r, σr)) : rr_Met l G yX11_leaves cX11_leaves 12 (some .boolean) 3 80 [.ref v0, .int v1, .int v2, .int v3] σ σr (some (.int r)) := by
  refine rr_enter (lv0 := [(0, .ref v0), (1, .int v1), (2, .int v2), (3, .int v3)]) hp_Mod_leaves hG (Nat.le_of_ble_eq_true rfl) rfl (fun X hll C => ?_)
  replace C : rr_C X G cX11_leaves 12 "RootRowsModel" (some .boolean) 3 80 := C
  unfold f_Mod_leaves at hm
  refine rx_iload_n C 1 dX11_leaves_0 rfl ?_
  refine rx_istore (lv1 := [(4, .int v1), (0, .ref v0), (1, .int v1), (2, .int v2), (3, .int v3)]) C dX11_leaves_1 (by decide) rfl ?_
  refine rx_iload_n C 2 dX11_leaves_3 rfl ?_
  refine rx_iconst (v := 1) C dX11_leaves_4 rfl ?_
  refine rx_iadd C dX11_leaves_5 ?_
  refine rx_nmi hm (fun v5_1 ev5_1 hm => ?_)
  refine rx_istore (lv1 := [(5, .int v5_1), (4, .int v1), (0, .ref v0), (1, .int v1), (2, .int v2), (3, .int v3)]) C dX11_leaves_6 (by decide) rfl ?_
  refine rx_iload_n C 3 dX11_leaves_8 rfl ?_
  refine rx_iconst (v := 2) C dX11_leaves_9 rfl ?_
  refine rx_iadd C dX11_leaves_10 ?_
  refine rx_nmi hm (fun v6_2 ev6_2 hm => ?_)
  refine rx_istore (lv1 := [(6, .int v6_2), (5, .int v5_1), (4, .int v1), (0, .ref v0), (1, .int v1), (2, .int v2), (3, .int v3)]) C dX11_leaves_11 (by decide) rfl ?_
  refine rx_aload_n C 3 dX11_leaves_13 rfl ?_
  refine gf_847 C m_v0 k_v0 dX11_leaves_14 hm (fun p_3 m_p_3 k_p_3 hm => ?_)
  refine rx_iload C 2 dX11_leaves_17 rfl ?_
  refine rx_iald C m_p_3 k_p_3 dX11_leaves_19 hm (fun hm => ?_)
  refine rx_aload_n C 3 dX11_leaves_20 rfl ?_
  refine gf_847 C m_v0 k_v0 dX11_leaves_21 hm (fun p_4 m_p_4 k_p_4 hm => ?_)
  refine rx_iload C 1 dX11_leaves_24 rfl ?_
  refine rx_iald C m_p_4 k_p_4 dX11_leaves_26 hm (fun hm => ?_)
  refine rx_isub C dX11_leaves_27 ?_
  refine rx_nmi hm (fun v7_5 ev7_5 hm => ?_)
  refine rx_istore (lv1 := [(7, .int v7_5), (6, .int v6_2), (5, .int v5_1), (4, .int v1), (0, .ref v0), (1, .int v1), (2, .int v2), (3, .int v3)]) C dX11_leaves_28 (by decide) rfl ?_
  refine rx_iconst (v := 0) C dX11_leaves_30 rfl ?_
  refine rx_istore (lv1 := [(8, .int 0), (7, .int v7_5), (6, .int v6_2), (5, .int v5_1), (4, .int v1), (0, .ref v0), (1, .int v1), (2, .int v2), (3, .int v3)]) C dX11_leaves_31 (by decide) rfl ?_
  refine rx_lv [5, 7, 8, 4, 3, 2, 1, 0] rfl ?_
  refine lw_Mod_leaves_33 hG hll C v0 m_v0 k_v0 v2 v3 v1 v5_1 v6_2 v7_5 _ _ _ _ hm (fun σ_21 hm => ?_)
  refine rx_iload C 4 dX11_leaves_91 rfl ?_
  refine rx_aload_n C 0 dX11_leaves_93 rfl ?_
  refine gf_847 C m_v0 k_v0 dX11_leaves_94 hm (fun p_22 m_p_22 k_p_22 hm => ?_)
  refine rx_iload C 4 dX11_leaves_97 rfl ?_
  refine rx_iald C m_p_22 k_p_22 dX11_leaves_99 hm (fun hm => ?_)
  obtain ⟨r_23, hc_24, hm⟩ := rr_b0_some hm
  refine rr_callS (rest := []) (st1 := [.int r_23]) C hll (c_Mod_slot l G hG v5_1 (mg_i σ_21 p_22 (rr_n v5_1)) σ_21 _ hc_24) q_989 q_990 q_11 q_991 hd_Mod_slot ⟨by decide, by decide⟩ rfl rfl (Nat.le_of_ble_eq_true rfl) rfl dX11_leaves_100 ?_
  refine rx_istore (lv1 := [(8, .int r_23), (0, .ref v0), (2, .int v2), (3, .int v3), (4, .int v1), (5, .int v5_1), (6, .int v6_2), (7, .int v7_5)]) C dX11_leaves_103 (by decide) rfl ?_
  refine rx_aload_n C 1 dX11_leaves_105 rfl ?_
  refine gf_847 C m_v0 k_v0 dX11_leaves_106 hm (fun p_25 m_p_25 k_p_25 hm => ?_)
  refine rx_iload C 4 dX11_leaves_109 rfl ?_
  refine rx_iald C m_p_25 k_p_25 dX11_leaves_111 hm (fun hm => ?_)
  refine rx_nmi hm (fun v9_26 ev9_26 hm => ?_)
  refine rx_istore (lv1 := [(9, .int v9_26), (8, .int r_23), (0, .ref v0), (2, .int v2), (3, .int v3), (4, .int v1), (5, .int v5_1), (6, .int v6_2), (7, .int v7_5)]) C dX11_leaves_112 (by decide) rfl ?_
  refine rx_lv [2, 3, 4, 5, 6, 7, 8, 1, 0] rfl ?_
  refine lw_Mod_leaves_114 hG hll C v0 m_v0 k_v0 v2 v3 v1 v5_1 v6_2 v7_5 r_23 _ _ _ _ hm (fun σ_59 hm => ?_)
  refine rx_aload_n C 0 dX11_leaves_239 rfl ?_
  refine rx_iconst (v := 3) C dX11_leaves_240 rfl ?_
  refine rx_iload_n C 1 dX11_leaves_241 rfl ?_
  obtain ⟨_, σ_60, hc_61, hm⟩ := rr_bd_some hm
  refine rr_callV (rest := []) (st1 := []) C 9 hll (c_Mod_copies l G hG fu v0 m_v0 k_v0 3 v2 σ_59 _ hc_61) q_1017 q_1019 qs_55 q_11 q_1020 hd_Mod_copies ⟨_, rfl, rfl⟩ (by decide) m_v0 k_v0 ⟨by decide, by decide⟩ rfl rfl (Nat.le_of_ble_eq_true rfl) rfl dX11_leaves_242 ?_
  refine rx_iconst (v := 0) C dX11_leaves_245 rfl ?_
  refine rx_istore (lv1 := [(9, .int 0), (0, .ref v0), (2, .int v2), (3, .int v3), (4, .int v1), (5, .int v5_1), (6, .int v6_2), (7, .int v7_5), (8, .int r_23)]) C dX11_leaves_246 (by decide) rfl ?_
  refine rx_lv [1, 3, 4, 5, 6, 7, 8, 0] rfl ?_
  refine lw_Mod_leaves_248 hG hll C v0 m_v0 k_v0 v3 v1 v5_1 v6_2 v7_5 r_23 _ _ _ _ hm (fun σ_68 hm => ?_)
  refine rx_aload_n C 0 dX11_leaves_274 rfl ?_
  refine gf_844 C m_v0 k_v0 dX11_leaves_275 hm (fun p_69 m_p_69 k_p_69 hm => ?_)
  refine rx_iconst (v := 3) C dX11_leaves_278 rfl ?_
  refine rx_iald C m_p_69 k_p_69 dX11_leaves_279 hm (fun hm => ?_)
  refine rx_nmi hm (fun v9_70 ev9_70 hm => ?_)
  refine rx_istore (lv1 := [(9, .int v9_70), (0, .ref v0), (4, .int v1), (5, .int v5_1), (6, .int v6_2), (7, .int v7_5), (8, .int r_23)]) C dX11_leaves_280 (by decide) rfl ?_
  refine rx_iconst (v := 0) C dX11_leaves_282 rfl ?_
  refine rx_istore (lv1 := [(10, .int 0), (9, .int v9_70), (0, .ref v0), (4, .int v1), (5, .int v5_1), (6, .int v6_2), (7, .int v7_5), (8, .int r_23)]) C dX11_leaves_283 (by decide) rfl ?_
  refine rx_lv [2, 3, 4, 5, 6, 7, 1, 0] rfl ?_
  refine lw_Mod_leaves_285 hG hll C v0 m_v0 k_v0 v1 v5_1 v6_2 v7_5 r_23 v9_70 _ _ _ _ hm (fun σ_82 hm => ?_)
  refine rx_aload_n C 0 dX11_leaves_329 rfl ?_
  refine gf_847 C m_v0 k_v0 dX11_leaves_330 hm (fun p_83 m_p_83 k_p_83 hm => ?_)
  refine rx_iload C 3 dX11_leaves_333 rfl ?_
  refine rx_aload_n C 0 dX11_leaves_335 rfl ?_
  refine rx_iload C 3 dX11_leaves_336 rfl ?_
  refine rx_aload_n C 0 dX11_leaves_338 rfl ?_
  refine gf_847 C m_v0 k_v0 dX11_leaves_339 hm (fun p_84 m_p_84 k_p_84 hm => ?_)
  refine rx_iload C 2 dX11_leaves_342 rfl ?_
  refine rx_iald C m_p_84 k_p_84 dX11_leaves_344 hm (fun hm => ?_)
  refine rx_iconst (v := 1) C dX11_leaves_345 rfl ?_
  refine rx_isub C dX11_leaves_346 ?_
  obtain ⟨r_85, hc_86, hm⟩ := rr_b0_some hm
  refine rr_callV (rest := [.int v6_2, .ref p_83]) (st1 := [.int r_85, .int v6_2, .ref p_83]) C 9 hll (c_Mod_degreeOfRow l G hG fu v0 m_v0 k_v0 v6_2 ((mg_i σ_82 p_84 (rr_n v5_1)) - 1) σ_82 _ hc_86) q_1087 q_1089 qs_68 q_11 q_1090 hd_Mod_degreeOfRow ⟨_, rfl, rfl⟩ (by decide) m_v0 k_v0 ⟨by decide, by decide⟩ rfl rfl (Nat.le_of_ble_eq_true rfl) rfl dX11_leaves_347 ?_
  refine rx_iast C m_p_83 k_p_83 dX11_leaves_350 hm (fun σ_87 hm => ?_)
  refine rx_iload C 4 dX11_leaves_351 rfl ?_
  refine rx_iconst (v := 2) C dX11_leaves_353 rfl ?_
  refine rx_irem C dX11_leaves_354 (by decide) ?_
  refine rr_jn1 hm (fun j369 ej369 hm => ?_)
  have hj369 : ∀ (t_88 : Int32), j369 t_88 = some (r, σr) → rr_J X G 12 (rr_E X G σr (some (.int r))) σ_87 369 [(0, .ref v0), (4, .int v1), (6, .int v6_2), (9, .int v9_70)] [.int t_88] := by
    intro t_88 hm
    replace hm := ej369 _ hm
    refine rx_istore (lv1 := [(10, .int t_88), (0, .ref v0), (4, .int v1), (6, .int v6_2), (9, .int v9_70)]) C dX11_leaves_369 (by decide) rfl ?_
    refine rx_aload_n C 1 dX11_leaves_371 rfl ?_
    refine gf_848 C m_v0 k_v0 dX11_leaves_372 hm (fun p_89 m_p_89 k_p_89 hm => ?_)
    refine rx_iload C 3 dX11_leaves_375 rfl ?_
    refine rx_iload C 0 dX11_leaves_377 rfl ?_
    refine rx_ineg C dX11_leaves_379 ?_
    refine rx_aload_n C 1 dX11_leaves_380 rfl ?_
    refine gf_848 C m_v0 k_v0 dX11_leaves_381 hm (fun p_90 m_p_90 k_p_90 hm => ?_)
    refine rx_iload C 2 dX11_leaves_384 rfl ?_
    refine rx_iald C m_p_90 k_p_90 dX11_leaves_386 hm (fun hm => ?_)
    refine rx_imul C dX11_leaves_387 ?_
    refine rx_iload C 4 dX11_leaves_388 rfl ?_
    refine rx_imul C dX11_leaves_390 ?_
    refine rx_iast C m_p_89 k_p_89 dX11_leaves_391 hm (fun σ_91 hm => ?_)
    refine rx_aload_n C 1 dX11_leaves_392 rfl ?_
    refine gf_847 C m_v0 k_v0 dX11_leaves_393 hm (fun p_92 m_p_92 k_p_92 hm => ?_)
    refine rx_iload C 3 dX11_leaves_396 rfl ?_
    refine rx_iald C m_p_92 k_p_92 dX11_leaves_398 hm (fun hm => ?_)
    refine rx_if_lt (tgt := 406) C dX11_leaves_399 (by decide) hm (fun h_93 hm => ?_) (fun h_93 hm => ?_)
    · refine rx_iconst (v := 0) C dX11_leaves_406 rfl ?_
      exact rx_zret C dX11_leaves_407 hm
    refine rx_iconst (v := 1) C dX11_leaves_402 rfl ?_
    refine rx_goto (tgt := 407) C dX11_leaves_403 (by decide) ?_
    exact rx_zret C dX11_leaves_407 hm
  refine rx_if_ne (tgt := 368) C dX11_leaves_355 (by decide) hm (fun h_94 hm => ?_) (fun h_94 hm => ?_)
  · refine rx_iconst (v := 1) C dX11_leaves_368 rfl ?_
    refine rx_lv [0, 1, 3, 6] rfl ?_
    exact hj369 _ hm
  refine rx_aload_n C 0 dX11_leaves_358 rfl ?_
  refine gf_844 C m_v0 k_v0 dX11_leaves_359 hm (fun p_95 m_p_95 k_p_95 hm => ?_)
  refine rx_iload C 5 dX11_leaves_362 rfl ?_
  refine rx_iald C m_p_95 k_p_95 dX11_leaves_364 hm (fun hm => ?_)
  refine rx_goto (tgt := 369) C dX11_leaves_365 (by decide) ?_
  refine rx_lv [0, 1, 3, 6] rfl ?_
  exact hj369 _ hm
def l_Mod_powers_15 (fu : Nat) (N : Nat → Nat) (v0 : Nat) (v1 : Int32) : Nat → Int32 → rr_M → (rr_M → Option (Unit × rr_M)) → Option (Unit × rr_M)
  | 0, _, _, _ => none
  | n + 1, v2, σ, kk =>
    if v1 ≤ v2 then (kk σ) else
    rr_bd (f_Mod_multiplies fu N v0 9 8 6 σ) fun _ σ_5 =>
    rr_bd (f_Mod_copies fu N v0 8 9 σ_5) fun _ σ_7 =>
    rr_lt (v2 + 1) fun v2_9 =>
    l_Mod_powers_15 fu N v0 v1 n v2_9 σ_7 kk
theorem lw_Mod_powers_15 {X : rr_X} {G : rr_G} {l : Launch} {fu : Nat} (hG : G.2.2.1.Nodup) (hll : X.2.1 = l) (C : rr_C X G cX11_powers 3 "RootRowsModel" none 3 80) {σr : rr_M} (v0 : Nat) (m_v0 : v0 ∈ G.2.2.1) (k_v0 : G.2.2.2.1 v0 = 9) (v1 : Int32) : ∀ (n : Nat) (v2 : Int32) (σ : rr_M) (K : rr_M → Option (Unit × rr_M)), l_Mod_powers_15 fu G.2.2.2.2 v0 v1 n v2 σ K = some ((), σr) → (∀ (σ1 : rr_M), K σ1 = some ((), σr) → rr_J X G 3 (rr_E X G σr none) σ1 44 [(0, .ref v0), (1, .int v1)] []) → rr_J X G 3 (rr_E X G σr none) σ 15 [(0, .ref v0), (1, .int v1), (2, .int v2)] [] := by
  intro n
  induction n with
  | zero =>
    intro v2 σ K hm
    cases hm
  | succ n ih =>
    intro v2 σ K hm hk
    unfold l_Mod_powers_15 at hm
    refine rx_iload_n C 2 dX11_powers_15 rfl ?_
    refine rx_iload_n C 1 dX11_powers_16 rfl ?_
    refine rx_icmp_ge (tgt := 44) C dX11_powers_17 (by decide) hm (fun h_4 hm => ?_) (fun h_4 hm => ?_)
    · refine rx_lv [0, 1] rfl ?_
      exact hk _ hm
    refine rx_aload_n C 0 dX11_powers_20 rfl ?_
    refine rx_bipush (v := 9) C dX11_powers_21 rfl ?_
    refine rx_bipush (v := 8) C dX11_powers_23 rfl ?_
    refine rx_bipush (v := 6) C dX11_powers_25 rfl ?_
    obtain ⟨_, σ_5, hc_6, hm⟩ := rr_bd_some hm
    refine rr_callV (rest := []) (st1 := []) C 9 hll (c_Mod_multiplies l G hG fu v0 m_v0 k_v0 9 8 6 σ _ hc_6) q_1001 q_1003 qs_51 q_11 q_1004 hd_Mod_multiplies ⟨_, rfl, rfl⟩ (by decide) m_v0 k_v0 ⟨by decide, by decide⟩ rfl rfl (Nat.le_of_ble_eq_true rfl) rfl dX11_powers_27 ?_
    refine rx_aload_n C 0 dX11_powers_30 rfl ?_
    refine rx_bipush (v := 8) C dX11_powers_31 rfl ?_
    refine rx_bipush (v := 9) C dX11_powers_33 rfl ?_
    obtain ⟨_, σ_7, hc_8, hm⟩ := rr_bd_some hm
    refine rr_callV (rest := []) (st1 := []) C 9 hll (c_Mod_copies l G hG fu v0 m_v0 k_v0 8 9 σ_5 _ hc_8) q_1017 q_1019 qs_55 q_11 q_1020 hd_Mod_copies ⟨_, rfl, rfl⟩ (by decide) m_v0 k_v0 ⟨by decide, by decide⟩ rfl rfl (Nat.le_of_ble_eq_true rfl) rfl dX11_powers_35 ?_
    refine rx_iinc (d := 1) (lv1 := fun v => [(2, .int v), (0, .ref v0), (1, .int v1)]) C 2 dX11_powers_38 hm rfl rfl (by decide) (fun _ => rfl) (fun v2_9 hm => ?_)
    refine rx_goto (tgt := 15) C dX11_powers_41 (by decide) ?_
    refine rx_lv [1, 2, 0] rfl ?_
    exact ih _ _ _ hm hk
def l_Mod_powers_46 (fu : Nat) (N : Nat → Nat) (v0 : Nat) (v1 : Int32) : Nat → Int32 → rr_M → (rr_M → Option (Unit × rr_M)) → Option (Unit × rr_M)
  | 0, _, _, _ => none
  | n + 1, v2, σ, kk =>
    if v1 ≤ v2 then (kk σ) else
    rr_bd (f_Mod_parts fu N v0 9 10 8 7 σ) fun _ σ_12 =>
    rr_bd (f_Mod_copies fu N v0 8 9 σ_12) fun _ σ_14 =>
    rr_lt (v2 + 1) fun v2_16 =>
    l_Mod_powers_46 fu N v0 v1 n v2_16 σ_14 kk
theorem lw_Mod_powers_46 {X : rr_X} {G : rr_G} {l : Launch} {fu : Nat} (hG : G.2.2.1.Nodup) (hll : X.2.1 = l) (C : rr_C X G cX11_powers 3 "RootRowsModel" none 3 80) {σr : rr_M} (v0 : Nat) (m_v0 : v0 ∈ G.2.2.1) (k_v0 : G.2.2.2.1 v0 = 9) (v1 : Int32) : ∀ (n : Nat) (v2 : Int32) (σ : rr_M) (K : rr_M → Option (Unit × rr_M)), l_Mod_powers_46 fu G.2.2.2.2 v0 v1 n v2 σ K = some ((), σr) → (∀ (σ1 : rr_M), K σ1 = some ((), σr) → rr_J X G 3 (rr_E X G σr none) σ1 77 [(0, .ref v0)] []) → rr_J X G 3 (rr_E X G σr none) σ 46 [(0, .ref v0), (1, .int v1), (2, .int v2)] [] := by
  intro n
  induction n with
  | zero =>
    intro v2 σ K hm
    cases hm
  | succ n ih =>
    intro v2 σ K hm hk
    unfold l_Mod_powers_46 at hm
    refine rx_iload_n C 2 dX11_powers_46 rfl ?_
    refine rx_iload_n C 1 dX11_powers_47 rfl ?_
    refine rx_icmp_ge (tgt := 77) C dX11_powers_48 (by decide) hm (fun h_11 hm => ?_) (fun h_11 hm => ?_)
    · refine rx_lv [0] rfl ?_
      exact hk _ hm
    refine rx_aload_n C 0 dX11_powers_51 rfl ?_
    refine rx_bipush (v := 9) C dX11_powers_52 rfl ?_
    refine rx_bipush (v := 10) C dX11_powers_54 rfl ?_
    refine rx_bipush (v := 8) C dX11_powers_56 rfl ?_
    refine rx_bipush (v := 7) C dX11_powers_58 rfl ?_
    obtain ⟨_, σ_12, hc_13, hm⟩ := rr_bd_some hm
    refine rr_callV (rest := []) (st1 := []) C 9 hll (c_Mod_parts l G hG fu v0 m_v0 k_v0 9 10 8 7 σ _ hc_13) q_1079 q_1081 qs_66 q_11 q_1082 hd_Mod_parts ⟨_, rfl, rfl⟩ (by decide) m_v0 k_v0 ⟨by decide, by decide⟩ rfl rfl (Nat.le_of_ble_eq_true rfl) rfl dX11_powers_60 ?_
    refine rx_aload_n C 0 dX11_powers_63 rfl ?_
    refine rx_bipush (v := 8) C dX11_powers_64 rfl ?_
    refine rx_bipush (v := 9) C dX11_powers_66 rfl ?_
    obtain ⟨_, σ_14, hc_15, hm⟩ := rr_bd_some hm
    refine rr_callV (rest := []) (st1 := []) C 9 hll (c_Mod_copies l G hG fu v0 m_v0 k_v0 8 9 σ_12 _ hc_15) q_1017 q_1019 qs_55 q_11 q_1020 hd_Mod_copies ⟨_, rfl, rfl⟩ (by decide) m_v0 k_v0 ⟨by decide, by decide⟩ rfl rfl (Nat.le_of_ble_eq_true rfl) rfl dX11_powers_68 ?_
    refine rx_iinc (d := 1) (lv1 := fun v => [(2, .int v), (0, .ref v0), (1, .int v1)]) C 2 dX11_powers_71 hm rfl rfl (by decide) (fun _ => rfl) (fun v2_16 hm => ?_)
    refine rx_goto (tgt := 46) C dX11_powers_74 (by decide) ?_
    refine rx_lv [1, 2, 0] rfl ?_
    exact ih _ _ _ hm hk
def f_Mod_powers (fu : Nat) (N : Nat → Nat) (v0 : Nat) (v1 : Int32) (σ : rr_M) : Option (Unit × rr_M) :=
    if v1 = 0 then (some ((), σ)) else
    rr_bd (f_Mod_copies fu N v0 8 6 σ) fun _ σ_2 =>
    l_Mod_powers_15 fu N v0 v1 fu 1 σ_2 (fun σ_10 =>
    l_Mod_powers_46 fu N v0 v1 fu 1 σ_10 (fun σ_17 =>
    rr_bd (f_Mod_copies fu N v0 7 8 σ_17) fun _ σ_18 =>
    some ((), σ_18)))
theorem c_Mod_powers (l : Launch) (G : rr_G) (hG : G.2.2.1.Nodup) (fu : Nat) (v0 : Nat) (m_v0 : v0 ∈ G.2.2.1) (k_v0 : G.2.2.2.1 v0 = 9) (v1 : Int32) (σ : rr_M) (σr : rr_M) (hm : f_Mod_powers fu G.2.2.2.2 v0 v1 σ = some ((), σr)) : rr_Met l G yX11_powers cX11_powers 3 none 3 80 [.ref v0, .int v1] σ σr none := by
  refine rr_enter (lv0 := [(0, .ref v0), (1, .int v1)]) hp_Mod_powers hG (Nat.le_of_ble_eq_true rfl) rfl (fun X hll C => ?_)
  replace C : rr_C X G cX11_powers 3 "RootRowsModel" none 3 80 := C
  unfold f_Mod_powers at hm
  refine rx_iload_n C 1 dX11_powers_0 rfl ?_
  refine rx_if_ne (tgt := 5) C dX11_powers_1 (by decide) hm (fun h_1 hm => ?_) (fun h_1 hm => ?_)
  · refine rx_aload_n C 0 dX11_powers_5 rfl ?_
    refine rx_bipush (v := 8) C dX11_powers_6 rfl ?_
    refine rx_bipush (v := 6) C dX11_powers_8 rfl ?_
    obtain ⟨_, σ_2, hc_3, hm⟩ := rr_bd_some hm
    refine rr_callV (rest := []) (st1 := []) C 9 hll (c_Mod_copies l G hG fu v0 m_v0 k_v0 8 6 σ _ hc_3) q_1017 q_1019 qs_55 q_11 q_1020 hd_Mod_copies ⟨_, rfl, rfl⟩ (by decide) m_v0 k_v0 ⟨by decide, by decide⟩ rfl rfl (Nat.le_of_ble_eq_true rfl) rfl dX11_powers_10 ?_
    refine rx_iconst (v := 1) C dX11_powers_13 rfl ?_
    refine rx_istore_n (lv1 := [(2, .int 1), (0, .ref v0), (1, .int v1)]) C dX11_powers_14 (by decide) rfl ?_
    refine rx_lv [1, 2, 0] rfl ?_
    refine lw_Mod_powers_15 hG hll C v0 m_v0 k_v0 v1 _ _ _ _ hm (fun σ_10 hm => ?_)
    refine rx_iconst (v := 1) C dX11_powers_44 rfl ?_
    refine rx_istore_n (lv1 := [(2, .int 1), (0, .ref v0), (1, .int v1)]) C dX11_powers_45 (by decide) rfl ?_
    refine rx_lv [1, 2, 0] rfl ?_
    refine lw_Mod_powers_46 hG hll C v0 m_v0 k_v0 v1 _ _ _ _ hm (fun σ_17 hm => ?_)
    refine rx_aload_n C 0 dX11_powers_77 rfl ?_
    refine rx_bipush (v := 7) C dX11_powers_78 rfl ?_
    refine rx_bipush (v := 8) C dX11_powers_80 rfl ?_
    obtain ⟨_, σ_18, hc_19, hm⟩ := rr_bd_some hm
    refine rr_callV (rest := []) (st1 := []) C 9 hll (c_Mod_copies l G hG fu v0 m_v0 k_v0 7 8 σ_17 _ hc_19) q_1017 q_1019 qs_55 q_11 q_1020 hd_Mod_copies ⟨_, rfl, rfl⟩ (by decide) m_v0 k_v0 ⟨by decide, by decide⟩ rfl rfl (Nat.le_of_ble_eq_true rfl) rfl dX11_powers_82 ?_
    exact rx_vret C dX11_powers_85 hm
  exact rx_vret C dX11_powers_4 hm
def l_Mod_leavesAll_32 (fu : Nat) (N : Nat → Nat) (v0 : Nat) (v1 : Int32) : Nat → Int32 → rr_M → (Int32 → rr_M → Option (Int32 × rr_M)) → Option (Int32 × rr_M)
  | 0, _, _, _ => none
  | n + 1, v2, σ, kk =>
    rr_bd (f_Mod_leaves fu N v0 ((v1 + v2) - 2) 6 7 σ) fun r_9 σ_10 =>
    if r_9 = 0 then (kk v2 σ_10) else
    rr_lt ((v1 + v2) - 1) fun v3_13 =>
    rr_lt (mg_r σ_10 v0 6) fun p_14 =>
    (if rr_ix (v3_13 - 1) (N p_14) then
    rr_lt (mg_r σ_10 v0 6) fun p_15 =>
    (if rr_ix v3_13 (N p_15) then
    rr_lt ((mg_i σ_10 p_14 (rr_n (v3_13 - 1))) - (mg_i σ_10 p_15 (rr_n v3_13))) fun v4_16 =>
    rr_lt (mg_r σ_10 v0 6) fun p_17 =>
    (if rr_ix v3_13 (N p_17) then
    Option.bind (f_Mod_slot v3_13 (mg_i σ_10 p_17 (rr_n v3_13))) fun r_18 =>
    rr_bd (f_Mod_copies fu N v0 6 r_18 σ_10) fun _ σ_20 =>
    rr_bd (f_Mod_powers fu N v0 v4_16 σ_20) fun _ σ_22 =>
    rr_lt (v2 + 1) fun v2_24 =>
    l_Mod_leavesAll_32 fu N v0 v1 n v2_24 σ_22 kk else none) else none) else none)
theorem lw_Mod_leavesAll_32 {X : rr_X} {G : rr_G} {l : Launch} {fu : Nat} (hG : G.2.2.1.Nodup) (hll : X.2.1 = l) (C : rr_C X G cX11_leavesAll 5 "RootRowsModel" (some .int) 4 111) {r : Int32} {σr : rr_M} (v0 : Nat) (m_v0 : v0 ∈ G.2.2.1) (k_v0 : G.2.2.2.1 v0 = 9) (v1 : Int32) : ∀ (n : Nat) (v2 : Int32) (σ : rr_M) (K : Int32 → rr_M → Option (Int32 × rr_M)), l_Mod_leavesAll_32 fu G.2.2.2.2 v0 v1 n v2 σ K = some (r, σr) → (∀ (w2 : Int32) (σ1 : rr_M), K w2 σ1 = some (r, σr) → rr_J X G 5 (rr_E X G σr (some (.int r))) σ1 99 [(2, .int w2)] []) → rr_J X G 5 (rr_E X G σr (some (.int r))) σ 32 [(0, .ref v0), (1, .int v1), (2, .int v2)] [] := by
  intro n
  induction n with
  | zero =>
    intro v2 σ K hm
    cases hm
  | succ n ih =>
    intro v2 σ K hm hk
    unfold l_Mod_leavesAll_32 at hm
    refine rx_aload_n C 0 dX11_leavesAll_32 rfl ?_
    refine rx_iload_n C 1 dX11_leavesAll_33 rfl ?_
    refine rx_iload_n C 2 dX11_leavesAll_34 rfl ?_
    refine rx_iadd C dX11_leavesAll_35 ?_
    refine rx_iconst (v := 2) C dX11_leavesAll_36 rfl ?_
    refine rx_isub C dX11_leavesAll_37 ?_
    refine rx_bipush (v := 6) C dX11_leavesAll_38 rfl ?_
    refine rx_bipush (v := 7) C dX11_leavesAll_40 rfl ?_
    obtain ⟨r_9, σ_10, hc_11, hm⟩ := rr_bd_some hm
    refine rr_callV (rest := []) (st1 := [.int r_9]) C 9 hll (c_Mod_leaves l G hG fu v0 m_v0 k_v0 ((v1 + v2) - 2) 6 7 σ _ _ hc_11) q_1075 q_1077 qs_65 q_11 q_1078 hd_Mod_leaves ⟨_, rfl, rfl⟩ (by decide) m_v0 k_v0 ⟨by decide, by decide⟩ rfl rfl (Nat.le_of_ble_eq_true rfl) rfl dX11_leavesAll_42 ?_
    refine rx_if_eq (tgt := 99) C dX11_leavesAll_45 (by decide) hm (fun h_12 hm => ?_) (fun h_12 hm => ?_)
    · refine rx_lv [2] rfl ?_
      exact hk _ _ hm
    refine rx_iload_n C 1 dX11_leavesAll_48 rfl ?_
    refine rx_iload_n C 2 dX11_leavesAll_49 rfl ?_
    refine rx_iadd C dX11_leavesAll_50 ?_
    refine rx_iconst (v := 1) C dX11_leavesAll_51 rfl ?_
    refine rx_isub C dX11_leavesAll_52 ?_
    refine rx_nmi hm (fun v3_13 ev3_13 hm => ?_)
    refine rx_istore_n (lv1 := [(3, .int v3_13), (0, .ref v0), (1, .int v1), (2, .int v2)]) C dX11_leavesAll_53 (by decide) rfl ?_
    refine rx_aload_n C 1 dX11_leavesAll_54 rfl ?_
    refine gf_847 C m_v0 k_v0 dX11_leavesAll_55 hm (fun p_14 m_p_14 k_p_14 hm => ?_)
    refine rx_iload_n C 0 dX11_leavesAll_58 rfl ?_
    refine rx_iconst (v := 1) C dX11_leavesAll_59 rfl ?_
    refine rx_isub C dX11_leavesAll_60 ?_
    refine rx_iald C m_p_14 k_p_14 dX11_leavesAll_61 hm (fun hm => ?_)
    refine rx_aload_n C 1 dX11_leavesAll_62 rfl ?_
    refine gf_847 C m_v0 k_v0 dX11_leavesAll_63 hm (fun p_15 m_p_15 k_p_15 hm => ?_)
    refine rx_iload_n C 0 dX11_leavesAll_66 rfl ?_
    refine rx_iald C m_p_15 k_p_15 dX11_leavesAll_67 hm (fun hm => ?_)
    refine rx_isub C dX11_leavesAll_68 ?_
    refine rx_nmi hm (fun v4_16 ev4_16 hm => ?_)
    refine rx_istore (lv1 := [(4, .int v4_16), (3, .int v3_13), (0, .ref v0), (1, .int v1), (2, .int v2)]) C dX11_leavesAll_69 (by decide) rfl ?_
    refine rx_aload_n C 2 dX11_leavesAll_71 rfl ?_
    refine rx_bipush (v := 6) C dX11_leavesAll_72 rfl ?_
    refine rx_iload_n C 1 dX11_leavesAll_74 rfl ?_
    refine rx_aload_n C 2 dX11_leavesAll_75 rfl ?_
    refine gf_847 C m_v0 k_v0 dX11_leavesAll_76 hm (fun p_17 m_p_17 k_p_17 hm => ?_)
    refine rx_iload_n C 1 dX11_leavesAll_79 rfl ?_
    refine rx_iald C m_p_17 k_p_17 dX11_leavesAll_80 hm (fun hm => ?_)
    obtain ⟨r_18, hc_19, hm⟩ := rr_b0_some hm
    refine rr_callS (rest := [.int 6, .ref v0]) (st1 := [.int r_18, .int 6, .ref v0]) C hll (c_Mod_slot l G hG v3_13 (mg_i σ_10 p_17 (rr_n v3_13)) σ_10 _ hc_19) q_989 q_990 q_11 q_991 hd_Mod_slot ⟨by decide, by decide⟩ rfl rfl (Nat.le_of_ble_eq_true rfl) rfl dX11_leavesAll_81 ?_
    obtain ⟨_, σ_20, hc_21, hm⟩ := rr_bd_some hm
    refine rr_callV (rest := []) (st1 := []) C 9 hll (c_Mod_copies l G hG fu v0 m_v0 k_v0 6 r_18 σ_10 _ hc_21) q_1017 q_1019 qs_55 q_11 q_1020 hd_Mod_copies ⟨_, rfl, rfl⟩ (by decide) m_v0 k_v0 ⟨by decide, by decide⟩ rfl rfl (Nat.le_of_ble_eq_true rfl) rfl dX11_leavesAll_84 ?_
    refine rx_aload_n C 2 dX11_leavesAll_87 rfl ?_
    refine rx_iload C 0 dX11_leavesAll_88 rfl ?_
    obtain ⟨_, σ_22, hc_23, hm⟩ := rr_bd_some hm
    refine rr_callV (rest := []) (st1 := []) C 9 hll (c_Mod_powers l G hG fu v0 m_v0 k_v0 v4_16 σ_20 _ hc_23) q_1091 q_1093 qs_69 q_11 q_1094 hd_Mod_powers ⟨_, rfl, rfl⟩ (by decide) m_v0 k_v0 ⟨by decide, by decide⟩ rfl rfl (Nat.le_of_ble_eq_true rfl) rfl dX11_leavesAll_90 ?_
    refine rx_iinc (d := 1) (lv1 := fun v => [(2, .int v), (4, .int v4_16), (3, .int v3_13), (0, .ref v0), (1, .int v1)]) C 4 dX11_leavesAll_93 hm rfl rfl (by decide) (fun _ => rfl) (fun v2_24 hm => ?_)
    refine rx_goto (tgt := 32) C dX11_leavesAll_96 (by decide) ?_
    refine rx_lv [3, 4, 0] rfl ?_
    exact ih _ _ _ hm hk
def f_Mod_leavesAll (fu : Nat) (N : Nat → Nat) (v0 : Nat) (v1 : Int32) (σ : rr_M) : Option (Int32 × rr_M) :=
    rr_lt (mg_r σ v0 7) fun p_1 =>
    (if rr_ix v1 (N p_1) then rr_lt (ms_i σ p_1 (rr_n v1) 1) fun σ_2 =>
    rr_lt (mg_r σ_2 v0 7) fun p_3 =>
    (if rr_ix (v1 + 1) (N p_3) then rr_lt (ms_i σ_2 p_3 (rr_n (v1 + 1)) 1) fun σ_4 =>
    rr_bd (f_Mod_sets fu N v0 6 1 σ_4) fun _ σ_5 =>
    rr_bd (f_Mod_sets fu N v0 7 1 σ_5) fun _ σ_7 =>
    l_Mod_leavesAll_32 fu N v0 v1 fu 2 σ_7 (fun v2_25 σ_26 =>
    some (v2_25, σ_26)) else none) else none)
theorem c_Mod_leavesAll (l : Launch) (G : rr_G) (hG : G.2.2.1.Nodup) (fu : Nat) (v0 : Nat) (m_v0 : v0 ∈ G.2.2.1) (k_v0 : G.2.2.2.1 v0 = 9) (v1 : Int32) (σ : rr_M) (r : Int32) (σr : rr_M) (hm : f_Mod_leavesAll fu G.2.2.2.2 v0 v1 σ = some (r, σr)) : rr_Met l G yX11_leavesAll cX11_leavesAll 5 (some .int) 4 111 [.ref v0, .int v1] σ σr (some (.int r)) := by
  refine rr_enter (lv0 := [(0, .ref v0), (1, .int v1)]) hp_Mod_leavesAll hG (Nat.le_of_ble_eq_true rfl) rfl (fun X hll C => ?_)
  replace C : rr_C X G cX11_leavesAll 5 "RootRowsModel" (some .int) 4 111 := C
  unfold f_Mod_leavesAll at hm
  refine rx_aload_n C 0 dX11_leavesAll_0 rfl ?_
  refine gf_848 C m_v0 k_v0 dX11_leavesAll_1 hm (fun p_1 m_p_1 k_p_1 hm => ?_)
  refine rx_iload_n C 1 dX11_leavesAll_4 rfl ?_
  refine rx_iconst (v := 1) C dX11_leavesAll_5 rfl ?_
  refine rx_iast C m_p_1 k_p_1 dX11_leavesAll_6 hm (fun σ_2 hm => ?_)
  refine rx_aload_n C 0 dX11_leavesAll_7 rfl ?_
  refine gf_848 C m_v0 k_v0 dX11_leavesAll_8 hm (fun p_3 m_p_3 k_p_3 hm => ?_)
  refine rx_iload_n C 1 dX11_leavesAll_11 rfl ?_
  refine rx_iconst (v := 1) C dX11_leavesAll_12 rfl ?_
  refine rx_iadd C dX11_leavesAll_13 ?_
  refine rx_iconst (v := 1) C dX11_leavesAll_14 rfl ?_
  refine rx_iast C m_p_3 k_p_3 dX11_leavesAll_15 hm (fun σ_4 hm => ?_)
  refine rx_aload_n C 0 dX11_leavesAll_16 rfl ?_
  refine rx_bipush (v := 6) C dX11_leavesAll_17 rfl ?_
  refine rx_lconst (v := 1) C dX11_leavesAll_19 rfl ?_
  obtain ⟨_, σ_5, hc_6, hm⟩ := rr_bd_some hm
  refine rr_callV (rest := []) (st1 := []) C 9 hll (c_Mod_sets l G hG fu v0 m_v0 k_v0 6 1 σ_4 _ hc_6) q_992 q_994 qs_49 q_11 q_995 hd_Mod_sets ⟨_, rfl, rfl⟩ (by decide) m_v0 k_v0 ⟨by decide, by decide⟩ rfl rfl (Nat.le_of_ble_eq_true rfl) rfl dX11_leavesAll_20 ?_
  refine rx_aload_n C 0 dX11_leavesAll_23 rfl ?_
  refine rx_bipush (v := 7) C dX11_leavesAll_24 rfl ?_
  refine rx_lconst (v := 1) C dX11_leavesAll_26 rfl ?_
  obtain ⟨_, σ_7, hc_8, hm⟩ := rr_bd_some hm
  refine rr_callV (rest := []) (st1 := []) C 9 hll (c_Mod_sets l G hG fu v0 m_v0 k_v0 7 1 σ_5 _ hc_8) q_992 q_994 qs_49 q_11 q_995 hd_Mod_sets ⟨_, rfl, rfl⟩ (by decide) m_v0 k_v0 ⟨by decide, by decide⟩ rfl rfl (Nat.le_of_ble_eq_true rfl) rfl dX11_leavesAll_27 ?_
  refine rx_iconst (v := 2) C dX11_leavesAll_30 rfl ?_
  refine rx_istore_n (lv1 := [(2, .int 2), (0, .ref v0), (1, .int v1)]) C dX11_leavesAll_31 (by decide) rfl ?_
  refine rx_lv [1, 2, 0] rfl ?_
  refine lw_Mod_leavesAll_32 hG hll C v0 m_v0 k_v0 v1 _ _ _ _ hm (fun v2_25 σ_26 hm => ?_)
  refine rx_iload_n C 0 dX11_leavesAll_99 rfl ?_
  exact rx_iret C dX11_leavesAll_100 hm
def l_Mod_slopes_2 (fu : Nat) (N : Nat → Nat) (v0 : Nat) (v1 : Int32) (v2 : Int32) : Nat → Int32 → rr_M → (rr_M → Option (Unit × rr_M)) → Option (Unit × rr_M)
  | 0, _, _, _ => none
  | n + 1, v3, σ, kk =>
    if 9 ≤ v3 then (kk σ) else
    Option.bind (f_Mod_slot v1 v3) fun r_2 =>
    rr_jn (fun (t_4 : Int64) =>
    rr_bd (f_Mod_sets fu N v0 r_2 t_4 σ) fun _ σ_5 =>
    rr_lt (v3 + 1) fun v3_7 =>
    l_Mod_slopes_2 fu N v0 v1 v2 n v3_7 σ_5 kk) fun j37 =>
    if 8 ≤ v3 then (j37 0) else
    Option.bind (f_Mod_at N v0 v2 (v3 + 1) σ) fun r_9 =>
    j37 (((v3 + 1).toInt64) * r_9)
theorem lw_Mod_slopes_2 {X : rr_X} {G : rr_G} {l : Launch} {fu : Nat} (hG : G.2.2.1.Nodup) (hll : X.2.1 = l) (C : rr_C X G cX11_slopes 4 "RootRowsModel" none 2 47) {σr : rr_M} (v0 : Nat) (m_v0 : v0 ∈ G.2.2.1) (k_v0 : G.2.2.2.1 v0 = 9) (v1 : Int32) (v2 : Int32) : ∀ (n : Nat) (v3 : Int32) (σ : rr_M) (K : rr_M → Option (Unit × rr_M)), l_Mod_slopes_2 fu G.2.2.2.2 v0 v1 v2 n v3 σ K = some ((), σr) → (∀ (σ1 : rr_M), K σ1 = some ((), σr) → rr_J X G 4 (rr_E X G σr none) σ1 46 [(0, .ref v0), (1, .int v1), (2, .int v2)] []) → rr_J X G 4 (rr_E X G σr none) σ 2 [(0, .ref v0), (1, .int v1), (2, .int v2), (3, .int v3)] [] := by
  intro n
  induction n with
  | zero =>
    intro v3 σ K hm
    cases hm
  | succ n ih =>
    intro v3 σ K hm hk
    unfold l_Mod_slopes_2 at hm
    refine rx_iload_n C 3 dX11_slopes_2 rfl ?_
    refine rx_bipush (v := 9) C dX11_slopes_3 rfl ?_
    refine rx_icmp_ge (tgt := 46) C dX11_slopes_5 (by decide) hm (fun h_1 hm => ?_) (fun h_1 hm => ?_)
    · refine rx_lv [0, 1, 2] rfl ?_
      exact hk _ hm
    refine rx_aload_n C 0 dX11_slopes_8 rfl ?_
    refine rx_iload_n C 1 dX11_slopes_9 rfl ?_
    refine rx_iload_n C 3 dX11_slopes_10 rfl ?_
    obtain ⟨r_2, hc_3, hm⟩ := rr_b0_some hm
    refine rr_callS (rest := [.ref v0]) (st1 := [.int r_2, .ref v0]) C hll (c_Mod_slot l G hG v1 v3 σ _ hc_3) q_989 q_990 q_11 q_991 hd_Mod_slot ⟨by decide, by decide⟩ rfl rfl (Nat.le_of_ble_eq_true rfl) rfl dX11_slopes_11 ?_
    refine rx_iload_n C 3 dX11_slopes_14 rfl ?_
    refine rx_bipush (v := 8) C dX11_slopes_15 rfl ?_
    refine rr_jn1 hm (fun j37 ej37 hm => ?_)
    have hj37 : ∀ (t_4 : Int64), j37 t_4 = some ((), σr) → rr_J X G 4 (rr_E X G σr none) σ 37 [(0, .ref v0), (1, .int v1), (2, .int v2), (3, .int v3)] [.long t_4, .int r_2, .ref v0] := by
      intro t_4 hm
      replace hm := ej37 _ hm
      obtain ⟨_, σ_5, hc_6, hm⟩ := rr_bd_some hm
      refine rr_callV (rest := []) (st1 := []) C 9 hll (c_Mod_sets l G hG fu v0 m_v0 k_v0 r_2 t_4 σ _ hc_6) q_992 q_994 qs_49 q_11 q_995 hd_Mod_sets ⟨_, rfl, rfl⟩ (by decide) m_v0 k_v0 ⟨by decide, by decide⟩ rfl rfl (Nat.le_of_ble_eq_true rfl) rfl dX11_slopes_37 ?_
      refine rx_iinc (d := 1) (lv1 := fun v => [(3, .int v), (0, .ref v0), (1, .int v1), (2, .int v2)]) C 3 dX11_slopes_40 hm rfl rfl (by decide) (fun _ => rfl) (fun v3_7 hm => ?_)
      refine rx_goto (tgt := 2) C dX11_slopes_43 (by decide) ?_
      refine rx_lv [1, 2, 3, 0] rfl ?_
      exact ih _ _ _ hm hk
    refine rx_icmp_ge (tgt := 36) C dX11_slopes_17 (by decide) hm (fun h_8 hm => ?_) (fun h_8 hm => ?_)
    · refine rx_lconst (v := 0) C dX11_slopes_36 rfl ?_
      refine rx_lv [0, 1, 2, 3] rfl ?_
      exact hj37 _ hm
    refine rx_iload_n C 3 dX11_slopes_20 rfl ?_
    refine rx_iconst (v := 1) C dX11_slopes_21 rfl ?_
    refine rx_iadd C dX11_slopes_22 ?_
    refine rx_i2l C dX11_slopes_23 ?_
    refine rx_aload_n C 0 dX11_slopes_24 rfl ?_
    refine rx_iload_n C 2 dX11_slopes_25 rfl ?_
    refine rx_iload_n C 3 dX11_slopes_26 rfl ?_
    refine rx_iconst (v := 1) C dX11_slopes_27 rfl ?_
    refine rx_iadd C dX11_slopes_28 ?_
    obtain ⟨r_9, hc_10, hm⟩ := rr_b0_some hm
    refine rr_callV (rest := [.long ((v3 + 1).toInt64), .int r_2, .ref v0]) (st1 := [.long r_9, .long ((v3 + 1).toInt64), .int r_2, .ref v0]) C 9 hll (c_Mod_at l G hG v0 m_v0 k_v0 v2 (v3 + 1) σ _ hc_10) q_950 q_952 qs_44 q_11 q_953 hd_Mod_at ⟨_, rfl, rfl⟩ (by decide) m_v0 k_v0 ⟨by decide, by decide⟩ rfl rfl (Nat.le_of_ble_eq_true rfl) rfl dX11_slopes_29 ?_
    refine rx_lmul C dX11_slopes_32 ?_
    refine rx_goto (tgt := 37) C dX11_slopes_33 (by decide) ?_
    refine rx_lv [0, 1, 2, 3] rfl ?_
    exact hj37 _ hm
def f_Mod_slopes (fu : Nat) (N : Nat → Nat) (v0 : Nat) (v1 : Int32) (v2 : Int32) (σ : rr_M) : Option (Unit × rr_M) :=
    l_Mod_slopes_2 fu N v0 v1 v2 fu 0 σ (fun σ_11 =>
    rr_lt (mg_r σ_11 v0 6) fun p_12 =>
    Option.bind (f_Mod_degreeOf fu N v0 v2 σ_11) fun r_13 =>
    (if rr_ix v1 (N p_12) then rr_lt (ms_i σ_11 p_12 (rr_n v1) (r_13 - 1)) fun σ_15 =>
    some ((), σ_15) else none))
theorem c_Mod_slopes (l : Launch) (G : rr_G) (hG : G.2.2.1.Nodup) (fu : Nat) (v0 : Nat) (m_v0 : v0 ∈ G.2.2.1) (k_v0 : G.2.2.2.1 v0 = 9) (v1 : Int32) (v2 : Int32) (σ : rr_M) (σr : rr_M) (hm : f_Mod_slopes fu G.2.2.2.2 v0 v1 v2 σ = some ((), σr)) : rr_Met l G yX11_slopes cX11_slopes 4 none 2 47 [.ref v0, .int v1, .int v2] σ σr none := by
  refine rr_enter (lv0 := [(0, .ref v0), (1, .int v1), (2, .int v2)]) hp_Mod_slopes hG (Nat.le_of_ble_eq_true rfl) rfl (fun X hll C => ?_)
  replace C : rr_C X G cX11_slopes 4 "RootRowsModel" none 2 47 := C
  unfold f_Mod_slopes at hm
  refine rx_iconst (v := 0) C dX11_slopes_0 rfl ?_
  refine rx_istore_n (lv1 := [(3, .int 0), (0, .ref v0), (1, .int v1), (2, .int v2)]) C dX11_slopes_1 (by decide) rfl ?_
  refine rx_lv [1, 2, 3, 0] rfl ?_
  refine lw_Mod_slopes_2 hG hll C v0 m_v0 k_v0 v1 v2 _ _ _ _ hm (fun σ_11 hm => ?_)
  refine rx_aload_n C 0 dX11_slopes_46 rfl ?_
  refine gf_847 C m_v0 k_v0 dX11_slopes_47 hm (fun p_12 m_p_12 k_p_12 hm => ?_)
  refine rx_iload_n C 1 dX11_slopes_50 rfl ?_
  refine rx_aload_n C 0 dX11_slopes_51 rfl ?_
  refine rx_iload_n C 2 dX11_slopes_52 rfl ?_
  obtain ⟨r_13, hc_14, hm⟩ := rr_b0_some hm
  refine rr_callV (rest := [.int v1, .ref p_12]) (st1 := [.int r_13, .int v1, .ref p_12]) C 9 hll (c_Mod_degreeOf l G hG fu v0 m_v0 k_v0 v2 σ_11 _ hc_14) q_997 q_999 qs_50 q_11 q_1000 hd_Mod_degreeOf ⟨_, rfl, rfl⟩ (by decide) m_v0 k_v0 ⟨by decide, by decide⟩ rfl rfl (Nat.le_of_ble_eq_true rfl) rfl dX11_slopes_53 ?_
  refine rx_iconst (v := 1) C dX11_slopes_56 rfl ?_
  refine rx_isub C dX11_slopes_57 ?_
  refine rx_iast C m_p_12 k_p_12 dX11_slopes_58 hm (fun σ_15 hm => ?_)
  exact rx_vret C dX11_slopes_59 hm
def l_Mod_takes_2 (fu : Nat) (N : Nat → Nat) (v0 : Nat) (v1 : Int32) (v2 : Int32) : Nat → Int32 → rr_M → (rr_M → Option (Unit × rr_M)) → Option (Unit × rr_M)
  | 0, _, _, _ => none
  | n + 1, v3, σ, kk =>
    if 9 ≤ v3 then (kk σ) else
    Option.bind (f_Mod_slot v1 v3) fun r_2 =>
    Option.bind (f_Mod_at N v0 v2 v3 σ) fun r_4 =>
    rr_bd (f_Mod_sets fu N v0 r_2 r_4 σ) fun _ σ_6 =>
    rr_lt (v3 + 1) fun v3_8 =>
    l_Mod_takes_2 fu N v0 v1 v2 n v3_8 σ_6 kk
theorem lw_Mod_takes_2 {X : rr_X} {G : rr_G} {l : Launch} {fu : Nat} (hG : G.2.2.1.Nodup) (hll : X.2.1 = l) (C : rr_C X G cX11_takes 4 "RootRowsModel" none 2 47) {σr : rr_M} (v0 : Nat) (m_v0 : v0 ∈ G.2.2.1) (k_v0 : G.2.2.2.1 v0 = 9) (v1 : Int32) (v2 : Int32) : ∀ (n : Nat) (v3 : Int32) (σ : rr_M) (K : rr_M → Option (Unit × rr_M)), l_Mod_takes_2 fu G.2.2.2.2 v0 v1 v2 n v3 σ K = some ((), σr) → (∀ (σ1 : rr_M), K σ1 = some ((), σr) → rr_J X G 4 (rr_E X G σr none) σ1 29 [(0, .ref v0), (1, .int v1), (2, .int v2)] []) → rr_J X G 4 (rr_E X G σr none) σ 2 [(0, .ref v0), (1, .int v1), (2, .int v2), (3, .int v3)] [] := by
  intro n
  induction n with
  | zero =>
    intro v3 σ K hm
    cases hm
  | succ n ih =>
    intro v3 σ K hm hk
    unfold l_Mod_takes_2 at hm
    refine rx_iload_n C 3 dX11_takes_2 rfl ?_
    refine rx_bipush (v := 9) C dX11_takes_3 rfl ?_
    refine rx_icmp_ge (tgt := 29) C dX11_takes_5 (by decide) hm (fun h_1 hm => ?_) (fun h_1 hm => ?_)
    · refine rx_lv [0, 1, 2] rfl ?_
      exact hk _ hm
    refine rx_aload_n C 0 dX11_takes_8 rfl ?_
    refine rx_iload_n C 1 dX11_takes_9 rfl ?_
    refine rx_iload_n C 3 dX11_takes_10 rfl ?_
    obtain ⟨r_2, hc_3, hm⟩ := rr_b0_some hm
    refine rr_callS (rest := [.ref v0]) (st1 := [.int r_2, .ref v0]) C hll (c_Mod_slot l G hG v1 v3 σ _ hc_3) q_989 q_990 q_11 q_991 hd_Mod_slot ⟨by decide, by decide⟩ rfl rfl (Nat.le_of_ble_eq_true rfl) rfl dX11_takes_11 ?_
    refine rx_aload_n C 0 dX11_takes_14 rfl ?_
    refine rx_iload_n C 2 dX11_takes_15 rfl ?_
    refine rx_iload_n C 3 dX11_takes_16 rfl ?_
    obtain ⟨r_4, hc_5, hm⟩ := rr_b0_some hm
    refine rr_callV (rest := [.int r_2, .ref v0]) (st1 := [.long r_4, .int r_2, .ref v0]) C 9 hll (c_Mod_at l G hG v0 m_v0 k_v0 v2 v3 σ _ hc_5) q_950 q_952 qs_44 q_11 q_953 hd_Mod_at ⟨_, rfl, rfl⟩ (by decide) m_v0 k_v0 ⟨by decide, by decide⟩ rfl rfl (Nat.le_of_ble_eq_true rfl) rfl dX11_takes_17 ?_
    obtain ⟨_, σ_6, hc_7, hm⟩ := rr_bd_some hm
    refine rr_callV (rest := []) (st1 := []) C 9 hll (c_Mod_sets l G hG fu v0 m_v0 k_v0 r_2 r_4 σ _ hc_7) q_992 q_994 qs_49 q_11 q_995 hd_Mod_sets ⟨_, rfl, rfl⟩ (by decide) m_v0 k_v0 ⟨by decide, by decide⟩ rfl rfl (Nat.le_of_ble_eq_true rfl) rfl dX11_takes_20 ?_
    refine rx_iinc (d := 1) (lv1 := fun v => [(3, .int v), (0, .ref v0), (1, .int v1), (2, .int v2)]) C 3 dX11_takes_23 hm rfl rfl (by decide) (fun _ => rfl) (fun v3_8 hm => ?_)
    refine rx_goto (tgt := 2) C dX11_takes_26 (by decide) ?_
    refine rx_lv [1, 2, 3, 0] rfl ?_
    exact ih _ _ _ hm hk
def f_Mod_takes (fu : Nat) (N : Nat → Nat) (v0 : Nat) (v1 : Int32) (v2 : Int32) (σ : rr_M) : Option (Unit × rr_M) :=
    l_Mod_takes_2 fu N v0 v1 v2 fu 0 σ (fun σ_9 =>
    rr_lt (mg_r σ_9 v0 6) fun p_10 =>
    Option.bind (f_Mod_degreeOf fu N v0 v2 σ_9) fun r_11 =>
    (if rr_ix v1 (N p_10) then rr_lt (ms_i σ_9 p_10 (rr_n v1) r_11) fun σ_13 =>
    some ((), σ_13) else none))
theorem c_Mod_takes (l : Launch) (G : rr_G) (hG : G.2.2.1.Nodup) (fu : Nat) (v0 : Nat) (m_v0 : v0 ∈ G.2.2.1) (k_v0 : G.2.2.2.1 v0 = 9) (v1 : Int32) (v2 : Int32) (σ : rr_M) (σr : rr_M) (hm : f_Mod_takes fu G.2.2.2.2 v0 v1 v2 σ = some ((), σr)) : rr_Met l G yX11_takes cX11_takes 4 none 2 47 [.ref v0, .int v1, .int v2] σ σr none := by
  refine rr_enter (lv0 := [(0, .ref v0), (1, .int v1), (2, .int v2)]) hp_Mod_takes hG (Nat.le_of_ble_eq_true rfl) rfl (fun X hll C => ?_)
  replace C : rr_C X G cX11_takes 4 "RootRowsModel" none 2 47 := C
  unfold f_Mod_takes at hm
  refine rx_iconst (v := 0) C dX11_takes_0 rfl ?_
  refine rx_istore_n (lv1 := [(3, .int 0), (0, .ref v0), (1, .int v1), (2, .int v2)]) C dX11_takes_1 (by decide) rfl ?_
  refine rx_lv [1, 2, 3, 0] rfl ?_
  refine lw_Mod_takes_2 hG hll C v0 m_v0 k_v0 v1 v2 _ _ _ _ hm (fun σ_9 hm => ?_)
  refine rx_aload_n C 0 dX11_takes_29 rfl ?_
  refine gf_847 C m_v0 k_v0 dX11_takes_30 hm (fun p_10 m_p_10 k_p_10 hm => ?_)
  refine rx_iload_n C 1 dX11_takes_33 rfl ?_
  refine rx_aload_n C 0 dX11_takes_34 rfl ?_
  refine rx_iload_n C 2 dX11_takes_35 rfl ?_
  obtain ⟨r_11, hc_12, hm⟩ := rr_b0_some hm
  refine rr_callV (rest := [.int v1, .ref p_10]) (st1 := [.int r_11, .int v1, .ref p_10]) C 9 hll (c_Mod_degreeOf l G hG fu v0 m_v0 k_v0 v2 σ_9 _ hc_12) q_997 q_999 qs_50 q_11 q_1000 hd_Mod_degreeOf ⟨_, rfl, rfl⟩ (by decide) m_v0 k_v0 ⟨by decide, by decide⟩ rfl rfl (Nat.le_of_ble_eq_true rfl) rfl dX11_takes_36 ?_
  refine rx_iast C m_p_10 k_p_10 dX11_takes_39 hm (fun σ_13 hm => ?_)
  exact rx_vret C dX11_takes_40 hm
def f_Mod_proves (fu : Nat) (N : Nat → Nat) (v0 : Nat) (v1 : Int32) (v2 : Int32) (σ : rr_M) : Option (Int32 × rr_M) :=
    rr_bd (f_Mod_takes fu N v0 v1 v2 σ) fun _ σ_1 =>
    rr_bd (f_Mod_slopes fu N v0 (v1 + 1) v2 σ_1) fun _ σ_3 =>
    rr_bd (f_Mod_leavesAll fu N v0 v1 σ_3) fun r_5 σ_6 =>
    some (r_5, σ_6)
theorem c_Mod_proves (l : Launch) (G : rr_G) (hG : G.2.2.1.Nodup) (fu : Nat) (v0 : Nat) (m_v0 : v0 ∈ G.2.2.1) (k_v0 : G.2.2.2.1 v0 = 9) (v1 : Int32) (v2 : Int32) (σ : rr_M) (r : Int32) (σr : rr_M) (hm : f_Mod_proves fu G.2.2.2.2 v0 v1 v2 σ = some (r, σr)) : rr_Met l G yX11_proves cX11_proves 3 (some .int) 5 135 [.ref v0, .int v1, .int v2] σ σr (some (.int r)) := by
  refine rr_enter (lv0 := [(0, .ref v0), (1, .int v1), (2, .int v2)]) hp_Mod_proves hG (Nat.le_of_ble_eq_true rfl) rfl (fun X hll C => ?_)
  replace C : rr_C X G cX11_proves 3 "RootRowsModel" (some .int) 5 135 := C
  unfold f_Mod_proves at hm
  refine rx_aload_n C 0 dX11_proves_0 rfl ?_
  refine rx_iload_n C 1 dX11_proves_1 rfl ?_
  refine rx_iload_n C 2 dX11_proves_2 rfl ?_
  obtain ⟨_, σ_1, hc_2, hm⟩ := rr_bd_some hm
  refine rr_callV (rest := []) (st1 := []) C 9 hll (c_Mod_takes l G hG fu v0 m_v0 k_v0 v1 v2 σ _ hc_2) q_985 q_987 qs_48 q_11 q_988 hd_Mod_takes ⟨_, rfl, rfl⟩ (by decide) m_v0 k_v0 ⟨by decide, by decide⟩ rfl rfl (Nat.le_of_ble_eq_true rfl) rfl dX11_proves_3 ?_
  refine rx_aload_n C 0 dX11_proves_6 rfl ?_
  refine rx_iload_n C 1 dX11_proves_7 rfl ?_
  refine rx_iconst (v := 1) C dX11_proves_8 rfl ?_
  refine rx_iadd C dX11_proves_9 ?_
  refine rx_iload_n C 2 dX11_proves_10 rfl ?_
  obtain ⟨_, σ_3, hc_4, hm⟩ := rr_bd_some hm
  refine rr_callV (rest := []) (st1 := []) C 9 hll (c_Mod_slopes l G hG fu v0 m_v0 k_v0 (v1 + 1) v2 σ_1 _ hc_4) q_1067 q_1069 qs_63 q_11 q_1070 hd_Mod_slopes ⟨_, rfl, rfl⟩ (by decide) m_v0 k_v0 ⟨by decide, by decide⟩ rfl rfl (Nat.le_of_ble_eq_true rfl) rfl dX11_proves_11 ?_
  refine rx_aload_n C 0 dX11_proves_14 rfl ?_
  refine rx_iload_n C 1 dX11_proves_15 rfl ?_
  obtain ⟨r_5, σ_6, hc_7, hm⟩ := rr_bd_some hm
  refine rr_callV (rest := []) (st1 := [.int r_5]) C 9 hll (c_Mod_leavesAll l G hG fu v0 m_v0 k_v0 v1 σ_3 _ _ hc_7) q_1071 q_1073 qs_64 q_11 q_1074 hd_Mod_leavesAll ⟨_, rfl, rfl⟩ (by decide) m_v0 k_v0 ⟨by decide, by decide⟩ rfl rfl (Nat.le_of_ble_eq_true rfl) rfl dX11_proves_16 ?_
  exact rx_iret C dX11_proves_19 hm
def l_Mod_lays_9 (fu : Nat) (N : Nat → Nat) (v0 : Nat) (v1 : Int32) : Nat → Int32 → rr_M → (rr_M → Option (Unit × rr_M)) → Option (Unit × rr_M)
  | 0, _, _, _ => none
  | n + 1, v3, σ, kk =>
    if 9 ≤ v3 then (kk σ) else
    Option.bind (f_Mod_at N v0 v1 v3 σ) fun r_3 =>
    rr_bd (f_Mod_puts N v0 8 v3 r_3 σ) fun _ σ_5 =>
    rr_lt (v3 + 1) fun v3_7 =>
    l_Mod_lays_9 fu N v0 v1 n v3_7 σ_5 kk
theorem lw_Mod_lays_9 {X : rr_X} {G : rr_G} {l : Launch} {fu : Nat} (hG : G.2.2.1.Nodup) (hll : X.2.1 = l) (C : rr_C X G cX11_lays 5 "RootRowsModel" none 6 157) {σr : rr_M} (v0 : Nat) (m_v0 : v0 ∈ G.2.2.1) (k_v0 : G.2.2.2.1 v0 = 9) (v1 : Int32) (v2 : Int32) : ∀ (n : Nat) (v3 : Int32) (σ : rr_M) (K : rr_M → Option (Unit × rr_M)), l_Mod_lays_9 fu G.2.2.2.2 v0 v1 n v3 σ K = some ((), σr) → (∀ (σ1 : rr_M), K σ1 = some ((), σr) → rr_J X G 5 (rr_E X G σr none) σ1 34 [(0, .ref v0), (2, .int v2)] []) → rr_J X G 5 (rr_E X G σr none) σ 9 [(0, .ref v0), (1, .int v1), (2, .int v2), (3, .int v3)] [] := by
  intro n
  induction n with
  | zero =>
    intro v3 σ K hm
    cases hm
  | succ n ih =>
    intro v3 σ K hm hk
    unfold l_Mod_lays_9 at hm
    refine rx_iload_n C 3 dX11_lays_9 rfl ?_
    refine rx_bipush (v := 9) C dX11_lays_10 rfl ?_
    refine rx_icmp_ge (tgt := 34) C dX11_lays_12 (by decide) hm (fun h_2 hm => ?_) (fun h_2 hm => ?_)
    · refine rx_lv [0, 2] rfl ?_
      exact hk _ hm
    refine rx_aload_n C 0 dX11_lays_15 rfl ?_
    refine rx_bipush (v := 8) C dX11_lays_16 rfl ?_
    refine rx_iload_n C 3 dX11_lays_18 rfl ?_
    refine rx_aload_n C 0 dX11_lays_19 rfl ?_
    refine rx_iload_n C 1 dX11_lays_20 rfl ?_
    refine rx_iload_n C 3 dX11_lays_21 rfl ?_
    obtain ⟨r_3, hc_4, hm⟩ := rr_b0_some hm
    refine rr_callV (rest := [.int v3, .int 8, .ref v0]) (st1 := [.long r_3, .int v3, .int 8, .ref v0]) C 9 hll (c_Mod_at l G hG v0 m_v0 k_v0 v1 v3 σ _ hc_4) q_950 q_952 qs_44 q_11 q_953 hd_Mod_at ⟨_, rfl, rfl⟩ (by decide) m_v0 k_v0 ⟨by decide, by decide⟩ rfl rfl (Nat.le_of_ble_eq_true rfl) rfl dX11_lays_22 ?_
    obtain ⟨_, σ_5, hc_6, hm⟩ := rr_bd_some hm
    refine rr_callV (rest := []) (st1 := []) C 9 hll (c_Mod_puts l G hG v0 m_v0 k_v0 8 v3 r_3 σ _ hc_6) q_921 q_923 qs_38 q_11 q_924 hd_Mod_puts ⟨_, rfl, rfl⟩ (by decide) m_v0 k_v0 ⟨by decide, by decide⟩ rfl rfl (Nat.le_of_ble_eq_true rfl) rfl dX11_lays_25 ?_
    refine rx_iinc (d := 1) (lv1 := fun v => [(3, .int v), (0, .ref v0), (1, .int v1), (2, .int v2)]) C 3 dX11_lays_28 hm rfl rfl (by decide) (fun _ => rfl) (fun v3_7 hm => ?_)
    refine rx_goto (tgt := 9) C dX11_lays_31 (by decide) ?_
    refine rx_lv [1, 2, 3, 0] rfl ?_
    exact ih _ _ _ hm hk
def l_Mod_lays_117 (fu : Nat) (N : Nat → Nat) (v0 : Nat) : Nat → Int32 → rr_M → (rr_M → Option (Unit × rr_M)) → Option (Unit × rr_M)
  | 0, _, _, _ => none
  | n + 1, v4, σ, kk =>
    if 9 ≤ v4 then (kk σ) else
    Option.bind (f_Mod_at N v0 9 v4 σ) fun r_29 =>
    rr_bd (f_Mod_puts N v0 8 v4 r_29 σ) fun _ σ_31 =>
    rr_lt (v4 + 1) fun v4_33 =>
    l_Mod_lays_117 fu N v0 n v4_33 σ_31 kk
theorem lw_Mod_lays_117 {X : rr_X} {G : rr_G} {l : Launch} {fu : Nat} (hG : G.2.2.1.Nodup) (hll : X.2.1 = l) (C : rr_C X G cX11_lays 5 "RootRowsModel" none 6 157) {σr : rr_M} (v0 : Nat) (m_v0 : v0 ∈ G.2.2.1) (k_v0 : G.2.2.2.1 v0 = 9) (v2 : Int32) : ∀ (n : Nat) (v4 : Int32) (σ : rr_M) (K : rr_M → Option (Unit × rr_M)), l_Mod_lays_117 fu G.2.2.2.2 v0 n v4 σ K = some ((), σr) → (∀ (σ1 : rr_M), K σ1 = some ((), σr) → rr_J X G 5 (rr_E X G σr none) σ1 146 [(0, .ref v0), (2, .int v2)] []) → rr_J X G 5 (rr_E X G σr none) σ 117 [(0, .ref v0), (2, .int v2), (4, .int v4)] [] := by
  intro n
  induction n with
  | zero =>
    intro v4 σ K hm
    cases hm
  | succ n ih =>
    intro v4 σ K hm hk
    unfold l_Mod_lays_117 at hm
    refine rx_iload C 2 dX11_lays_117 rfl ?_
    refine rx_bipush (v := 9) C dX11_lays_119 rfl ?_
    refine rx_icmp_ge (tgt := 146) C dX11_lays_121 (by decide) hm (fun h_28 hm => ?_) (fun h_28 hm => ?_)
    · refine rx_lv [0, 1] rfl ?_
      exact hk _ hm
    refine rx_aload_n C 0 dX11_lays_124 rfl ?_
    refine rx_bipush (v := 8) C dX11_lays_125 rfl ?_
    refine rx_iload C 2 dX11_lays_127 rfl ?_
    refine rx_aload_n C 0 dX11_lays_129 rfl ?_
    refine rx_bipush (v := 9) C dX11_lays_130 rfl ?_
    refine rx_iload C 2 dX11_lays_132 rfl ?_
    obtain ⟨r_29, hc_30, hm⟩ := rr_b0_some hm
    refine rr_callV (rest := [.int v4, .int 8, .ref v0]) (st1 := [.long r_29, .int v4, .int 8, .ref v0]) C 9 hll (c_Mod_at l G hG v0 m_v0 k_v0 9 v4 σ _ hc_30) q_950 q_952 qs_44 q_11 q_953 hd_Mod_at ⟨_, rfl, rfl⟩ (by decide) m_v0 k_v0 ⟨by decide, by decide⟩ rfl rfl (Nat.le_of_ble_eq_true rfl) rfl dX11_lays_134 ?_
    obtain ⟨_, σ_31, hc_32, hm⟩ := rr_bd_some hm
    refine rr_callV (rest := []) (st1 := []) C 9 hll (c_Mod_puts l G hG v0 m_v0 k_v0 8 v4 r_29 σ _ hc_32) q_921 q_923 qs_38 q_11 q_924 hd_Mod_puts ⟨_, rfl, rfl⟩ (by decide) m_v0 k_v0 ⟨by decide, by decide⟩ rfl rfl (Nat.le_of_ble_eq_true rfl) rfl dX11_lays_137 ?_
    refine rx_iinc (d := 1) (lv1 := fun v => [(4, .int v), (0, .ref v0), (2, .int v2)]) C 2 dX11_lays_140 hm rfl rfl (by decide) (fun _ => rfl) (fun v4_33 hm => ?_)
    refine rx_goto (tgt := 117) C dX11_lays_143 (by decide) ?_
    refine rx_lv [1, 2, 0] rfl ?_
    exact ih _ _ _ hm hk
def l_Mod_lays_34 (fu : Nat) (N : Nat → Nat) (v0 : Nat) : Nat → Int32 → rr_M → (rr_M → Option (Unit × rr_M)) → Option (Unit × rr_M)
  | 0, _, _, _ => none
  | n + 1, v2, σ, kk =>
    Option.bind (f_Mod_degreeOf fu N v0 8 σ) fun r_9 =>
    if r_9 ≤ 0 then (kk σ) else
    rr_bd (f_Mod_proves fu N v0 36 8 σ) fun r_12 σ_13 =>
    rr_bd (f_Mod_plains fu N v0 9 ((36 + r_12) - 1) σ_13) fun _ σ_15 =>
    rr_bd (f_Mod_divides fu N v0 14 8 9 σ_15) fun _ σ_17 =>
    rr_lt (mg_r σ_17 v0 9) fun p_19 =>
    (if rr_ix (mg_i σ_17 v0 11) (N p_19) then rr_lt (ms_i σ_17 p_19 (rr_n (mg_i σ_17 v0 11)) v2) fun σ_20 =>
    rr_lt (mg_r σ_20 v0 10) fun p_21 =>
    rr_bd (f_Mod_proves fu N v0 v2 14 σ_20) fun r_22 σ_23 =>
    (if rr_ix (mg_i σ_20 v0 11) (N p_21) then rr_lt (ms_i σ_23 p_21 (rr_n (mg_i σ_20 v0 11)) r_22) fun σ_25 =>
    rr_lt (mg_r σ_25 v0 10) fun p_26 =>
    (if rr_ix (mg_i σ_25 v0 11) (N p_26) then
    rr_lt (v2 + ((mg_i σ_25 p_26 (rr_n (mg_i σ_25 v0 11))) + 1)) fun v2_27 =>
    l_Mod_lays_117 fu N v0 fu 0 σ_25 (fun σ_34 =>
    rr_lt (ms_i σ_34 v0 11 ((mg_i σ_34 v0 11) + 1)) fun σ_35 =>
    l_Mod_lays_34 fu N v0 n v2_27 σ_35 kk) else none) else none) else none)
theorem lw_Mod_lays_34 {X : rr_X} {G : rr_G} {l : Launch} {fu : Nat} (hG : G.2.2.1.Nodup) (hll : X.2.1 = l) (C : rr_C X G cX11_lays 5 "RootRowsModel" none 6 157) {σr : rr_M} (v0 : Nat) (m_v0 : v0 ∈ G.2.2.1) (k_v0 : G.2.2.2.1 v0 = 9) : ∀ (n : Nat) (v2 : Int32) (σ : rr_M) (K : rr_M → Option (Unit × rr_M)), l_Mod_lays_34 fu G.2.2.2.2 v0 n v2 σ K = some ((), σr) → (∀ (σ1 : rr_M), K σ1 = some ((), σr) → rr_J X G 5 (rr_E X G σr none) σ1 159 [] []) → rr_J X G 5 (rr_E X G σr none) σ 34 [(0, .ref v0), (2, .int v2)] [] := by
  intro n
  induction n with
  | zero =>
    intro v2 σ K hm
    cases hm
  | succ n ih =>
    intro v2 σ K hm hk
    unfold l_Mod_lays_34 at hm
    refine rx_aload_n C 0 dX11_lays_34 rfl ?_
    refine rx_bipush (v := 8) C dX11_lays_35 rfl ?_
    obtain ⟨r_9, hc_10, hm⟩ := rr_b0_some hm
    refine rr_callV (rest := []) (st1 := [.int r_9]) C 9 hll (c_Mod_degreeOf l G hG fu v0 m_v0 k_v0 8 σ _ hc_10) q_997 q_999 qs_50 q_11 q_1000 hd_Mod_degreeOf ⟨_, rfl, rfl⟩ (by decide) m_v0 k_v0 ⟨by decide, by decide⟩ rfl rfl (Nat.le_of_ble_eq_true rfl) rfl dX11_lays_37 ?_
    refine rx_if_le (tgt := 159) C dX11_lays_40 (by decide) hm (fun h_11 hm => ?_) (fun h_11 hm => ?_)
    · refine rx_lv [] rfl ?_
      exact hk _ hm
    refine rx_aload_n C 0 dX11_lays_43 rfl ?_
    refine rx_bipush (v := 36) C dX11_lays_44 rfl ?_
    refine rx_bipush (v := 8) C dX11_lays_46 rfl ?_
    obtain ⟨r_12, σ_13, hc_14, hm⟩ := rr_bd_some hm
    refine rr_callV (rest := []) (st1 := [.int r_12]) C 9 hll (c_Mod_proves l G hG fu v0 m_v0 k_v0 36 8 σ _ _ hc_14) q_1063 q_1065 qs_62 q_11 q_1066 hd_Mod_proves ⟨_, rfl, rfl⟩ (by decide) m_v0 k_v0 ⟨by decide, by decide⟩ rfl rfl (Nat.le_of_ble_eq_true rfl) rfl dX11_lays_48 ?_
    refine rx_istore_n (lv1 := [(3, .int r_12), (0, .ref v0), (2, .int v2)]) C dX11_lays_51 (by decide) rfl ?_
    refine rx_aload_n C 1 dX11_lays_52 rfl ?_
    refine rx_bipush (v := 9) C dX11_lays_53 rfl ?_
    refine rx_bipush (v := 36) C dX11_lays_55 rfl ?_
    refine rx_iload_n C 0 dX11_lays_57 rfl ?_
    refine rx_iadd C dX11_lays_58 ?_
    refine rx_iconst (v := 1) C dX11_lays_59 rfl ?_
    refine rx_isub C dX11_lays_60 ?_
    obtain ⟨_, σ_15, hc_16, hm⟩ := rr_bd_some hm
    refine rr_callV (rest := []) (st1 := []) C 9 hll (c_Mod_plains l G hG fu v0 m_v0 k_v0 9 ((36 + r_12) - 1) σ_13 _ hc_16) q_1095 q_1097 qs_70 q_11 q_1098 hd_Mod_plains ⟨_, rfl, rfl⟩ (by decide) m_v0 k_v0 ⟨by decide, by decide⟩ rfl rfl (Nat.le_of_ble_eq_true rfl) rfl dX11_lays_61 ?_
    refine rx_aload_n C 1 dX11_lays_64 rfl ?_
    refine rx_bipush (v := 14) C dX11_lays_65 rfl ?_
    refine rx_bipush (v := 8) C dX11_lays_67 rfl ?_
    refine rx_bipush (v := 9) C dX11_lays_69 rfl ?_
    obtain ⟨_, σ_17, hc_18, hm⟩ := rr_bd_some hm
    refine rr_callV (rest := []) (st1 := []) C 9 hll (c_Mod_divides l G hG fu v0 m_v0 k_v0 14 8 9 σ_15 _ hc_18) q_1103 q_1105 qs_72 q_11 q_1106 hd_Mod_divides ⟨_, rfl, rfl⟩ (by decide) m_v0 k_v0 ⟨by decide, by decide⟩ rfl rfl (Nat.le_of_ble_eq_true rfl) rfl dX11_lays_71 ?_
    refine rx_aload_n C 1 dX11_lays_74 rfl ?_
    refine gf_850 C m_v0 k_v0 dX11_lays_75 hm (fun p_19 m_p_19 k_p_19 hm => ?_)
    refine rx_aload_n C 1 dX11_lays_78 rfl ?_
    refine gf_852 C m_v0 k_v0 dX11_lays_79 ?_
    refine rx_iload_n C 2 dX11_lays_82 rfl ?_
    refine rx_iast C m_p_19 k_p_19 dX11_lays_83 hm (fun σ_20 hm => ?_)
    refine rx_aload_n C 1 dX11_lays_84 rfl ?_
    refine gf_851 C m_v0 k_v0 dX11_lays_85 hm (fun p_21 m_p_21 k_p_21 hm => ?_)
    refine rx_aload_n C 1 dX11_lays_88 rfl ?_
    refine gf_852 C m_v0 k_v0 dX11_lays_89 ?_
    refine rx_aload_n C 1 dX11_lays_92 rfl ?_
    refine rx_iload_n C 2 dX11_lays_93 rfl ?_
    refine rx_bipush (v := 14) C dX11_lays_94 rfl ?_
    obtain ⟨r_22, σ_23, hc_24, hm⟩ := rr_bd_some hm
    refine rr_callV (rest := [.int (mg_i σ_20 v0 11), .ref p_21]) (st1 := [.int r_22, .int (mg_i σ_20 v0 11), .ref p_21]) C 9 hll (c_Mod_proves l G hG fu v0 m_v0 k_v0 v2 14 σ_20 _ _ hc_24) q_1063 q_1065 qs_62 q_11 q_1066 hd_Mod_proves ⟨_, rfl, rfl⟩ (by decide) m_v0 k_v0 ⟨by decide, by decide⟩ rfl rfl (Nat.le_of_ble_eq_true rfl) rfl dX11_lays_96 ?_
    refine rx_iast C m_p_21 k_p_21 dX11_lays_99 hm (fun σ_25 hm => ?_)
    refine rx_iload_n C 2 dX11_lays_100 rfl ?_
    refine rx_aload_n C 1 dX11_lays_101 rfl ?_
    refine gf_851 C m_v0 k_v0 dX11_lays_102 hm (fun p_26 m_p_26 k_p_26 hm => ?_)
    refine rx_aload_n C 1 dX11_lays_105 rfl ?_
    refine gf_852 C m_v0 k_v0 dX11_lays_106 ?_
    refine rx_iald C m_p_26 k_p_26 dX11_lays_109 hm (fun hm => ?_)
    refine rx_iconst (v := 1) C dX11_lays_110 rfl ?_
    refine rx_iadd C dX11_lays_111 ?_
    refine rx_iadd C dX11_lays_112 ?_
    refine rx_nmi hm (fun v2_27 ev2_27 hm => ?_)
    refine rx_istore_n (lv1 := [(2, .int v2_27), (3, .int r_12), (0, .ref v0)]) C dX11_lays_113 (by decide) rfl ?_
    refine rx_iconst (v := 0) C dX11_lays_114 rfl ?_
    refine rx_istore (lv1 := [(4, .int 0), (2, .int v2_27), (3, .int r_12), (0, .ref v0)]) C dX11_lays_115 (by decide) rfl ?_
    refine rx_lv [3, 1, 0] rfl ?_
    refine lw_Mod_lays_117 hG hll C v0 m_v0 k_v0 v2_27 _ _ _ _ hm (fun σ_34 hm => ?_)
    refine rx_aload_n C 0 dX11_lays_146 rfl ?_
    refine rx_dup C dX11_lays_147 rfl ?_
    refine gf_852 C m_v0 k_v0 dX11_lays_148 ?_
    refine rx_iconst (v := 1) C dX11_lays_151 rfl ?_
    refine rx_iadd C dX11_lays_152 ?_
    refine pf_852 C m_v0 k_v0 dX11_lays_153 hm (fun σ_35 hm => ?_)
    refine rx_goto (tgt := 34) C dX11_lays_156 (by decide) ?_
    refine rx_lv [0, 1] rfl ?_
    exact ih _ _ _ hm hk
def f_Mod_lays (fu : Nat) (N : Nat → Nat) (v0 : Nat) (v1 : Int32) (σ : rr_M) : Option (Unit × rr_M) :=
    rr_lt (ms_i σ v0 11 0) fun σ_1 =>
    l_Mod_lays_9 fu N v0 v1 fu 0 σ_1 (fun σ_8 =>
    l_Mod_lays_34 fu N v0 fu 0 σ_8 (fun σ_36 =>
    some ((), σ_36)))
theorem c_Mod_lays (l : Launch) (G : rr_G) (hG : G.2.2.1.Nodup) (fu : Nat) (v0 : Nat) (m_v0 : v0 ∈ G.2.2.1) (k_v0 : G.2.2.2.1 v0 = 9) (v1 : Int32) (σ : rr_M) (σr : rr_M) (hm : f_Mod_lays fu G.2.2.2.2 v0 v1 σ = some ((), σr)) : rr_Met l G yX11_lays cX11_lays 5 none 6 157 [.ref v0, .int v1] σ σr none := by
  refine rr_enter (lv0 := [(0, .ref v0), (1, .int v1)]) hp_Mod_lays hG (Nat.le_of_ble_eq_true rfl) rfl (fun X hll C => ?_)
  replace C : rr_C X G cX11_lays 5 "RootRowsModel" none 6 157 := C
  unfold f_Mod_lays at hm
  refine rx_aload_n C 0 dX11_lays_0 rfl ?_
  refine rx_iconst (v := 0) C dX11_lays_1 rfl ?_
  refine pf_852 C m_v0 k_v0 dX11_lays_2 hm (fun σ_1 hm => ?_)
  refine rx_iconst (v := 0) C dX11_lays_5 rfl ?_
  refine rx_istore_n (lv1 := [(2, .int 0), (0, .ref v0), (1, .int v1)]) C dX11_lays_6 (by decide) rfl ?_
  refine rx_iconst (v := 0) C dX11_lays_7 rfl ?_
  refine rx_istore_n (lv1 := [(3, .int 0), (2, .int 0), (0, .ref v0), (1, .int v1)]) C dX11_lays_8 (by decide) rfl ?_
  refine rx_lv [2, 3, 1, 0] rfl ?_
  refine lw_Mod_lays_9 hG hll C v0 m_v0 k_v0 v1 0 _ _ _ _ hm (fun σ_8 hm => ?_)
  refine rx_lv [0, 1] rfl ?_
  refine lw_Mod_lays_34 hG hll C v0 m_v0 k_v0 _ _ _ _ hm (fun σ_36 hm => ?_)
  exact rx_vret C dX11_lays_159 hm
def f_Mod_realRoots (fu : Nat) (N : Nat → Nat) (v0 : Nat) (v1 : Int32) (σ : rr_M) : Option (Int32) :=
    rr_lt (mg_r σ v0 9) fun p_1 =>
    (if rr_ix v1 (N p_1) then
    rr_lt (mg_r σ v0 10) fun p_2 =>
    (if rr_ix v1 (N p_2) then
    Option.bind (f_Mod_changesOut fu N v0 (mg_i σ p_1 (rr_n v1)) (mg_i σ p_2 (rr_n v1)) 1 σ) fun r_3 =>
    rr_lt (mg_r σ v0 9) fun p_5 =>
    (if rr_ix v1 (N p_5) then
    rr_lt (mg_r σ v0 10) fun p_6 =>
    (if rr_ix v1 (N p_6) then
    Option.bind (f_Mod_changesOut fu N v0 (mg_i σ p_5 (rr_n v1)) (mg_i σ p_6 (rr_n v1)) 0 σ) fun r_7 =>
    some (r_3 - r_7) else none) else none) else none) else none)
theorem c_Mod_realRoots (l : Launch) (G : rr_G) (hG : G.2.2.1.Nodup) (fu : Nat) (v0 : Nat) (m_v0 : v0 ∈ G.2.2.1) (k_v0 : G.2.2.2.1 v0 = 9) (v1 : Int32) (σ : rr_M) (r : Int32) (hm : f_Mod_realRoots fu G.2.2.2.2 v0 v1 σ = some r) : rr_Met l G yX11_realRoots cX11_realRoots 2 (some .int) 3 69 [.ref v0, .int v1] σ σ (some (.int r)) := by
  refine rr_enter (lv0 := [(0, .ref v0), (1, .int v1)]) hp_Mod_realRoots hG (Nat.le_of_ble_eq_true rfl) rfl (fun X hll C => ?_)
  replace C : rr_C X G cX11_realRoots 2 "RootRowsModel" (some .int) 3 69 := C
  unfold f_Mod_realRoots at hm
  refine rx_aload_n C 0 dX11_realRoots_0 rfl ?_
  refine rx_aload_n C 0 dX11_realRoots_1 rfl ?_
  refine gf_850 C m_v0 k_v0 dX11_realRoots_2 hm (fun p_1 m_p_1 k_p_1 hm => ?_)
  refine rx_iload_n C 1 dX11_realRoots_5 rfl ?_
  refine rx_iald C m_p_1 k_p_1 dX11_realRoots_6 hm (fun hm => ?_)
  refine rx_aload_n C 0 dX11_realRoots_7 rfl ?_
  refine gf_851 C m_v0 k_v0 dX11_realRoots_8 hm (fun p_2 m_p_2 k_p_2 hm => ?_)
  refine rx_iload_n C 1 dX11_realRoots_11 rfl ?_
  refine rx_iald C m_p_2 k_p_2 dX11_realRoots_12 hm (fun hm => ?_)
  refine rx_iconst (v := 1) C dX11_realRoots_13 rfl ?_
  obtain ⟨r_3, hc_4, hm⟩ := rr_b0_some hm
  refine rr_callV (rest := []) (st1 := [.int r_3]) C 9 hll (c_Mod_changesOut l G hG fu v0 m_v0 k_v0 (mg_i σ p_1 (rr_n v1)) (mg_i σ p_2 (rr_n v1)) 1 σ _ hc_4) q_1115 q_1117 qs_75 q_11 q_1118 hd_Mod_changesOut ⟨_, rfl, rfl⟩ (by decide) m_v0 k_v0 ⟨by decide, by decide⟩ rfl rfl (Nat.le_of_ble_eq_true rfl) rfl dX11_realRoots_14 ?_
  refine rx_aload_n C 0 dX11_realRoots_17 rfl ?_
  refine rx_aload_n C 0 dX11_realRoots_18 rfl ?_
  refine gf_850 C m_v0 k_v0 dX11_realRoots_19 hm (fun p_5 m_p_5 k_p_5 hm => ?_)
  refine rx_iload_n C 1 dX11_realRoots_22 rfl ?_
  refine rx_iald C m_p_5 k_p_5 dX11_realRoots_23 hm (fun hm => ?_)
  refine rx_aload_n C 0 dX11_realRoots_24 rfl ?_
  refine gf_851 C m_v0 k_v0 dX11_realRoots_25 hm (fun p_6 m_p_6 k_p_6 hm => ?_)
  refine rx_iload_n C 1 dX11_realRoots_28 rfl ?_
  refine rx_iald C m_p_6 k_p_6 dX11_realRoots_29 hm (fun hm => ?_)
  refine rx_iconst (v := 0) C dX11_realRoots_30 rfl ?_
  obtain ⟨r_7, hc_8, hm⟩ := rr_b0_some hm
  refine rr_callV (rest := [.int r_3]) (st1 := [.int r_7, .int r_3]) C 9 hll (c_Mod_changesOut l G hG fu v0 m_v0 k_v0 (mg_i σ p_5 (rr_n v1)) (mg_i σ p_6 (rr_n v1)) 0 σ _ hc_8) q_1115 q_1117 qs_75 q_11 q_1118 hd_Mod_changesOut ⟨_, rfl, rfl⟩ (by decide) m_v0 k_v0 ⟨by decide, by decide⟩ rfl rfl (Nat.le_of_ble_eq_true rfl) rfl dX11_realRoots_31 ?_
  refine rx_isub C dX11_realRoots_34 ?_
  exact rx_iretR C dX11_realRoots_35 hm
def l_Mod_roots_4 (fu : Nat) (N : Nat → Nat) (v0 : Nat) (σ : rr_M) : Nat → Int32 → Int32 → (Int32 → Option (Int32)) → Option (Int32)
  | 0, _, _, _ => none
  | n + 1, v1, v2, kk =>
    if (mg_i σ v0 11) ≤ v2 then (kk v1) else
    Option.bind (f_Mod_realRoots fu N v0 v2 σ) fun r_2 =>
    rr_lt (v1 + r_2) fun v1_4 =>
    rr_lt (v2 + 1) fun v2_5 =>
    l_Mod_roots_4 fu N v0 σ n v1_4 v2_5 kk
theorem lw_Mod_roots_4 {X : rr_X} {G : rr_G} {l : Launch} {fu : Nat} (hG : G.2.2.1.Nodup) (hll : X.2.1 = l) (C : rr_C X G cX11_roots 3 "RootRowsModel" (some .int) 4 90) {r : Int32}  (σ : rr_M) (v0 : Nat) (m_v0 : v0 ∈ G.2.2.1) (k_v0 : G.2.2.2.1 v0 = 9) : ∀ (n : Nat) (v1 : Int32) (v2 : Int32) (K : Int32 → Option (Int32)), l_Mod_roots_4 fu G.2.2.2.2 v0 σ n v1 v2 K = some r → (∀ (w1 : Int32), K w1 = some r → rr_J X G 3 (rr_E X G σ (some (.int r))) σ 26 [(1, .int w1)] []) → rr_J X G 3 (rr_E X G σ (some (.int r))) σ 4 [(0, .ref v0), (1, .int v1), (2, .int v2)] [] := by
  intro n
  induction n with
  | zero =>
    intro v1 v2 K hm
    cases hm
  | succ n ih =>
    intro v1 v2 K hm hk
    unfold l_Mod_roots_4 at hm
    refine rx_iload_n C 2 dX11_roots_4 rfl ?_
    refine rx_aload_n C 0 dX11_roots_5 rfl ?_
    refine gf_852 C m_v0 k_v0 dX11_roots_6 ?_
    refine rx_icmp_ge (tgt := 26) C dX11_roots_9 (by decide) hm (fun h_1 hm => ?_) (fun h_1 hm => ?_)
    · refine rx_lv [1] rfl ?_
      exact hk _ hm
    refine rx_iload_n C 1 dX11_roots_12 rfl ?_
    refine rx_aload_n C 0 dX11_roots_13 rfl ?_
    refine rx_iload_n C 2 dX11_roots_14 rfl ?_
    obtain ⟨r_2, hc_3, hm⟩ := rr_b0_some hm
    refine rr_callV (rest := [.int v1]) (st1 := [.int r_2, .int v1]) C 9 hll (c_Mod_realRoots l G hG fu v0 m_v0 k_v0 v2 σ _ hc_3) q_1111 q_1113 qs_74 q_11 q_1114 hd_Mod_realRoots ⟨_, rfl, rfl⟩ (by decide) m_v0 k_v0 ⟨by decide, by decide⟩ rfl rfl (Nat.le_of_ble_eq_true rfl) rfl dX11_roots_15 ?_
    refine rx_iadd C dX11_roots_18 ?_
    refine rx_nmi hm (fun v1_4 ev1_4 hm => ?_)
    refine rx_istore_n (lv1 := [(1, .int v1_4), (0, .ref v0), (2, .int v2)]) C dX11_roots_19 (by decide) rfl ?_
    refine rx_iinc (d := 1) (lv1 := fun v => [(2, .int v), (1, .int v1_4), (0, .ref v0)]) C 2 dX11_roots_20 hm rfl rfl (by decide) (fun _ => rfl) (fun v2_5 hm => ?_)
    refine rx_goto (tgt := 4) C dX11_roots_23 (by decide) ?_
    refine rx_lv [2, 1, 0] rfl ?_
    exact ih _ _ _ hm hk
def f_Mod_roots (fu : Nat) (N : Nat → Nat) (v0 : Nat) (σ : rr_M) : Option (Int32) :=
    l_Mod_roots_4 fu N v0 σ fu 0 0 (fun v1_6 =>
    some (v1_6))
theorem c_Mod_roots (l : Launch) (G : rr_G) (hG : G.2.2.1.Nodup) (fu : Nat) (v0 : Nat) (m_v0 : v0 ∈ G.2.2.1) (k_v0 : G.2.2.2.1 v0 = 9) (σ : rr_M) (r : Int32) (hm : f_Mod_roots fu G.2.2.2.2 v0 σ = some r) : rr_Met l G yX11_roots cX11_roots 3 (some .int) 4 90 [.ref v0] σ σ (some (.int r)) := by
  refine rr_enter (lv0 := [(0, .ref v0)]) hp_Mod_roots hG (Nat.le_of_ble_eq_true rfl) rfl (fun X hll C => ?_)
  replace C : rr_C X G cX11_roots 3 "RootRowsModel" (some .int) 4 90 := C
  unfold f_Mod_roots at hm
  refine rx_iconst (v := 0) C dX11_roots_0 rfl ?_
  refine rx_istore_n (lv1 := [(1, .int 0), (0, .ref v0)]) C dX11_roots_1 (by decide) rfl ?_
  refine rx_iconst (v := 0) C dX11_roots_2 rfl ?_
  refine rx_istore_n (lv1 := [(2, .int 0), (1, .int 0), (0, .ref v0)]) C dX11_roots_3 (by decide) rfl ?_
  refine rx_lv [2, 1, 0] rfl ?_
  refine lw_Mod_roots_4 hG hll C σ v0 m_v0 k_v0 _ _ _ _ hm (fun v1_6 hm => ?_)
  refine rx_iload_n C 0 dX11_roots_26 rfl ?_
  exact rx_iretR C dX11_roots_27 hm
def f_Mod_isWhole (fu : Nat) (N : Nat → Nat) (v0 : Nat) (v1 : Int32) (σ : rr_M) : Option (Int32 × rr_M) :=
    Option.bind (f_Mod_degreeOf fu N v0 v1 σ) fun r_1 =>
    if 0 ≤ r_1 then (rr_bd (f_Mod_lays fu N v0 v1 σ) fun _ σ_4 =>
    Option.bind (f_Mod_roots fu N v0 σ_4) fun r_6 =>
    Option.bind (f_Mod_degreeOf fu N v0 v1 σ_4) fun r_8 =>
    if r_6 = r_8 then (if rr_b1 1 then some (1, σ_4) else none) else
    if rr_b1 0 then some (0, σ_4) else none) else
    if rr_b1 0 then some (0, σ) else none
theorem c_Mod_isWhole (l : Launch) (G : rr_G) (hG : G.2.2.1.Nodup) (fu : Nat) (v0 : Nat) (m_v0 : v0 ∈ G.2.2.1) (k_v0 : G.2.2.2.1 v0 = 9) (v1 : Int32) (σ : rr_M) (r : Int32) (σr : rr_M) (hm : f_Mod_isWhole fu G.2.2.2.2 v0 v1 σ = some (r, σr)) : rr_Met l G yX11_isWhole cX11_isWhole 2 (some .boolean) 7 181 [.ref v0, .int v1] σ σr (some (.int r)) := by
  refine rr_enter (lv0 := [(0, .ref v0), (1, .int v1)]) hp_Mod_isWhole hG (Nat.le_of_ble_eq_true rfl) rfl (fun X hll C => ?_)
  replace C : rr_C X G cX11_isWhole 2 "RootRowsModel" (some .boolean) 7 181 := C
  unfold f_Mod_isWhole at hm
  refine rx_aload_n C 0 dX11_isWhole_0 rfl ?_
  refine rx_iload_n C 1 dX11_isWhole_1 rfl ?_
  obtain ⟨r_1, hc_2, hm⟩ := rr_b0_some hm
  refine rr_callV (rest := []) (st1 := [.int r_1]) C 9 hll (c_Mod_degreeOf l G hG fu v0 m_v0 k_v0 v1 σ _ hc_2) q_997 q_999 qs_50 q_11 q_1000 hd_Mod_degreeOf ⟨_, rfl, rfl⟩ (by decide) m_v0 k_v0 ⟨by decide, by decide⟩ rfl rfl (Nat.le_of_ble_eq_true rfl) rfl dX11_isWhole_2 ?_
  refine rx_if_ge (tgt := 10) C dX11_isWhole_5 (by decide) hm (fun h_3 hm => ?_) (fun h_3 hm => ?_)
  · refine rx_aload_n C 0 dX11_isWhole_10 rfl ?_
    refine rx_iload_n C 1 dX11_isWhole_11 rfl ?_
    obtain ⟨_, σ_4, hc_5, hm⟩ := rr_bd_some hm
    refine rr_callV (rest := []) (st1 := []) C 9 hll (c_Mod_lays l G hG fu v0 m_v0 k_v0 v1 σ _ hc_5) q_1059 q_1061 qs_61 q_11 q_1062 hd_Mod_lays ⟨_, rfl, rfl⟩ (by decide) m_v0 k_v0 ⟨by decide, by decide⟩ rfl rfl (Nat.le_of_ble_eq_true rfl) rfl dX11_isWhole_12 ?_
    refine rx_aload_n C 0 dX11_isWhole_15 rfl ?_
    obtain ⟨r_6, hc_7, hm⟩ := rr_b0_some hm
    refine rr_callV (rest := []) (st1 := [.int r_6]) C 9 hll (c_Mod_roots l G hG fu v0 m_v0 k_v0 σ_4 _ hc_7) q_1107 q_1109 qs_73 q_11 q_1110 hd_Mod_roots ⟨_, rfl, rfl⟩ (by decide) m_v0 k_v0 ⟨by decide, by decide⟩ rfl rfl (Nat.le_of_ble_eq_true rfl) rfl dX11_isWhole_16 ?_
    refine rx_aload_n C 0 dX11_isWhole_19 rfl ?_
    refine rx_iload_n C 1 dX11_isWhole_20 rfl ?_
    obtain ⟨r_8, hc_9, hm⟩ := rr_b0_some hm
    refine rr_callV (rest := [.int r_6]) (st1 := [.int r_8, .int r_6]) C 9 hll (c_Mod_degreeOf l G hG fu v0 m_v0 k_v0 v1 σ_4 _ hc_9) q_997 q_999 qs_50 q_11 q_1000 hd_Mod_degreeOf ⟨_, rfl, rfl⟩ (by decide) m_v0 k_v0 ⟨by decide, by decide⟩ rfl rfl (Nat.le_of_ble_eq_true rfl) rfl dX11_isWhole_21 ?_
    refine rx_icmp_ne (tgt := 31) C dX11_isWhole_24 (by decide) hm (fun h_10 hm => ?_) (fun h_10 hm => ?_)
    · refine rx_iconst (v := 0) C dX11_isWhole_31 rfl ?_
      exact rx_zret C dX11_isWhole_32 hm
    refine rx_iconst (v := 1) C dX11_isWhole_27 rfl ?_
    refine rx_goto (tgt := 32) C dX11_isWhole_28 (by decide) ?_
    exact rx_zret C dX11_isWhole_32 hm
  refine rx_iconst (v := 0) C dX11_isWhole_8 rfl ?_
  exact rx_zret C dX11_isWhole_9 hm
def l_Mod_areLaced_101 (fu : Nat) (N : Nat → Nat) (v0 : Nat) (v5 : Int32) (v6 : Int32) : Nat → Int32 → rr_M → (rr_M → Option (Int32 × rr_M)) → Option (Int32 × rr_M)
  | 0, _, _, _ => none
  | n + 1, v7, σ, kk =>
    if 9 ≤ v7 then (kk σ) else
    rr_lt (mg_r σ v0 3) fun p_26 =>
    Option.bind (f_Mod_slot v5 v7) fun r_27 =>
    (if rr_ix r_27 (N p_26) then
    (if rr_ix r_27 (N p_26) then rr_lt (ms_i σ p_26 (rr_n r_27) ((mg_i σ p_26 (rr_n r_27)) * v6)) fun σ_29 =>
    rr_lt (v7 + 1) fun v7_30 =>
    l_Mod_areLaced_101 fu N v0 v5 v6 n v7_30 σ_29 kk else none) else none)
theorem lw_Mod_areLaced_101 {X : rr_X} {G : rr_G} {l : Launch} {fu : Nat} (hG : G.2.2.1.Nodup) (hll : X.2.1 = l) (C : rr_C X G cX11_areLaced 8 "RootRowsModel" (some .boolean) 8 202) {r : Int32} {σr : rr_M} (v0 : Nat) (m_v0 : v0 ∈ G.2.2.1) (k_v0 : G.2.2.2.1 v0 = 9) (v3 : Int32) (v5 : Int32) (v6 : Int32) : ∀ (n : Nat) (v7 : Int32) (σ : rr_M) (K : rr_M → Option (Int32 × rr_M)), l_Mod_areLaced_101 fu G.2.2.2.2 v0 v5 v6 n v7 σ K = some (r, σr) → (∀ (σ1 : rr_M), K σ1 = some (r, σr) → rr_J X G 8 (rr_E X G σr (some (.int r))) σ1 131 [(0, .ref v0), (3, .int v3), (5, .int v5)] []) → rr_J X G 8 (rr_E X G σr (some (.int r))) σ 101 [(0, .ref v0), (3, .int v3), (5, .int v5), (6, .int v6), (7, .int v7)] [] := by
  intro n
  induction n with
  | zero =>
    intro v7 σ K hm
    cases hm
  | succ n ih =>
    intro v7 σ K hm hk
    unfold l_Mod_areLaced_101 at hm
    refine rx_iload C 4 dX11_areLaced_101 rfl ?_
    refine rx_bipush (v := 9) C dX11_areLaced_103 rfl ?_
    refine rx_icmp_ge (tgt := 131) C dX11_areLaced_105 (by decide) hm (fun h_25 hm => ?_) (fun h_25 hm => ?_)
    · refine rx_lv [0, 1, 2] rfl ?_
      exact hk _ hm
    refine rx_aload_n C 0 dX11_areLaced_108 rfl ?_
    refine gf_844 C m_v0 k_v0 dX11_areLaced_109 hm (fun p_26 m_p_26 k_p_26 hm => ?_)
    refine rx_iload C 2 dX11_areLaced_112 rfl ?_
    refine rx_iload C 4 dX11_areLaced_114 rfl ?_
    obtain ⟨r_27, hc_28, hm⟩ := rr_b0_some hm
    refine rr_callS (rest := [.ref p_26]) (st1 := [.int r_27, .ref p_26]) C hll (c_Mod_slot l G hG v5 v7 σ _ hc_28) q_989 q_990 q_11 q_991 hd_Mod_slot ⟨by decide, by decide⟩ rfl rfl (Nat.le_of_ble_eq_true rfl) rfl dX11_areLaced_116 ?_
    refine rx_dup2_11 C dX11_areLaced_119 rfl rfl ?_
    refine rx_iald C m_p_26 k_p_26 dX11_areLaced_120 hm (fun hm => ?_)
    refine rx_iload C 3 dX11_areLaced_121 rfl ?_
    refine rx_imul C dX11_areLaced_123 ?_
    refine rx_iast C m_p_26 k_p_26 dX11_areLaced_124 hm (fun σ_29 hm => ?_)
    refine rx_iinc (d := 1) (lv1 := fun v => [(7, .int v), (0, .ref v0), (3, .int v3), (5, .int v5), (6, .int v6)]) C 4 dX11_areLaced_125 hm rfl rfl (by decide) (fun _ => rfl) (fun v7_30 hm => ?_)
    refine rx_goto (tgt := 101) C dX11_areLaced_128 (by decide) ?_
    refine rx_lv [1, 2, 3, 4, 0] rfl ?_
    exact ih _ _ _ hm hk
def l_Mod_areLaced_72 (fu : Nat) (N : Nat → Nat) (v0 : Nat) : Nat → Int32 → rr_M → (rr_M → Option (Int32 × rr_M)) → Option (Int32 × rr_M)
  | 0, _, _, _ => none
  | n + 1, v5, σ, kk =>
    if 38 ≤ v5 then (kk σ) else
    rr_lt (mg_r σ v0 3) fun p_20 =>
    rr_lt (mg_r σ v0 6) fun p_21 =>
    (if rr_ix v5 (N p_21) then
    Option.bind (f_Mod_slot v5 (mg_i σ p_21 (rr_n v5))) fun r_22 =>
    (if rr_ix r_22 (N p_20) then
    rr_lt (mg_i σ p_20 (rr_n r_22)) fun v6_24 =>
    l_Mod_areLaced_101 fu N v0 v5 v6_24 fu 0 σ (fun σ_31 =>
    rr_lt (v5 + 1) fun v5_32 =>
    l_Mod_areLaced_72 fu N v0 n v5_32 σ_31 kk) else none) else none)
theorem lw_Mod_areLaced_72 {X : rr_X} {G : rr_G} {l : Launch} {fu : Nat} (hG : G.2.2.1.Nodup) (hll : X.2.1 = l) (C : rr_C X G cX11_areLaced 8 "RootRowsModel" (some .boolean) 8 202) {r : Int32} {σr : rr_M} (v0 : Nat) (m_v0 : v0 ∈ G.2.2.1) (k_v0 : G.2.2.2.1 v0 = 9) (v3 : Int32) : ∀ (n : Nat) (v5 : Int32) (σ : rr_M) (K : rr_M → Option (Int32 × rr_M)), l_Mod_areLaced_72 fu G.2.2.2.2 v0 n v5 σ K = some (r, σr) → (∀ (σ1 : rr_M), K σ1 = some (r, σr) → rr_J X G 8 (rr_E X G σr (some (.int r))) σ1 137 [(0, .ref v0), (3, .int v3)] []) → rr_J X G 8 (rr_E X G σr (some (.int r))) σ 72 [(0, .ref v0), (3, .int v3), (5, .int v5)] [] := by
  intro n
  induction n with
  | zero =>
    intro v5 σ K hm
    cases hm
  | succ n ih =>
    intro v5 σ K hm hk
    unfold l_Mod_areLaced_72 at hm
    refine rx_iload C 2 dX11_areLaced_72 rfl ?_
    refine rx_bipush (v := 38) C dX11_areLaced_74 rfl ?_
    refine rx_icmp_ge (tgt := 137) C dX11_areLaced_76 (by decide) hm (fun h_19 hm => ?_) (fun h_19 hm => ?_)
    · refine rx_lv [0, 1] rfl ?_
      exact hk _ hm
    refine rx_aload_n C 0 dX11_areLaced_79 rfl ?_
    refine gf_844 C m_v0 k_v0 dX11_areLaced_80 hm (fun p_20 m_p_20 k_p_20 hm => ?_)
    refine rx_iload C 2 dX11_areLaced_83 rfl ?_
    refine rx_aload_n C 0 dX11_areLaced_85 rfl ?_
    refine gf_847 C m_v0 k_v0 dX11_areLaced_86 hm (fun p_21 m_p_21 k_p_21 hm => ?_)
    refine rx_iload C 2 dX11_areLaced_89 rfl ?_
    refine rx_iald C m_p_21 k_p_21 dX11_areLaced_91 hm (fun hm => ?_)
    obtain ⟨r_22, hc_23, hm⟩ := rr_b0_some hm
    refine rr_callS (rest := [.ref p_20]) (st1 := [.int r_22, .ref p_20]) C hll (c_Mod_slot l G hG v5 (mg_i σ p_21 (rr_n v5)) σ _ hc_23) q_989 q_990 q_11 q_991 hd_Mod_slot ⟨by decide, by decide⟩ rfl rfl (Nat.le_of_ble_eq_true rfl) rfl dX11_areLaced_92 ?_
    refine rx_iald C m_p_20 k_p_20 dX11_areLaced_95 hm (fun hm => ?_)
    refine rx_nmi hm (fun v6_24 ev6_24 hm => ?_)
    refine rx_istore (lv1 := [(6, .int v6_24), (0, .ref v0), (3, .int v3), (5, .int v5)]) C dX11_areLaced_96 (by decide) rfl ?_
    refine rx_iconst (v := 0) C dX11_areLaced_98 rfl ?_
    refine rx_istore (lv1 := [(7, .int 0), (6, .int v6_24), (0, .ref v0), (3, .int v3), (5, .int v5)]) C dX11_areLaced_99 (by decide) rfl ?_
    refine rx_lv [2, 3, 4, 1, 0] rfl ?_
    refine lw_Mod_areLaced_101 hG hll C v0 m_v0 k_v0 v3 v5 v6_24 _ _ _ _ hm (fun σ_31 hm => ?_)
    refine rx_iinc (d := 1) (lv1 := fun v => [(5, .int v), (0, .ref v0), (3, .int v3)]) C 2 dX11_areLaced_131 hm rfl rfl (by decide) (fun _ => rfl) (fun v5_32 hm => ?_)
    refine rx_goto (tgt := 72) C dX11_areLaced_134 (by decide) ?_
    refine rx_lv [1, 2, 0] rfl ?_
    exact ih _ _ _ hm hk
def f_Mod_areLaced (fu : Nat) (N : Nat → Nat) (v0 : Nat) (v1 : Int32) (v2 : Int32) (σ : rr_M) : Option (Int32 × rr_M) :=
    Option.bind (f_Mod_degreeOf fu N v0 v1 σ) fun r_1 =>
    Option.bind (f_Mod_degreeOf fu N v0 v2 σ) fun r_3 =>
    if r_1 < 0 then (if rr_b1 0 then some (0, σ) else none) else
    if r_3 < 0 then (if rr_b1 0 then some (0, σ) else none) else
    rr_jn (fun (_ : Unit) =>
    rr_bd (f_Mod_isWhole fu N v0 v1 σ) fun r_7 σ_8 =>
    if r_7 = 0 then (if rr_b1 0 then some (0, σ_8) else none) else
    rr_bd (f_Mod_isWhole fu N v0 v2 σ_8) fun r_11 σ_12 =>
    if r_11 = 0 then (if rr_b1 0 then some (0, σ_12) else none) else
    rr_bd (f_Mod_takes fu N v0 36 v1 σ_12) fun _ σ_15 =>
    rr_bd (f_Mod_takes fu N v0 37 v2 σ_15) fun _ σ_17 =>
    l_Mod_areLaced_72 fu N v0 fu 36 σ_17 (fun σ_33 =>
    rr_bd (f_Mod_leavesAll fu N v0 36 σ_33) fun r_34 σ_35 =>
    Option.bind (f_Mod_changesOut fu N v0 36 r_34 1 σ_35) fun r_37 =>
    Option.bind (f_Mod_changesOut fu N v0 36 r_34 0 σ_35) fun r_39 =>
    rr_lt (mg_r σ_35 v0 6) fun p_41 =>
    (if rr_ix ((36 + r_34) - 1) (N p_41) then
    if (r_37 - r_39) = (r_1 - (mg_i σ_35 p_41 (rr_n ((36 + r_34) - 1)))) then (if rr_b1 1 then some (1, σ_35) else none) else
    if rr_b1 0 then some (0, σ_35) else none else none))) fun j36 =>
    if r_3 = r_1 then (j36 ()) else
    if r_3 = (r_1 - 1) then (j36 ()) else
    if rr_b1 0 then some (0, σ) else none
theorem c_Mod_areLaced (l : Launch) (G : rr_G) (hG : G.2.2.1.Nodup) (fu : Nat) (v0 : Nat) (m_v0 : v0 ∈ G.2.2.1) (k_v0 : G.2.2.2.1 v0 = 9) (v1 : Int32) (v2 : Int32) (σ : rr_M) (r : Int32) (σr : rr_M) (hm : f_Mod_areLaced fu G.2.2.2.2 v0 v1 v2 σ = some (r, σr)) : rr_Met l G yX11_areLaced cX11_areLaced 8 (some .boolean) 8 202 [.ref v0, .int v1, .int v2] σ σr (some (.int r)) := by
  refine rr_enter (lv0 := [(0, .ref v0), (1, .int v1), (2, .int v2)]) hp_Mod_areLaced hG (Nat.le_of_ble_eq_true rfl) rfl (fun X hll C => ?_)
  replace C : rr_C X G cX11_areLaced 8 "RootRowsModel" (some .boolean) 8 202 := C
  unfold f_Mod_areLaced at hm
  refine rx_aload_n C 0 dX11_areLaced_0 rfl ?_
  refine rx_iload_n C 1 dX11_areLaced_1 rfl ?_
  obtain ⟨r_1, hc_2, hm⟩ := rr_b0_some hm
  refine rr_callV (rest := []) (st1 := [.int r_1]) C 9 hll (c_Mod_degreeOf l G hG fu v0 m_v0 k_v0 v1 σ _ hc_2) q_997 q_999 qs_50 q_11 q_1000 hd_Mod_degreeOf ⟨_, rfl, rfl⟩ (by decide) m_v0 k_v0 ⟨by decide, by decide⟩ rfl rfl (Nat.le_of_ble_eq_true rfl) rfl dX11_areLaced_2 ?_
  refine rx_istore_n (lv1 := [(3, .int r_1), (0, .ref v0), (1, .int v1), (2, .int v2)]) C dX11_areLaced_5 (by decide) rfl ?_
  refine rx_aload_n C 1 dX11_areLaced_6 rfl ?_
  refine rx_iload_n C 3 dX11_areLaced_7 rfl ?_
  obtain ⟨r_3, hc_4, hm⟩ := rr_b0_some hm
  refine rr_callV (rest := []) (st1 := [.int r_3]) C 9 hll (c_Mod_degreeOf l G hG fu v0 m_v0 k_v0 v2 σ _ hc_4) q_997 q_999 qs_50 q_11 q_1000 hd_Mod_degreeOf ⟨_, rfl, rfl⟩ (by decide) m_v0 k_v0 ⟨by decide, by decide⟩ rfl rfl (Nat.le_of_ble_eq_true rfl) rfl dX11_areLaced_8 ?_
  refine rx_istore (lv1 := [(4, .int r_3), (3, .int r_1), (0, .ref v0), (1, .int v1), (2, .int v2)]) C dX11_areLaced_11 (by decide) rfl ?_
  refine rx_iload_n C 1 dX11_areLaced_13 rfl ?_
  refine rx_if_lt (tgt := 52) C dX11_areLaced_14 (by decide) hm (fun h_5 hm => ?_) (fun h_5 hm => ?_)
  · refine rx_iconst (v := 0) C dX11_areLaced_52 rfl ?_
    exact rx_zret C dX11_areLaced_53 hm
  refine rx_iload C 0 dX11_areLaced_17 rfl ?_
  refine rx_if_lt (tgt := 52) C dX11_areLaced_19 (by decide) hm (fun h_6 hm => ?_) (fun h_6 hm => ?_)
  · refine rx_iconst (v := 0) C dX11_areLaced_52 rfl ?_
    exact rx_zret C dX11_areLaced_53 hm
  refine rx_iload C 0 dX11_areLaced_22 rfl ?_
  refine rx_iload_n C 1 dX11_areLaced_24 rfl ?_
  refine rr_jn1 hm (fun j36 ej36 hm => ?_)
  have hj36 : ∀ (uu : Unit), j36 uu = some (r, σr) → rr_J X G 8 (rr_E X G σr (some (.int r))) σ 36 [(0, .ref v0), (1, .int v1), (2, .int v2), (3, .int r_1)] [] := by
    intro uu hm
    replace hm := ej36 _ hm
    refine rx_aload_n C 0 dX11_areLaced_36 rfl ?_
    refine rx_iload_n C 1 dX11_areLaced_37 rfl ?_
    obtain ⟨r_7, σ_8, hc_9, hm⟩ := rr_bd_some hm
    refine rr_callV (rest := []) (st1 := [.int r_7]) C 9 hll (c_Mod_isWhole l G hG fu v0 m_v0 k_v0 v1 σ _ _ hc_9) q_1127 q_1129 qs_78 q_11 q_1130 hd_Mod_isWhole ⟨_, rfl, rfl⟩ (by decide) m_v0 k_v0 ⟨by decide, by decide⟩ rfl rfl (Nat.le_of_ble_eq_true rfl) rfl dX11_areLaced_38 ?_
    refine rx_if_eq (tgt := 52) C dX11_areLaced_41 (by decide) hm (fun h_10 hm => ?_) (fun h_10 hm => ?_)
    · refine rx_iconst (v := 0) C dX11_areLaced_52 rfl ?_
      exact rx_zret C dX11_areLaced_53 hm
    refine rx_aload_n C 0 dX11_areLaced_44 rfl ?_
    refine rx_iload_n C 2 dX11_areLaced_45 rfl ?_
    obtain ⟨r_11, σ_12, hc_13, hm⟩ := rr_bd_some hm
    refine rr_callV (rest := []) (st1 := [.int r_11]) C 9 hll (c_Mod_isWhole l G hG fu v0 m_v0 k_v0 v2 σ_8 _ _ hc_13) q_1127 q_1129 qs_78 q_11 q_1130 hd_Mod_isWhole ⟨_, rfl, rfl⟩ (by decide) m_v0 k_v0 ⟨by decide, by decide⟩ rfl rfl (Nat.le_of_ble_eq_true rfl) rfl dX11_areLaced_46 ?_
    refine rx_if_ne (tgt := 54) C dX11_areLaced_49 (by decide) hm (fun h_14 hm => ?_) (fun h_14 hm => ?_)
    · refine rx_aload_n C 0 dX11_areLaced_54 rfl ?_
      refine rx_bipush (v := 36) C dX11_areLaced_55 rfl ?_
      refine rx_iload_n C 1 dX11_areLaced_57 rfl ?_
      obtain ⟨_, σ_15, hc_16, hm⟩ := rr_bd_some hm
      refine rr_callV (rest := []) (st1 := []) C 9 hll (c_Mod_takes l G hG fu v0 m_v0 k_v0 36 v1 σ_12 _ hc_16) q_985 q_987 qs_48 q_11 q_988 hd_Mod_takes ⟨_, rfl, rfl⟩ (by decide) m_v0 k_v0 ⟨by decide, by decide⟩ rfl rfl (Nat.le_of_ble_eq_true rfl) rfl dX11_areLaced_58 ?_
      refine rx_aload_n C 0 dX11_areLaced_61 rfl ?_
      refine rx_bipush (v := 37) C dX11_areLaced_62 rfl ?_
      refine rx_iload_n C 2 dX11_areLaced_64 rfl ?_
      obtain ⟨_, σ_17, hc_18, hm⟩ := rr_bd_some hm
      refine rr_callV (rest := []) (st1 := []) C 9 hll (c_Mod_takes l G hG fu v0 m_v0 k_v0 37 v2 σ_15 _ hc_18) q_985 q_987 qs_48 q_11 q_988 hd_Mod_takes ⟨_, rfl, rfl⟩ (by decide) m_v0 k_v0 ⟨by decide, by decide⟩ rfl rfl (Nat.le_of_ble_eq_true rfl) rfl dX11_areLaced_65 ?_
      refine rx_bipush (v := 36) C dX11_areLaced_68 rfl ?_
      refine rx_istore (lv1 := [(5, .int 36), (0, .ref v0), (1, .int v1), (2, .int v2), (3, .int r_1)]) C dX11_areLaced_70 (by decide) rfl ?_
      refine rx_lv [1, 4, 0] rfl ?_
      refine lw_Mod_areLaced_72 hG hll C v0 m_v0 k_v0 r_1 _ _ _ _ hm (fun σ_33 hm => ?_)
      refine rx_aload_n C 0 dX11_areLaced_137 rfl ?_
      refine rx_bipush (v := 36) C dX11_areLaced_138 rfl ?_
      obtain ⟨r_34, σ_35, hc_36, hm⟩ := rr_bd_some hm
      refine rr_callV (rest := []) (st1 := [.int r_34]) C 9 hll (c_Mod_leavesAll l G hG fu v0 m_v0 k_v0 36 σ_33 _ _ hc_36) q_1071 q_1073 qs_64 q_11 q_1074 hd_Mod_leavesAll ⟨_, rfl, rfl⟩ (by decide) m_v0 k_v0 ⟨by decide, by decide⟩ rfl rfl (Nat.le_of_ble_eq_true rfl) rfl dX11_areLaced_140 ?_
      refine rx_istore (lv1 := [(5, .int r_34), (0, .ref v0), (3, .int r_1)]) C dX11_areLaced_143 (by decide) rfl ?_
      refine rx_aload_n C 1 dX11_areLaced_145 rfl ?_
      refine rx_bipush (v := 36) C dX11_areLaced_146 rfl ?_
      refine rx_iload C 0 dX11_areLaced_148 rfl ?_
      refine rx_iconst (v := 1) C dX11_areLaced_150 rfl ?_
      obtain ⟨r_37, hc_38, hm⟩ := rr_b0_some hm
      refine rr_callV (rest := []) (st1 := [.int r_37]) C 9 hll (c_Mod_changesOut l G hG fu v0 m_v0 k_v0 36 r_34 1 σ_35 _ hc_38) q_1115 q_1117 qs_75 q_11 q_1118 hd_Mod_changesOut ⟨_, rfl, rfl⟩ (by decide) m_v0 k_v0 ⟨by decide, by decide⟩ rfl rfl (Nat.le_of_ble_eq_true rfl) rfl dX11_areLaced_151 ?_
      refine rx_aload_n C 1 dX11_areLaced_154 rfl ?_
      refine rx_bipush (v := 36) C dX11_areLaced_155 rfl ?_
      refine rx_iload C 0 dX11_areLaced_157 rfl ?_
      refine rx_iconst (v := 0) C dX11_areLaced_159 rfl ?_
      obtain ⟨r_39, hc_40, hm⟩ := rr_b0_some hm
      refine rr_callV (rest := [.int r_37]) (st1 := [.int r_39, .int r_37]) C 9 hll (c_Mod_changesOut l G hG fu v0 m_v0 k_v0 36 r_34 0 σ_35 _ hc_40) q_1115 q_1117 qs_75 q_11 q_1118 hd_Mod_changesOut ⟨_, rfl, rfl⟩ (by decide) m_v0 k_v0 ⟨by decide, by decide⟩ rfl rfl (Nat.le_of_ble_eq_true rfl) rfl dX11_areLaced_160 ?_
      refine rx_isub C dX11_areLaced_163 ?_
      refine rx_iload_n C 2 dX11_areLaced_164 rfl ?_
      refine rx_aload_n C 1 dX11_areLaced_165 rfl ?_
      refine gf_847 C m_v0 k_v0 dX11_areLaced_166 hm (fun p_41 m_p_41 k_p_41 hm => ?_)
      refine rx_bipush (v := 36) C dX11_areLaced_169 rfl ?_
      refine rx_iload C 0 dX11_areLaced_171 rfl ?_
      refine rx_iadd C dX11_areLaced_173 ?_
      refine rx_iconst (v := 1) C dX11_areLaced_174 rfl ?_
      refine rx_isub C dX11_areLaced_175 ?_
      refine rx_iald C m_p_41 k_p_41 dX11_areLaced_176 hm (fun hm => ?_)
      refine rx_isub C dX11_areLaced_177 ?_
      refine rx_icmp_ne (tgt := 185) C dX11_areLaced_178 (by decide) hm (fun h_42 hm => ?_) (fun h_42 hm => ?_)
      · refine rx_iconst (v := 0) C dX11_areLaced_185 rfl ?_
        exact rx_zret C dX11_areLaced_186 hm
      refine rx_iconst (v := 1) C dX11_areLaced_181 rfl ?_
      refine rx_goto (tgt := 186) C dX11_areLaced_182 (by decide) ?_
      exact rx_zret C dX11_areLaced_186 hm
    refine rx_iconst (v := 0) C dX11_areLaced_52 rfl ?_
    exact rx_zret C dX11_areLaced_53 hm
  refine rx_icmp_eq (tgt := 36) C dX11_areLaced_25 (by decide) hm (fun h_43 hm => ?_) (fun h_43 hm => ?_)
  · refine rx_lv [2, 3, 4, 1] rfl ?_
    exact hj36 () hm
  refine rx_iload C 0 dX11_areLaced_28 rfl ?_
  refine rx_iload_n C 1 dX11_areLaced_30 rfl ?_
  refine rx_iconst (v := 1) C dX11_areLaced_31 rfl ?_
  refine rx_isub C dX11_areLaced_32 ?_
  refine rx_icmp_ne (tgt := 52) C dX11_areLaced_33 (by decide) hm (fun h_44 hm => ?_) (fun h_44 hm => ?_)
  · refine rx_iconst (v := 0) C dX11_areLaced_52 rfl ?_
    exact rx_zret C dX11_areLaced_53 hm
  refine rx_lv [2, 3, 4, 1] rfl ?_
  exact hj36 () hm
def l_Mod_setsPower_2 (fu : Nat) (N : Nat → Nat) (v0 : Nat) (v1 : Int32) (v2 : Int32) : Nat → Int32 → rr_M → (rr_M → Option (Unit × rr_M)) → Option (Unit × rr_M)
  | 0, _, _, _ => none
  | n + 1, v3, σ, kk =>
    if (v2 / 16) < v3 then (kk σ) else
    rr_lt (mg_r σ v0 1) fun p_2 =>
    rr_jn (fun (t_3 : Int32) =>
    (if rr_ix ((200 * v1) + v3) (N p_2) then rr_lt (ms_i σ p_2 (rr_n ((200 * v1) + v3)) t_3) fun σ_4 =>
    rr_lt (v3 + 1) fun v3_5 =>
    l_Mod_setsPower_2 fu N v0 v1 v2 n v3_5 σ_4 kk else none)) fun j39 =>
    if v3 = (v2 / 16) then (j39 (1 <<< ((v2 - v2 / 16 * 16) &&& 31))) else
    j39 0
theorem lw_Mod_setsPower_2 {X : rr_X} {G : rr_G} {l : Launch} {fu : Nat} (hG : G.2.2.1.Nodup) (hll : X.2.1 = l) (C : rr_C X G cX11_setsPower 4 "RootRowsModel" none 0 0) {σr : rr_M} (v0 : Nat) (m_v0 : v0 ∈ G.2.2.1) (k_v0 : G.2.2.2.1 v0 = 9) (v1 : Int32) (v2 : Int32) : ∀ (n : Nat) (v3 : Int32) (σ : rr_M) (K : rr_M → Option (Unit × rr_M)), l_Mod_setsPower_2 fu G.2.2.2.2 v0 v1 v2 n v3 σ K = some ((), σr) → (∀ (σ1 : rr_M), K σ1 = some ((), σr) → rr_J X G 4 (rr_E X G σr none) σ1 46 [(0, .ref v0), (1, .int v1), (2, .int v2)] []) → rr_J X G 4 (rr_E X G σr none) σ 2 [(0, .ref v0), (1, .int v1), (2, .int v2), (3, .int v3)] [] := by
  intro n
  induction n with
  | zero =>
    intro v3 σ K hm
    cases hm
  | succ n ih =>
    intro v3 σ K hm hk
    unfold l_Mod_setsPower_2 at hm
    refine rx_iload_n C 3 dX11_setsPower_2 rfl ?_
    refine rx_iload_n C 2 dX11_setsPower_3 rfl ?_
    refine rx_bipush (v := 16) C dX11_setsPower_4 rfl ?_
    refine rx_idiv C dX11_setsPower_6 (by decide) ?_
    refine rx_icmp_gt (tgt := 46) C dX11_setsPower_7 (by decide) hm (fun h_1 hm => ?_) (fun h_1 hm => ?_)
    · refine rx_lv [0, 1, 2] rfl ?_
      exact hk _ hm
    refine rx_aload_n C 0 dX11_setsPower_10 rfl ?_
    refine gf_842 C m_v0 k_v0 dX11_setsPower_11 hm (fun p_2 m_p_2 k_p_2 hm => ?_)
    refine rx_sipush (v := 200) C dX11_setsPower_14 rfl ?_
    refine rx_iload_n C 1 dX11_setsPower_17 rfl ?_
    refine rx_imul C dX11_setsPower_18 ?_
    refine rx_iload_n C 3 dX11_setsPower_19 rfl ?_
    refine rx_iadd C dX11_setsPower_20 ?_
    refine rx_iload_n C 3 dX11_setsPower_21 rfl ?_
    refine rx_iload_n C 2 dX11_setsPower_22 rfl ?_
    refine rx_bipush (v := 16) C dX11_setsPower_23 rfl ?_
    refine rx_idiv C dX11_setsPower_25 (by decide) ?_
    refine rr_jn1 hm (fun j39 ej39 hm => ?_)
    have hj39 : ∀ (t_3 : Int32), j39 t_3 = some ((), σr) → rr_J X G 4 (rr_E X G σr none) σ 39 [(0, .ref v0), (1, .int v1), (2, .int v2), (3, .int v3)] [.int t_3, .int ((200 * v1) + v3), .ref p_2] := by
      intro t_3 hm
      replace hm := ej39 _ hm
      refine rx_iast C m_p_2 k_p_2 dX11_setsPower_39 hm (fun σ_4 hm => ?_)
      refine rx_iinc (d := 1) (lv1 := fun v => [(3, .int v), (0, .ref v0), (1, .int v1), (2, .int v2)]) C 3 dX11_setsPower_40 hm rfl rfl (by decide) (fun _ => rfl) (fun v3_5 hm => ?_)
      refine rx_goto (tgt := 2) C dX11_setsPower_43 (by decide) ?_
      refine rx_lv [1, 2, 3, 0] rfl ?_
      exact ih _ _ _ hm hk
    refine rx_icmp_ne (tgt := 38) C dX11_setsPower_26 (by decide) hm (fun h_6 hm => ?_) (fun h_6 hm => ?_)
    · refine rx_iconst (v := 0) C dX11_setsPower_38 rfl ?_
      refine rx_lv [0, 1, 2, 3] rfl ?_
      exact hj39 _ hm
    refine rx_iconst (v := 1) C dX11_setsPower_29 rfl ?_
    refine rx_iload_n C 2 dX11_setsPower_30 rfl ?_
    refine rx_bipush (v := 16) C dX11_setsPower_31 rfl ?_
    refine rx_irem C dX11_setsPower_33 (by decide) ?_
    refine rx_ishl C dX11_setsPower_34 ?_
    refine rx_goto (tgt := 39) C dX11_setsPower_35 (by decide) ?_
    refine rx_lv [0, 1, 2, 3] rfl ?_
    exact hj39 _ hm
def f_Mod_setsPower (fu : Nat) (N : Nat → Nat) (v0 : Nat) (v1 : Int32) (v2 : Int32) (σ : rr_M) : Option (Unit × rr_M) :=
    l_Mod_setsPower_2 fu N v0 v1 v2 fu 0 σ (fun σ_7 =>
    rr_lt (mg_r σ_7 v0 2) fun p_8 =>
    (if rr_ix v1 (N p_8) then rr_lt (ms_i σ_7 p_8 (rr_n v1) ((v2 / 16) + 1)) fun σ_9 =>
    rr_lt (mg_r σ_9 v0 3) fun p_10 =>
    (if rr_ix v1 (N p_10) then rr_lt (ms_i σ_9 p_10 (rr_n v1) 1) fun σ_11 =>
    some ((), σ_11) else none) else none))
theorem c_Mod_setsPower (l : Launch) (G : rr_G) (hG : G.2.2.1.Nodup) (fu : Nat) (v0 : Nat) (m_v0 : v0 ∈ G.2.2.1) (k_v0 : G.2.2.2.1 v0 = 9) (v1 : Int32) (v2 : Int32) (σ : rr_M) (σr : rr_M) (hm : f_Mod_setsPower fu G.2.2.2.2 v0 v1 v2 σ = some ((), σr)) : rr_Met l G yX11_setsPower cX11_setsPower 4 none 0 0 [.ref v0, .int v1, .int v2] σ σr none := by
  refine rr_enter (lv0 := [(0, .ref v0), (1, .int v1), (2, .int v2)]) hp_Mod_setsPower hG (Nat.le_of_ble_eq_true rfl) rfl (fun X hll C => ?_)
  replace C : rr_C X G cX11_setsPower 4 "RootRowsModel" none 0 0 := C
  unfold f_Mod_setsPower at hm
  refine rx_iconst (v := 0) C dX11_setsPower_0 rfl ?_
  refine rx_istore_n (lv1 := [(3, .int 0), (0, .ref v0), (1, .int v1), (2, .int v2)]) C dX11_setsPower_1 (by decide) rfl ?_
  refine rx_lv [1, 2, 3, 0] rfl ?_
  refine lw_Mod_setsPower_2 hG hll C v0 m_v0 k_v0 v1 v2 _ _ _ _ hm (fun σ_7 hm => ?_)
  refine rx_aload_n C 0 dX11_setsPower_46 rfl ?_
  refine gf_843 C m_v0 k_v0 dX11_setsPower_47 hm (fun p_8 m_p_8 k_p_8 hm => ?_)
  refine rx_iload_n C 1 dX11_setsPower_50 rfl ?_
  refine rx_iload_n C 2 dX11_setsPower_51 rfl ?_
  refine rx_bipush (v := 16) C dX11_setsPower_52 rfl ?_
  refine rx_idiv C dX11_setsPower_54 (by decide) ?_
  refine rx_iconst (v := 1) C dX11_setsPower_55 rfl ?_
  refine rx_iadd C dX11_setsPower_56 ?_
  refine rx_iast C m_p_8 k_p_8 dX11_setsPower_57 hm (fun σ_9 hm => ?_)
  refine rx_aload_n C 0 dX11_setsPower_58 rfl ?_
  refine gf_844 C m_v0 k_v0 dX11_setsPower_59 hm (fun p_10 m_p_10 k_p_10 hm => ?_)
  refine rx_iload_n C 1 dX11_setsPower_62 rfl ?_
  refine rx_iconst (v := 1) C dX11_setsPower_63 rfl ?_
  refine rx_iast C m_p_10 k_p_10 dX11_setsPower_64 hm (fun σ_11 hm => ?_)
  exact rx_vret C dX11_setsPower_65 hm
def l_Mod_signAt_39 (fu : Nat) (N : Nat → Nat) (v0 : Nat) (v1 : Int32) : Nat → Int32 → rr_M → (rr_M → Option (Int32 × rr_M)) → Option (Int32 × rr_M)
  | 0, _, _, _ => none
  | n + 1, v3, σ, kk =>
    if v3 < 0 then (kk σ) else
    rr_bd (f_Mod_multiplies fu N v0 19 17 16 σ) fun _ σ_13 =>
    rr_bd (f_Mod_copies fu N v0 17 19 σ_13) fun _ σ_15 =>
    rr_bd (f_Mod_multiplies fu N v0 19 18 15 σ_15) fun _ σ_17 =>
    Option.bind (f_Mod_slot v1 v3) fun r_19 =>
    rr_bd (f_Mod_multiplies fu N v0 18 r_19 17 σ_17) fun _ σ_21 =>
    rr_bd (f_Mod_adds fu N v0 18 19 18 1 σ_21) fun _ σ_23 =>
    rr_lt (v3 + (-1)) fun v3_25 =>
    l_Mod_signAt_39 fu N v0 v1 n v3_25 σ_23 kk
theorem lw_Mod_signAt_39 {X : rr_X} {G : rr_G} {l : Launch} {fu : Nat} (hG : G.2.2.1.Nodup) (hll : X.2.1 = l) (C : rr_C X G cX11_signAt 4 "RootRowsModel" (some .int) 3 79) {r : Int32} {σr : rr_M} (v0 : Nat) (m_v0 : v0 ∈ G.2.2.1) (k_v0 : G.2.2.2.1 v0 = 9) (v1 : Int32) : ∀ (n : Nat) (v3 : Int32) (σ : rr_M) (K : rr_M → Option (Int32 × rr_M)), l_Mod_signAt_39 fu G.2.2.2.2 v0 v1 n v3 σ K = some (r, σr) → (∀ (σ1 : rr_M), K σ1 = some (r, σr) → rr_J X G 4 (rr_E X G σr (some (.int r))) σ1 101 [(0, .ref v0), (1, .int v1)] []) → rr_J X G 4 (rr_E X G σr (some (.int r))) σ 39 [(0, .ref v0), (1, .int v1), (3, .int v3)] [] := by
  intro n
  induction n with
  | zero =>
    intro v3 σ K hm
    cases hm
  | succ n ih =>
    intro v3 σ K hm hk
    unfold l_Mod_signAt_39 at hm
    refine rx_iload_n C 2 dX11_signAt_39 rfl ?_
    refine rx_if_lt (tgt := 101) C dX11_signAt_40 (by decide) hm (fun h_12 hm => ?_) (fun h_12 hm => ?_)
    · refine rx_lv [0, 1] rfl ?_
      exact hk _ hm
    refine rx_aload_n C 0 dX11_signAt_43 rfl ?_
    refine rx_bipush (v := 19) C dX11_signAt_44 rfl ?_
    refine rx_bipush (v := 17) C dX11_signAt_46 rfl ?_
    refine rx_bipush (v := 16) C dX11_signAt_48 rfl ?_
    obtain ⟨_, σ_13, hc_14, hm⟩ := rr_bd_some hm
    refine rr_callV (rest := []) (st1 := []) C 9 hll (c_Mod_multiplies l G hG fu v0 m_v0 k_v0 19 17 16 σ _ hc_14) q_1001 q_1003 qs_51 q_11 q_1004 hd_Mod_multiplies ⟨_, rfl, rfl⟩ (by decide) m_v0 k_v0 ⟨by decide, by decide⟩ rfl rfl (Nat.le_of_ble_eq_true rfl) rfl dX11_signAt_50 ?_
    refine rx_aload_n C 0 dX11_signAt_53 rfl ?_
    refine rx_bipush (v := 17) C dX11_signAt_54 rfl ?_
    refine rx_bipush (v := 19) C dX11_signAt_56 rfl ?_
    obtain ⟨_, σ_15, hc_16, hm⟩ := rr_bd_some hm
    refine rr_callV (rest := []) (st1 := []) C 9 hll (c_Mod_copies l G hG fu v0 m_v0 k_v0 17 19 σ_13 _ hc_16) q_1017 q_1019 qs_55 q_11 q_1020 hd_Mod_copies ⟨_, rfl, rfl⟩ (by decide) m_v0 k_v0 ⟨by decide, by decide⟩ rfl rfl (Nat.le_of_ble_eq_true rfl) rfl dX11_signAt_58 ?_
    refine rx_aload_n C 0 dX11_signAt_61 rfl ?_
    refine rx_bipush (v := 19) C dX11_signAt_62 rfl ?_
    refine rx_bipush (v := 18) C dX11_signAt_64 rfl ?_
    refine rx_bipush (v := 15) C dX11_signAt_66 rfl ?_
    obtain ⟨_, σ_17, hc_18, hm⟩ := rr_bd_some hm
    refine rr_callV (rest := []) (st1 := []) C 9 hll (c_Mod_multiplies l G hG fu v0 m_v0 k_v0 19 18 15 σ_15 _ hc_18) q_1001 q_1003 qs_51 q_11 q_1004 hd_Mod_multiplies ⟨_, rfl, rfl⟩ (by decide) m_v0 k_v0 ⟨by decide, by decide⟩ rfl rfl (Nat.le_of_ble_eq_true rfl) rfl dX11_signAt_68 ?_
    refine rx_aload_n C 0 dX11_signAt_71 rfl ?_
    refine rx_bipush (v := 18) C dX11_signAt_72 rfl ?_
    refine rx_iload_n C 1 dX11_signAt_74 rfl ?_
    refine rx_iload_n C 2 dX11_signAt_75 rfl ?_
    obtain ⟨r_19, hc_20, hm⟩ := rr_b0_some hm
    refine rr_callS (rest := [.int 18, .ref v0]) (st1 := [.int r_19, .int 18, .ref v0]) C hll (c_Mod_slot l G hG v1 v3 σ_17 _ hc_20) q_989 q_990 q_11 q_991 hd_Mod_slot ⟨by decide, by decide⟩ rfl rfl (Nat.le_of_ble_eq_true rfl) rfl dX11_signAt_76 ?_
    refine rx_bipush (v := 17) C dX11_signAt_79 rfl ?_
    obtain ⟨_, σ_21, hc_22, hm⟩ := rr_bd_some hm
    refine rr_callV (rest := []) (st1 := []) C 9 hll (c_Mod_multiplies l G hG fu v0 m_v0 k_v0 18 r_19 17 σ_17 _ hc_22) q_1001 q_1003 qs_51 q_11 q_1004 hd_Mod_multiplies ⟨_, rfl, rfl⟩ (by decide) m_v0 k_v0 ⟨by decide, by decide⟩ rfl rfl (Nat.le_of_ble_eq_true rfl) rfl dX11_signAt_81 ?_
    refine rx_aload_n C 0 dX11_signAt_84 rfl ?_
    refine rx_bipush (v := 18) C dX11_signAt_85 rfl ?_
    refine rx_bipush (v := 19) C dX11_signAt_87 rfl ?_
    refine rx_bipush (v := 18) C dX11_signAt_89 rfl ?_
    refine rx_iconst (v := 1) C dX11_signAt_91 rfl ?_
    obtain ⟨_, σ_23, hc_24, hm⟩ := rr_bd_some hm
    refine rr_callV (rest := []) (st1 := []) C 9 hll (c_Mod_adds l G hG fu v0 m_v0 k_v0 18 19 18 1 σ_21 _ hc_24) q_1013 q_1015 qs_54 q_11 q_1016 hd_Mod_adds ⟨_, rfl, rfl⟩ (by decide) m_v0 k_v0 ⟨by decide, by decide⟩ rfl rfl (Nat.le_of_ble_eq_true rfl) rfl dX11_signAt_92 ?_
    refine rx_iinc (d := (-1)) (lv1 := fun v => [(3, .int v), (0, .ref v0), (1, .int v1)]) C 2 dX11_signAt_95 hm rfl rfl (by decide) (fun _ => rfl) (fun v3_25 hm => ?_)
    refine rx_goto (tgt := 39) C dX11_signAt_98 (by decide) ?_
    refine rx_lv [1, 2, 0] rfl ?_
    exact ih _ _ _ hm hk
def f_Mod_signAt (fu : Nat) (N : Nat → Nat) (v0 : Nat) (v1 : Int32) (v2 : Int32) (σ : rr_M) : Option (Int32 × rr_M) :=
    rr_bd (f_Mod_setsPower fu N v0 16 v2 σ) fun _ σ_1 =>
    rr_bd (f_Mod_sets fu N v0 17 1 σ_1) fun _ σ_3 =>
    rr_lt (mg_r σ_3 v0 6) fun p_5 =>
    (if rr_ix v1 (N p_5) then
    Option.bind (f_Mod_slot v1 (mg_i σ_3 p_5 (rr_n v1))) fun r_6 =>
    rr_bd (f_Mod_copies fu N v0 18 r_6 σ_3) fun _ σ_8 =>
    rr_lt (mg_r σ_8 v0 6) fun p_10 =>
    (if rr_ix v1 (N p_10) then
    rr_lt ((mg_i σ_8 p_10 (rr_n v1)) - 1) fun v3_11 =>
    l_Mod_signAt_39 fu N v0 v1 fu v3_11 σ_8 (fun σ_26 =>
    rr_lt (mg_r σ_26 v0 7) fun p_27 =>
    (if rr_ix v1 (N p_27) then
    rr_lt (mg_r σ_26 v0 3) fun p_28 =>
    (if rr_ix 18 (N p_28) then
    some ((mg_i σ_26 p_27 (rr_n v1)) * (mg_i σ_26 p_28 (rr_n 18)), σ_26) else none) else none)) else none) else none)
theorem c_Mod_signAt (l : Launch) (G : rr_G) (hG : G.2.2.1.Nodup) (fu : Nat) (v0 : Nat) (m_v0 : v0 ∈ G.2.2.1) (k_v0 : G.2.2.2.1 v0 = 9) (v1 : Int32) (v2 : Int32) (σ : rr_M) (r : Int32) (σr : rr_M) (hm : f_Mod_signAt fu G.2.2.2.2 v0 v1 v2 σ = some (r, σr)) : rr_Met l G yX11_signAt cX11_signAt 4 (some .int) 3 79 [.ref v0, .int v1, .int v2] σ σr (some (.int r)) := by
  refine rr_enter (lv0 := [(0, .ref v0), (1, .int v1), (2, .int v2)]) hp_Mod_signAt hG (Nat.le_of_ble_eq_true rfl) rfl (fun X hll C => ?_)
  replace C : rr_C X G cX11_signAt 4 "RootRowsModel" (some .int) 3 79 := C
  unfold f_Mod_signAt at hm
  refine rx_aload_n C 0 dX11_signAt_0 rfl ?_
  refine rx_bipush (v := 16) C dX11_signAt_1 rfl ?_
  refine rx_iload_n C 2 dX11_signAt_3 rfl ?_
  obtain ⟨_, σ_1, hc_2, hm⟩ := rr_bd_some hm
  refine rr_callV (rest := []) (st1 := []) C 9 hll (c_Mod_setsPower l G hG fu v0 m_v0 k_v0 16 v2 σ _ hc_2) q_1169 q_1171 qs_87 q_11 q_1172 hd_Mod_setsPower ⟨_, rfl, rfl⟩ (by decide) m_v0 k_v0 ⟨by decide, by decide⟩ rfl rfl (Nat.le_of_ble_eq_true rfl) rfl dX11_signAt_4 ?_
  refine rx_aload_n C 0 dX11_signAt_7 rfl ?_
  refine rx_bipush (v := 17) C dX11_signAt_8 rfl ?_
  refine rx_lconst (v := 1) C dX11_signAt_10 rfl ?_
  obtain ⟨_, σ_3, hc_4, hm⟩ := rr_bd_some hm
  refine rr_callV (rest := []) (st1 := []) C 9 hll (c_Mod_sets l G hG fu v0 m_v0 k_v0 17 1 σ_1 _ hc_4) q_992 q_994 qs_49 q_11 q_995 hd_Mod_sets ⟨_, rfl, rfl⟩ (by decide) m_v0 k_v0 ⟨by decide, by decide⟩ rfl rfl (Nat.le_of_ble_eq_true rfl) rfl dX11_signAt_11 ?_
  refine rx_aload_n C 0 dX11_signAt_14 rfl ?_
  refine rx_bipush (v := 18) C dX11_signAt_15 rfl ?_
  refine rx_iload_n C 1 dX11_signAt_17 rfl ?_
  refine rx_aload_n C 0 dX11_signAt_18 rfl ?_
  refine gf_847 C m_v0 k_v0 dX11_signAt_19 hm (fun p_5 m_p_5 k_p_5 hm => ?_)
  refine rx_iload_n C 1 dX11_signAt_22 rfl ?_
  refine rx_iald C m_p_5 k_p_5 dX11_signAt_23 hm (fun hm => ?_)
  obtain ⟨r_6, hc_7, hm⟩ := rr_b0_some hm
  refine rr_callS (rest := [.int 18, .ref v0]) (st1 := [.int r_6, .int 18, .ref v0]) C hll (c_Mod_slot l G hG v1 (mg_i σ_3 p_5 (rr_n v1)) σ_3 _ hc_7) q_989 q_990 q_11 q_991 hd_Mod_slot ⟨by decide, by decide⟩ rfl rfl (Nat.le_of_ble_eq_true rfl) rfl dX11_signAt_24 ?_
  obtain ⟨_, σ_8, hc_9, hm⟩ := rr_bd_some hm
  refine rr_callV (rest := []) (st1 := []) C 9 hll (c_Mod_copies l G hG fu v0 m_v0 k_v0 18 r_6 σ_3 _ hc_9) q_1017 q_1019 qs_55 q_11 q_1020 hd_Mod_copies ⟨_, rfl, rfl⟩ (by decide) m_v0 k_v0 ⟨by decide, by decide⟩ rfl rfl (Nat.le_of_ble_eq_true rfl) rfl dX11_signAt_27 ?_
  refine rx_aload_n C 0 dX11_signAt_30 rfl ?_
  refine gf_847 C m_v0 k_v0 dX11_signAt_31 hm (fun p_10 m_p_10 k_p_10 hm => ?_)
  refine rx_iload_n C 1 dX11_signAt_34 rfl ?_
  refine rx_iald C m_p_10 k_p_10 dX11_signAt_35 hm (fun hm => ?_)
  refine rx_iconst (v := 1) C dX11_signAt_36 rfl ?_
  refine rx_isub C dX11_signAt_37 ?_
  refine rx_nmi hm (fun v3_11 ev3_11 hm => ?_)
  refine rx_istore_n (lv1 := [(3, .int v3_11), (0, .ref v0), (1, .int v1), (2, .int v2)]) C dX11_signAt_38 (by decide) rfl ?_
  refine rx_lv [1, 2, 0] rfl ?_
  refine lw_Mod_signAt_39 hG hll C v0 m_v0 k_v0 v1 _ _ _ _ hm (fun σ_26 hm => ?_)
  refine rx_aload_n C 0 dX11_signAt_101 rfl ?_
  refine gf_848 C m_v0 k_v0 dX11_signAt_102 hm (fun p_27 m_p_27 k_p_27 hm => ?_)
  refine rx_iload_n C 1 dX11_signAt_105 rfl ?_
  refine rx_iald C m_p_27 k_p_27 dX11_signAt_106 hm (fun hm => ?_)
  refine rx_aload_n C 0 dX11_signAt_107 rfl ?_
  refine gf_844 C m_v0 k_v0 dX11_signAt_108 hm (fun p_28 m_p_28 k_p_28 hm => ?_)
  refine rx_bipush (v := 18) C dX11_signAt_111 rfl ?_
  refine rx_iald C m_p_28 k_p_28 dX11_signAt_113 hm (fun hm => ?_)
  refine rx_imul C dX11_signAt_114 ?_
  exact rx_iret C dX11_signAt_115 hm
def l_Mod_changes_9 (fu : Nat) (N : Nat → Nat) (v0 : Nat) (v1 : Int32) (v2 : Int32) (v3 : Int32) : Nat → Int32 → Int32 → Int32 → rr_M → (Int32 → rr_M → Option (Int32 × rr_M)) → Option (Int32 × rr_M)
  | 0, _, _, _, _, _ => none
  | n + 1, v4, v5, v6, σ, kk =>
    if v2 ≤ v6 then (kk v5 σ) else
    rr_bd (f_Mod_signAt fu N v0 (v1 + v6) v3 σ) fun r_2 σ_3 =>
    rr_jn (fun (v4_5 : Int32) (v5_6 : Int32) =>
    rr_lt (v6 + 1) fun v6_7 =>
    l_Mod_changes_9 fu N v0 v1 v2 v3 n v4_5 v5_6 v6_7 σ_3 kk) fun j60 =>
    if r_2 = 0 then (j60 v4 v5) else
    rr_jn (fun (t_9 : Int32) =>
    rr_lt (v5 + t_9) fun v5_10 =>
    j60 r_2 v5_10) fun j53 =>
    rr_jn (fun (_ : Unit) =>
    j53 0) fun j52 =>
    if v4 = 0 then (j52 ()) else
    if r_2 = v4 then (j52 ()) else
    j53 1
theorem lw_Mod_changes_9 {X : rr_X} {G : rr_G} {l : Launch} {fu : Nat} (hG : G.2.2.1.Nodup) (hll : X.2.1 = l) (C : rr_C X G cX11_changes 8 "RootRowsModel" (some .int) 4 102) {r : Int32} {σr : rr_M} (v0 : Nat) (m_v0 : v0 ∈ G.2.2.1) (k_v0 : G.2.2.2.1 v0 = 9) (v1 : Int32) (v2 : Int32) (v3 : Int32) : ∀ (n : Nat) (v4 : Int32) (v5 : Int32) (v6 : Int32) (σ : rr_M) (K : Int32 → rr_M → Option (Int32 × rr_M)), l_Mod_changes_9 fu G.2.2.2.2 v0 v1 v2 v3 n v4 v5 v6 σ K = some (r, σr) → (∀ (w5 : Int32) (σ1 : rr_M), K w5 σ1 = some (r, σr) → rr_J X G 8 (rr_E X G σr (some (.int r))) σ1 66 [(5, .int w5)] []) → rr_J X G 8 (rr_E X G σr (some (.int r))) σ 9 [(0, .ref v0), (1, .int v1), (2, .int v2), (3, .int v3), (4, .int v4), (5, .int v5), (6, .int v6)] [] := by
  intro n
  induction n with
  | zero =>
    intro v4 v5 v6 σ K hm
    cases hm
  | succ n ih =>
    intro v4 v5 v6 σ K hm hk
    unfold l_Mod_changes_9 at hm
    refine rx_iload C 6 dX11_changes_9 rfl ?_
    refine rx_iload_n C 2 dX11_changes_11 rfl ?_
    refine rx_icmp_ge (tgt := 66) C dX11_changes_12 (by decide) hm (fun h_1 hm => ?_) (fun h_1 hm => ?_)
    · refine rx_lv [5] rfl ?_
      exact hk _ _ hm
    refine rx_aload_n C 0 dX11_changes_15 rfl ?_
    refine rx_iload_n C 1 dX11_changes_16 rfl ?_
    refine rx_iload C 6 dX11_changes_17 rfl ?_
    refine rx_iadd C dX11_changes_19 ?_
    refine rx_iload_n C 3 dX11_changes_20 rfl ?_
    obtain ⟨r_2, σ_3, hc_4, hm⟩ := rr_bd_some hm
    refine rr_callV (rest := []) (st1 := [.int r_2]) C 9 hll (c_Mod_signAt l G hG fu v0 m_v0 k_v0 (v1 + v6) v3 σ _ _ hc_4) q_1165 q_1167 qs_86 q_11 q_1168 hd_Mod_signAt ⟨_, rfl, rfl⟩ (by decide) m_v0 k_v0 ⟨by decide, by decide⟩ rfl rfl (Nat.le_of_ble_eq_true rfl) rfl dX11_changes_21 ?_
    refine rx_istore (lv1 := [(7, .int r_2), (0, .ref v0), (1, .int v1), (2, .int v2), (3, .int v3), (4, .int v4), (5, .int v5), (6, .int v6)]) C dX11_changes_24 (by decide) rfl ?_
    refine rx_iload C 0 dX11_changes_26 rfl ?_
    refine rr_jn2 hm (fun j60 ej60 hm => ?_)
    have hj60 : ∀ (v4_5 : Int32) (v5_6 : Int32), j60 v4_5 v5_6 = some (r, σr) → rr_J X G 8 (rr_E X G σr (some (.int r))) σ_3 60 [(0, .ref v0), (1, .int v1), (2, .int v2), (3, .int v3), (4, .int v4_5), (5, .int v5_6), (6, .int v6)] [] := by
      intro v4_5 v5_6 hm
      replace hm := ej60 _ _ hm
      refine rx_iinc (d := 1) (lv1 := fun v => [(6, .int v), (0, .ref v0), (1, .int v1), (2, .int v2), (3, .int v3), (4, .int v4_5), (5, .int v5_6)]) C 6 dX11_changes_60 hm rfl rfl (by decide) (fun _ => rfl) (fun v6_7 hm => ?_)
      refine rx_goto (tgt := 9) C dX11_changes_63 (by decide) ?_
      refine rx_lv [1, 2, 3, 4, 5, 6, 0] rfl ?_
      exact ih _ _ _ _ _ hm hk
    refine rx_if_ne (tgt := 34) C dX11_changes_28 (by decide) hm (fun h_8 hm => ?_) (fun h_8 hm => ?_)
    · refine rx_iload C 6 dX11_changes_34 rfl ?_
      refine rx_iload C 5 dX11_changes_36 rfl ?_
      refine rr_jn1 hm (fun j53 ej53 hm => ?_)
      have hj53 : ∀ (t_9 : Int32), j53 t_9 = some (r, σr) → rr_J X G 8 (rr_E X G σr (some (.int r))) σ_3 53 [(0, .ref v0), (1, .int v1), (2, .int v2), (3, .int v3), (4, .int v4), (5, .int v5), (6, .int v6), (7, .int r_2)] [.int t_9, .int v5] := by
        intro t_9 hm
        replace hm := ej53 _ hm
        refine rx_iadd C dX11_changes_53 ?_
        refine rx_nmi hm (fun v5_10 ev5_10 hm => ?_)
        refine rx_istore (lv1 := [(5, .int v5_10), (0, .ref v0), (1, .int v1), (2, .int v2), (3, .int v3), (4, .int v4), (6, .int v6), (7, .int r_2)]) C dX11_changes_54 (by decide) rfl ?_
        refine rx_iload C 7 dX11_changes_56 rfl ?_
        refine rx_istore (lv1 := [(4, .int r_2), (5, .int v5_10), (0, .ref v0), (1, .int v1), (2, .int v2), (3, .int v3), (6, .int v6), (7, .int r_2)]) C dX11_changes_58 (by decide) rfl ?_
        refine rx_lv [2, 3, 4, 5, 0, 1, 6] rfl ?_
        exact hj60 _ _ hm
      refine rr_jn1 hm (fun j52 ej52 hm => ?_)
      have hj52 : ∀ (uu : Unit), j52 uu = some (r, σr) → rr_J X G 8 (rr_E X G σr (some (.int r))) σ_3 52 [(0, .ref v0), (1, .int v1), (2, .int v2), (3, .int v3), (4, .int v4), (5, .int v5), (6, .int v6), (7, .int r_2)] [.int v5] := by
        intro uu hm
        replace hm := ej52 _ hm
        refine rx_iconst (v := 0) C dX11_changes_52 rfl ?_
        refine rx_lv [0, 1, 2, 3, 4, 5, 6, 7] rfl ?_
        exact hj53 _ hm
      refine rx_if_eq (tgt := 52) C dX11_changes_38 (by decide) hm (fun h_11 hm => ?_) (fun h_11 hm => ?_)
      · refine rx_lv [1, 2, 3, 4, 5, 6, 7, 0] rfl ?_
        exact hj52 () hm
      refine rx_iload C 0 dX11_changes_41 rfl ?_
      refine rx_iload C 5 dX11_changes_43 rfl ?_
      refine rx_icmp_eq (tgt := 52) C dX11_changes_45 (by decide) hm (fun h_12 hm => ?_) (fun h_12 hm => ?_)
      · refine rx_lv [1, 2, 3, 4, 5, 6, 7, 0] rfl ?_
        exact hj52 () hm
      refine rx_iconst (v := 1) C dX11_changes_48 rfl ?_
      refine rx_goto (tgt := 53) C dX11_changes_49 (by decide) ?_
      refine rx_lv [1, 2, 3, 4, 5, 6, 7, 0] rfl ?_
      exact hj53 _ hm
    refine rx_goto (tgt := 60) C dX11_changes_31 (by decide) ?_
    refine rx_lv [1, 2, 3, 4, 5, 6, 7] rfl ?_
    exact hj60 _ _ hm
def f_Mod_changes (fu : Nat) (N : Nat → Nat) (v0 : Nat) (v1 : Int32) (v2 : Int32) (v3 : Int32) (σ : rr_M) : Option (Int32 × rr_M) :=
    l_Mod_changes_9 fu N v0 v1 v2 v3 fu 0 0 0 σ (fun v5_13 σ_14 =>
    some (v5_13, σ_14))
theorem c_Mod_changes (l : Launch) (G : rr_G) (hG : G.2.2.1.Nodup) (fu : Nat) (v0 : Nat) (m_v0 : v0 ∈ G.2.2.1) (k_v0 : G.2.2.2.1 v0 = 9) (v1 : Int32) (v2 : Int32) (v3 : Int32) (σ : rr_M) (r : Int32) (σr : rr_M) (hm : f_Mod_changes fu G.2.2.2.2 v0 v1 v2 v3 σ = some (r, σr)) : rr_Met l G yX11_changes cX11_changes 8 (some .int) 4 102 [.ref v0, .int v1, .int v2, .int v3] σ σr (some (.int r)) := by
  refine rr_enter (lv0 := [(0, .ref v0), (1, .int v1), (2, .int v2), (3, .int v3)]) hp_Mod_changes hG (Nat.le_of_ble_eq_true rfl) rfl (fun X hll C => ?_)
  replace C : rr_C X G cX11_changes 8 "RootRowsModel" (some .int) 4 102 := C
  unfold f_Mod_changes at hm
  refine rx_iconst (v := 0) C dX11_changes_0 rfl ?_
  refine rx_istore (lv1 := [(4, .int 0), (0, .ref v0), (1, .int v1), (2, .int v2), (3, .int v3)]) C dX11_changes_1 (by decide) rfl ?_
  refine rx_iconst (v := 0) C dX11_changes_3 rfl ?_
  refine rx_istore (lv1 := [(5, .int 0), (4, .int 0), (0, .ref v0), (1, .int v1), (2, .int v2), (3, .int v3)]) C dX11_changes_4 (by decide) rfl ?_
  refine rx_iconst (v := 0) C dX11_changes_6 rfl ?_
  refine rx_istore (lv1 := [(6, .int 0), (5, .int 0), (4, .int 0), (0, .ref v0), (1, .int v1), (2, .int v2), (3, .int v3)]) C dX11_changes_7 (by decide) rfl ?_
  refine rx_lv [3, 4, 5, 6, 2, 1, 0] rfl ?_
  refine lw_Mod_changes_9 hG hll C v0 m_v0 k_v0 v1 v2 v3 _ _ _ _ _ _ hm (fun v5_13 σ_14 hm => ?_)
  refine rx_iload C 0 dX11_changes_66 rfl ?_
  exact rx_iret C dX11_changes_68 hm
def f_Mod_countOf (fu : Nat) (N : Nat → Nat) (v0 : Nat) (v1 : Int32) (v2 : Int32) (σ : rr_M) : Option (Int32 × rr_M) :=
    rr_lt (mg_r σ v0 9) fun p_1 =>
    (if rr_ix v1 (N p_1) then
    rr_lt (mg_r σ v0 10) fun p_2 =>
    (if rr_ix v1 (N p_2) then
    Option.bind (f_Mod_changesOut fu N v0 (mg_i σ p_1 (rr_n v1)) (mg_i σ p_2 (rr_n v1)) 1 σ) fun r_3 =>
    rr_lt (mg_r σ v0 9) fun p_5 =>
    (if rr_ix v1 (N p_5) then
    rr_lt (mg_r σ v0 10) fun p_6 =>
    (if rr_ix v1 (N p_6) then
    rr_bd (f_Mod_changes fu N v0 (mg_i σ p_5 (rr_n v1)) (mg_i σ p_6 (rr_n v1)) v2 σ) fun r_7 σ_8 =>
    some (r_3 - r_7, σ_8) else none) else none) else none) else none)
theorem c_Mod_countOf (l : Launch) (G : rr_G) (hG : G.2.2.1.Nodup) (fu : Nat) (v0 : Nat) (m_v0 : v0 ∈ G.2.2.1) (k_v0 : G.2.2.2.1 v0 = 9) (v1 : Int32) (v2 : Int32) (σ : rr_M) (r : Int32) (σr : rr_M) (hm : f_Mod_countOf fu G.2.2.2.2 v0 v1 v2 σ = some (r, σr)) : rr_Met l G yX11_countOf cX11_countOf 3 (some .int) 5 129 [.ref v0, .int v1, .int v2] σ σr (some (.int r)) := by
  refine rr_enter (lv0 := [(0, .ref v0), (1, .int v1), (2, .int v2)]) hp_Mod_countOf hG (Nat.le_of_ble_eq_true rfl) rfl (fun X hll C => ?_)
  replace C : rr_C X G cX11_countOf 3 "RootRowsModel" (some .int) 5 129 := C
  unfold f_Mod_countOf at hm
  refine rx_aload_n C 0 dX11_countOf_0 rfl ?_
  refine rx_aload_n C 0 dX11_countOf_1 rfl ?_
  refine gf_850 C m_v0 k_v0 dX11_countOf_2 hm (fun p_1 m_p_1 k_p_1 hm => ?_)
  refine rx_iload_n C 1 dX11_countOf_5 rfl ?_
  refine rx_iald C m_p_1 k_p_1 dX11_countOf_6 hm (fun hm => ?_)
  refine rx_aload_n C 0 dX11_countOf_7 rfl ?_
  refine gf_851 C m_v0 k_v0 dX11_countOf_8 hm (fun p_2 m_p_2 k_p_2 hm => ?_)
  refine rx_iload_n C 1 dX11_countOf_11 rfl ?_
  refine rx_iald C m_p_2 k_p_2 dX11_countOf_12 hm (fun hm => ?_)
  refine rx_iconst (v := 1) C dX11_countOf_13 rfl ?_
  obtain ⟨r_3, hc_4, hm⟩ := rr_b0_some hm
  refine rr_callV (rest := []) (st1 := [.int r_3]) C 9 hll (c_Mod_changesOut l G hG fu v0 m_v0 k_v0 (mg_i σ p_1 (rr_n v1)) (mg_i σ p_2 (rr_n v1)) 1 σ _ hc_4) q_1115 q_1117 qs_75 q_11 q_1118 hd_Mod_changesOut ⟨_, rfl, rfl⟩ (by decide) m_v0 k_v0 ⟨by decide, by decide⟩ rfl rfl (Nat.le_of_ble_eq_true rfl) rfl dX11_countOf_14 ?_
  refine rx_aload_n C 0 dX11_countOf_17 rfl ?_
  refine rx_aload_n C 0 dX11_countOf_18 rfl ?_
  refine gf_850 C m_v0 k_v0 dX11_countOf_19 hm (fun p_5 m_p_5 k_p_5 hm => ?_)
  refine rx_iload_n C 1 dX11_countOf_22 rfl ?_
  refine rx_iald C m_p_5 k_p_5 dX11_countOf_23 hm (fun hm => ?_)
  refine rx_aload_n C 0 dX11_countOf_24 rfl ?_
  refine gf_851 C m_v0 k_v0 dX11_countOf_25 hm (fun p_6 m_p_6 k_p_6 hm => ?_)
  refine rx_iload_n C 1 dX11_countOf_28 rfl ?_
  refine rx_iald C m_p_6 k_p_6 dX11_countOf_29 hm (fun hm => ?_)
  refine rx_iload_n C 2 dX11_countOf_30 rfl ?_
  obtain ⟨r_7, σ_8, hc_9, hm⟩ := rr_bd_some hm
  refine rr_callV (rest := [.int r_3]) (st1 := [.int r_7, .int r_3]) C 9 hll (c_Mod_changes l G hG fu v0 m_v0 k_v0 (mg_i σ p_5 (rr_n v1)) (mg_i σ p_6 (rr_n v1)) v2 σ _ _ hc_9) q_1161 q_1163 qs_85 q_11 q_1164 hd_Mod_changes ⟨_, rfl, rfl⟩ (by decide) m_v0 k_v0 ⟨by decide, by decide⟩ rfl rfl (Nat.le_of_ble_eq_true rfl) rfl dX11_countOf_31 ?_
  refine rx_isub C dX11_countOf_34 ?_
  exact rx_iret C dX11_countOf_35 hm
def l_Mod_upTo_13 (fu : Nat) (N : Nat → Nat) (v0 : Nat) (v3 : Int32) : Nat → Int32 → Int32 → rr_M → (Int32 → rr_M → Option (Int32 × rr_M)) → Option (Int32 × rr_M)
  | 0, _, _, _, _ => none
  | n + 1, v4, v5, σ, kk =>
    if (mg_i σ v0 11) ≤ v5 then (kk v4 σ) else
    rr_bd (f_Mod_countOf fu N v0 v5 v3 σ) fun r_4 σ_5 =>
    rr_lt (v4 + r_4) fun v4_7 =>
    rr_lt (v5 + 1) fun v5_8 =>
    l_Mod_upTo_13 fu N v0 v3 n v4_7 v5_8 σ_5 kk
theorem lw_Mod_upTo_13 {X : rr_X} {G : rr_G} {l : Launch} {fu : Nat} (hG : G.2.2.1.Nodup) (hll : X.2.1 = l) (C : rr_C X G cX11_upTo 6 "RootRowsModel" (some .int) 6 151) {r : Int32} {σr : rr_M} (v0 : Nat) (m_v0 : v0 ∈ G.2.2.1) (k_v0 : G.2.2.2.1 v0 = 9) (v3 : Int32) : ∀ (n : Nat) (v4 : Int32) (v5 : Int32) (σ : rr_M) (K : Int32 → rr_M → Option (Int32 × rr_M)), l_Mod_upTo_13 fu G.2.2.2.2 v0 v3 n v4 v5 σ K = some (r, σr) → (∀ (w4 : Int32) (σ1 : rr_M), K w4 σ1 = some (r, σr) → rr_J X G 6 (rr_E X G σr (some (.int r))) σ1 40 [(4, .int w4)] []) → rr_J X G 6 (rr_E X G σr (some (.int r))) σ 13 [(0, .ref v0), (3, .int v3), (4, .int v4), (5, .int v5)] [] := by
  intro n
  induction n with
  | zero =>
    intro v4 v5 σ K hm
    cases hm
  | succ n ih =>
    intro v4 v5 σ K hm hk
    unfold l_Mod_upTo_13 at hm
    refine rx_iload C 3 dX11_upTo_13 rfl ?_
    refine rx_aload_n C 0 dX11_upTo_15 rfl ?_
    refine gf_852 C m_v0 k_v0 dX11_upTo_16 ?_
    refine rx_icmp_ge (tgt := 40) C dX11_upTo_19 (by decide) hm (fun h_3 hm => ?_) (fun h_3 hm => ?_)
    · refine rx_lv [2] rfl ?_
      exact hk _ _ hm
    refine rx_iload C 2 dX11_upTo_22 rfl ?_
    refine rx_aload_n C 0 dX11_upTo_24 rfl ?_
    refine rx_iload C 3 dX11_upTo_25 rfl ?_
    refine rx_iload_n C 1 dX11_upTo_27 rfl ?_
    obtain ⟨r_4, σ_5, hc_6, hm⟩ := rr_bd_some hm
    refine rr_callV (rest := [.int v4]) (st1 := [.int r_4, .int v4]) C 9 hll (c_Mod_countOf l G hG fu v0 m_v0 k_v0 v5 v3 σ _ _ hc_6) q_1157 q_1159 qs_84 q_11 q_1160 hd_Mod_countOf ⟨_, rfl, rfl⟩ (by decide) m_v0 k_v0 ⟨by decide, by decide⟩ rfl rfl (Nat.le_of_ble_eq_true rfl) rfl dX11_upTo_28 ?_
    refine rx_iadd C dX11_upTo_31 ?_
    refine rx_nmi hm (fun v4_7 ev4_7 hm => ?_)
    refine rx_istore (lv1 := [(4, .int v4_7), (0, .ref v0), (3, .int v3), (5, .int v5)]) C dX11_upTo_32 (by decide) rfl ?_
    refine rx_iinc (d := 1) (lv1 := fun v => [(5, .int v), (4, .int v4_7), (0, .ref v0), (3, .int v3)]) C 3 dX11_upTo_34 hm rfl rfl (by decide) (fun _ => rfl) (fun v5_8 hm => ?_)
    refine rx_goto (tgt := 13) C dX11_upTo_37 (by decide) ?_
    refine rx_lv [2, 3, 1, 0] rfl ?_
    exact ih _ _ _ _ hm hk
def f_Mod_upTo (fu : Nat) (N : Nat → Nat) (v0 : Nat) (v1 : Int64) (v3 : Int32) (σ : rr_M) : Option (Int32 × rr_M) :=
    rr_bd (f_Mod_sets fu N v0 15 v1 σ) fun _ σ_1 =>
    l_Mod_upTo_13 fu N v0 v3 fu 0 0 σ_1 (fun v4_9 σ_10 =>
    some (v4_9, σ_10))
theorem c_Mod_upTo (l : Launch) (G : rr_G) (hG : G.2.2.1.Nodup) (fu : Nat) (v0 : Nat) (m_v0 : v0 ∈ G.2.2.1) (k_v0 : G.2.2.2.1 v0 = 9) (v1 : Int64) (v3 : Int32) (σ : rr_M) (r : Int32) (σr : rr_M) (hm : f_Mod_upTo fu G.2.2.2.2 v0 v1 v3 σ = some (r, σr)) : rr_Met l G yX11_upTo cX11_upTo 6 (some .int) 6 151 [.ref v0, .long v1, .int v3] σ σr (some (.int r)) := by
  refine rr_enter (lv0 := [(0, .ref v0), (1, .long v1), (3, .int v3)]) hp_Mod_upTo hG (Nat.le_of_ble_eq_true rfl) rfl (fun X hll C => ?_)
  replace C : rr_C X G cX11_upTo 6 "RootRowsModel" (some .int) 6 151 := C
  unfold f_Mod_upTo at hm
  refine rx_aload_n C 0 dX11_upTo_0 rfl ?_
  refine rx_bipush (v := 15) C dX11_upTo_1 rfl ?_
  refine rx_lload_n C 1 dX11_upTo_3 rfl ?_
  obtain ⟨_, σ_1, hc_2, hm⟩ := rr_bd_some hm
  refine rr_callV (rest := []) (st1 := []) C 9 hll (c_Mod_sets l G hG fu v0 m_v0 k_v0 15 v1 σ _ hc_2) q_992 q_994 qs_49 q_11 q_995 hd_Mod_sets ⟨_, rfl, rfl⟩ (by decide) m_v0 k_v0 ⟨by decide, by decide⟩ rfl rfl (Nat.le_of_ble_eq_true rfl) rfl dX11_upTo_4 ?_
  refine rx_iconst (v := 0) C dX11_upTo_7 rfl ?_
  refine rx_istore (lv1 := [(4, .int 0), (0, .ref v0), (1, .long v1), (3, .int v3)]) C dX11_upTo_8 (by decide) rfl ?_
  refine rx_iconst (v := 0) C dX11_upTo_10 rfl ?_
  refine rx_istore (lv1 := [(5, .int 0), (4, .int 0), (0, .ref v0), (1, .long v1), (3, .int v3)]) C dX11_upTo_11 (by decide) rfl ?_
  refine rx_lv [2, 4, 1, 0] rfl ?_
  refine lw_Mod_upTo_13 hG hll C v0 m_v0 k_v0 v3 _ _ _ _ _ hm (fun v4_9 σ_10 hm => ?_)
  refine rx_iload C 0 dX11_upTo_40 rfl ?_
  exact rx_iret C dX11_upTo_42 hm
def l_Mod_below_11 (fu : Nat) (N : Nat → Nat) (v0 : Nat) (v3 : Int32) : Nat → Int32 → Int32 → rr_M → (Int32 → rr_M → Option (Int32 × rr_M)) → Option (Int32 × rr_M)
  | 0, _, _, _, _ => none
  | n + 1, v4, v5, σ, kk =>
    if (mg_i σ v0 11) ≤ v5 then (kk v4 σ) else
    rr_lt (mg_r σ v0 9) fun p_5 =>
    (if rr_ix v5 (N p_5) then
    rr_bd (f_Mod_signAt fu N v0 (mg_i σ p_5 (rr_n v5)) v3 σ) fun r_6 σ_7 =>
    rr_jn (fun (t_9 : Int32) =>
    rr_lt (v4 - t_9) fun v4_10 =>
    rr_lt (v5 + 1) fun v5_11 =>
    l_Mod_below_11 fu N v0 v3 n v4_10 v5_11 σ_7 kk) fun j42 =>
    if r_6 = 0 then (j42 1) else
    j42 0 else none)
theorem lw_Mod_below_11 {X : rr_X} {G : rr_G} {l : Launch} {fu : Nat} (hG : G.2.2.1.Nodup) (hll : X.2.1 = l) (C : rr_C X G cX11_below 6 "RootRowsModel" (some .int) 7 176) {r : Int32} {σr : rr_M} (v0 : Nat) (m_v0 : v0 ∈ G.2.2.1) (k_v0 : G.2.2.2.1 v0 = 9) (v3 : Int32) : ∀ (n : Nat) (v4 : Int32) (v5 : Int32) (σ : rr_M) (K : Int32 → rr_M → Option (Int32 × rr_M)), l_Mod_below_11 fu G.2.2.2.2 v0 v3 n v4 v5 σ K = some (r, σr) → (∀ (w4 : Int32) (σ1 : rr_M), K w4 σ1 = some (r, σr) → rr_J X G 6 (rr_E X G σr (some (.int r))) σ1 51 [(4, .int w4)] []) → rr_J X G 6 (rr_E X G σr (some (.int r))) σ 11 [(0, .ref v0), (3, .int v3), (4, .int v4), (5, .int v5)] [] := by
  intro n
  induction n with
  | zero =>
    intro v4 v5 σ K hm
    cases hm
  | succ n ih =>
    intro v4 v5 σ K hm hk
    unfold l_Mod_below_11 at hm
    refine rx_iload C 3 dX11_below_11 rfl ?_
    refine rx_aload_n C 0 dX11_below_13 rfl ?_
    refine gf_852 C m_v0 k_v0 dX11_below_14 ?_
    refine rx_icmp_ge (tgt := 51) C dX11_below_17 (by decide) hm (fun h_4 hm => ?_) (fun h_4 hm => ?_)
    · refine rx_lv [2] rfl ?_
      exact hk _ _ hm
    refine rx_iload C 2 dX11_below_20 rfl ?_
    refine rx_aload_n C 0 dX11_below_22 rfl ?_
    refine rx_aload_n C 0 dX11_below_23 rfl ?_
    refine gf_850 C m_v0 k_v0 dX11_below_24 hm (fun p_5 m_p_5 k_p_5 hm => ?_)
    refine rx_iload C 3 dX11_below_27 rfl ?_
    refine rx_iald C m_p_5 k_p_5 dX11_below_29 hm (fun hm => ?_)
    refine rx_iload_n C 1 dX11_below_30 rfl ?_
    obtain ⟨r_6, σ_7, hc_8, hm⟩ := rr_bd_some hm
    refine rr_callV (rest := [.int v4]) (st1 := [.int r_6, .int v4]) C 9 hll (c_Mod_signAt l G hG fu v0 m_v0 k_v0 (mg_i σ p_5 (rr_n v5)) v3 σ _ _ hc_8) q_1165 q_1167 qs_86 q_11 q_1168 hd_Mod_signAt ⟨_, rfl, rfl⟩ (by decide) m_v0 k_v0 ⟨by decide, by decide⟩ rfl rfl (Nat.le_of_ble_eq_true rfl) rfl dX11_below_31 ?_
    refine rr_jn1 hm (fun j42 ej42 hm => ?_)
    have hj42 : ∀ (t_9 : Int32), j42 t_9 = some (r, σr) → rr_J X G 6 (rr_E X G σr (some (.int r))) σ_7 42 [(0, .ref v0), (3, .int v3), (4, .int v4), (5, .int v5)] [.int t_9, .int v4] := by
      intro t_9 hm
      replace hm := ej42 _ hm
      refine rx_isub C dX11_below_42 ?_
      refine rx_nmi hm (fun v4_10 ev4_10 hm => ?_)
      refine rx_istore (lv1 := [(4, .int v4_10), (0, .ref v0), (3, .int v3), (5, .int v5)]) C dX11_below_43 (by decide) rfl ?_
      refine rx_iinc (d := 1) (lv1 := fun v => [(5, .int v), (4, .int v4_10), (0, .ref v0), (3, .int v3)]) C 3 dX11_below_45 hm rfl rfl (by decide) (fun _ => rfl) (fun v5_11 hm => ?_)
      refine rx_goto (tgt := 11) C dX11_below_48 (by decide) ?_
      refine rx_lv [2, 3, 1, 0] rfl ?_
      exact ih _ _ _ _ hm hk
    refine rx_if_ne (tgt := 41) C dX11_below_34 (by decide) hm (fun h_12 hm => ?_) (fun h_12 hm => ?_)
    · refine rx_iconst (v := 0) C dX11_below_41 rfl ?_
      refine rx_lv [0, 1, 2, 3] rfl ?_
      exact hj42 _ hm
    refine rx_iconst (v := 1) C dX11_below_37 rfl ?_
    refine rx_goto (tgt := 42) C dX11_below_38 (by decide) ?_
    refine rx_lv [0, 1, 2, 3] rfl ?_
    exact hj42 _ hm
def f_Mod_below (fu : Nat) (N : Nat → Nat) (v0 : Nat) (v1 : Int64) (v3 : Int32) (σ : rr_M) : Option (Int32 × rr_M) :=
    rr_bd (f_Mod_upTo fu N v0 v1 v3 σ) fun r_1 σ_2 =>
    l_Mod_below_11 fu N v0 v3 fu r_1 0 σ_2 (fun v4_13 σ_14 =>
    some (v4_13, σ_14))
theorem c_Mod_below (l : Launch) (G : rr_G) (hG : G.2.2.1.Nodup) (fu : Nat) (v0 : Nat) (m_v0 : v0 ∈ G.2.2.1) (k_v0 : G.2.2.2.1 v0 = 9) (v1 : Int64) (v3 : Int32) (σ : rr_M) (r : Int32) (σr : rr_M) (hm : f_Mod_below fu G.2.2.2.2 v0 v1 v3 σ = some (r, σr)) : rr_Met l G yX11_below cX11_below 6 (some .int) 7 176 [.ref v0, .long v1, .int v3] σ σr (some (.int r)) := by
  refine rr_enter (lv0 := [(0, .ref v0), (1, .long v1), (3, .int v3)]) hp_Mod_below hG (Nat.le_of_ble_eq_true rfl) rfl (fun X hll C => ?_)
  replace C : rr_C X G cX11_below 6 "RootRowsModel" (some .int) 7 176 := C
  unfold f_Mod_below at hm
  refine rx_aload_n C 0 dX11_below_0 rfl ?_
  refine rx_lload_n C 1 dX11_below_1 rfl ?_
  refine rx_iload_n C 2 dX11_below_2 rfl ?_
  obtain ⟨r_1, σ_2, hc_3, hm⟩ := rr_bd_some hm
  refine rr_callV (rest := []) (st1 := [.int r_1]) C 9 hll (c_Mod_upTo l G hG fu v0 m_v0 k_v0 v1 v3 σ _ _ hc_3) q_1153 q_1155 qs_83 q_11 q_1156 hd_Mod_upTo ⟨_, rfl, rfl⟩ (by decide) m_v0 k_v0 ⟨by decide, by decide⟩ rfl rfl (Nat.le_of_ble_eq_true rfl) rfl dX11_below_3 ?_
  refine rx_istore (lv1 := [(4, .int r_1), (0, .ref v0), (1, .long v1), (3, .int v3)]) C dX11_below_6 (by decide) rfl ?_
  refine rx_iconst (v := 0) C dX11_below_8 rfl ?_
  refine rx_istore (lv1 := [(5, .int 0), (4, .int r_1), (0, .ref v0), (1, .long v1), (3, .int v3)]) C dX11_below_9 (by decide) rfl ?_
  refine rx_lv [2, 4, 1, 0] rfl ?_
  refine lw_Mod_below_11 hG hll C v0 m_v0 k_v0 v3 _ _ _ _ _ hm (fun v4_13 σ_14 hm => ?_)
  refine rx_iload C 0 dX11_below_51 rfl ?_
  exact rx_iret C dX11_below_53 hm
def f_Mod_isIn (v0 : Int64) (v2 : Int64) (v4 : Int64) : Option (Int32) :=
    if v0 < v2 then (if rr_b1 0 then some (0) else none) else
    if v4 < v0 then (if rr_b1 0 then some (0) else none) else
    if rr_b1 1 then some (1) else none
theorem c_Mod_isIn (l : Launch) (G : rr_G) (hG : G.2.2.1.Nodup) (v0 : Int64) (v2 : Int64) (v4 : Int64) (σ : rr_M) (r : Int32) (hm : f_Mod_isIn v0 v2 v4 = some r) : rr_Met l G yX11_isIn cX11_isIn 6 (some .boolean) 0 0 [.long v0, .long v2, .long v4] σ σ (some (.int r)) := by
  refine rr_enter (lv0 := [(0, .long v0), (2, .long v2), (4, .long v4)]) hp_Mod_isIn hG (Nat.le_of_ble_eq_true rfl) rfl (fun X hll C => ?_)
  replace C : rr_C X G cX11_isIn 6 "RootRowsModel" (some .boolean) 0 0 := C
  unfold f_Mod_isIn at hm
  refine rx_lload_n C 0 dX11_isIn_0 rfl ?_
  refine rx_lload_n C 1 dX11_isIn_1 rfl ?_
  refine rx_lcmp_lt (tgt := 17) C dX11_isIn_2 dX11_isIn_3 (by decide) hm (fun h_1 hm => ?_) (fun h_1 hm => ?_)
  · refine rx_iconst (v := 0) C dX11_isIn_17 rfl ?_
    exact rx_zretR C dX11_isIn_18 hm
  refine rx_lload_n C 0 dX11_isIn_6 rfl ?_
  refine rx_lload C 2 dX11_isIn_7 rfl ?_
  refine rx_lcmp_gt (tgt := 17) C dX11_isIn_9 dX11_isIn_10 (by decide) hm (fun h_2 hm => ?_) (fun h_2 hm => ?_)
  · refine rx_iconst (v := 0) C dX11_isIn_17 rfl ?_
    exact rx_zretR C dX11_isIn_18 hm
  refine rx_iconst (v := 1) C dX11_isIn_13 rfl ?_
  refine rx_goto (tgt := 18) C dX11_isIn_14 (by decide) ?_
  exact rx_zretR C dX11_isIn_18 hm
def f_Mod_isTray (v0 : Nat) (v1 : Int32) : Option (Int32) :=
    Option.bind (f_Mod_isIn v1.toInt64 0 7) fun r_1 =>
    if rr_b1 r_1 then some (r_1) else none
theorem c_Mod_isTray (l : Launch) (G : rr_G) (hG : G.2.2.1.Nodup) (v0 : Nat) (m_v0 : v0 ∈ G.2.2.1) (k_v0 : G.2.2.2.1 v0 = 9) (v1 : Int32) (σ : rr_M) (r : Int32) (hm : f_Mod_isTray v0 v1 = some r) : rr_Met l G yX11_isTray cX11_isTray 2 (some .boolean) 1 25 [.ref v0, .int v1] σ σ (some (.int r)) := by
  refine rr_enter (lv0 := [(0, .ref v0), (1, .int v1)]) hp_Mod_isTray hG (Nat.le_of_ble_eq_true rfl) rfl (fun X hll C => ?_)
  replace C : rr_C X G cX11_isTray 2 "RootRowsModel" (some .boolean) 1 25 := C
  unfold f_Mod_isTray at hm
  refine rx_iload_n C 1 dX11_isTray_0 rfl ?_
  refine rx_i2l C dX11_isTray_1 ?_
  refine rx_lconst (v := 0) C dX11_isTray_2 rfl ?_
  refine rx_ldc2 C q_920 dX11_isTray_3 ?_
  obtain ⟨r_1, hc_2, hm⟩ := rr_b0_some hm
  refine rr_callS (rest := []) (st1 := [.int r_1]) C hll (c_Mod_isIn l G hG v1.toInt64 0 7 σ _ hc_2) q_909 q_910 q_11 q_911 hd_Mod_isIn ⟨by decide, by decide⟩ rfl rfl (Nat.le_of_ble_eq_true rfl) rfl dX11_isTray_6 ?_
  exact rx_zretR C dX11_isTray_9 hm
def f_Mod_between (fu : Nat) (N : Nat → Nat) (v0 : Nat) (v1 : Int32) (v2 : Int32) (v3 : Int32) (σ : rr_M) : Option (Int32 × rr_M) :=
    rr_lt (ms_i σ v0 0 0) fun σ_1 =>
    Option.bind (f_Mod_isTray v0 v1) fun r_2 =>
    if r_2 = 0 then (some ((-1), σ_1)) else
    if v2 ≤ v3 then (rr_bd (f_Mod_lays fu N v0 v1 σ_1) fun _ σ_6 =>
    rr_bd (f_Mod_upTo fu N v0 v3.toInt64 0 σ_6) fun r_8 σ_9 =>
    rr_bd (f_Mod_upTo fu N v0 v2.toInt64 0 σ_9) fun r_11 σ_12 =>
    some (r_8 - r_11, σ_12)) else
    some ((-1), σ_1)
theorem c_Mod_between (l : Launch) (G : rr_G) (hG : G.2.2.1.Nodup) (fu : Nat) (v0 : Nat) (m_v0 : v0 ∈ G.2.2.1) (k_v0 : G.2.2.2.1 v0 = 9) (v1 : Int32) (v2 : Int32) (v3 : Int32) (σ : rr_M) (r : Int32) (σr : rr_M) (hm : f_Mod_between fu G.2.2.2.2 v0 v1 v2 v3 σ = some (r, σr)) : rr_Met l G yX11_between cX11_between 4 (some .int) 7 181 [.ref v0, .int v1, .int v2, .int v3] σ σr (some (.int r)) := by
  refine rr_enter (lv0 := [(0, .ref v0), (1, .int v1), (2, .int v2), (3, .int v3)]) hp_Mod_between hG (Nat.le_of_ble_eq_true rfl) rfl (fun X hll C => ?_)
  replace C : rr_C X G cX11_between 4 "RootRowsModel" (some .int) 7 181 := C
  unfold f_Mod_between at hm
  refine rx_aload_n C 0 dX11_between_0 rfl ?_
  refine rx_iconst (v := 0) C dX11_between_1 rfl ?_
  refine pf_841 C m_v0 k_v0 dX11_between_2 hm (fun σ_1 hm => ?_)
  refine rx_aload_n C 0 dX11_between_5 rfl ?_
  refine rx_iload_n C 1 dX11_between_6 rfl ?_
  obtain ⟨r_2, hc_3, hm⟩ := rr_b0_some hm
  refine rr_callV (rest := []) (st1 := [.int r_2]) C 9 hll (c_Mod_isTray l G hG v0 m_v0 k_v0 v1 σ_1 _ hc_3) q_916 q_918 qs_37 q_11 q_919 hd_Mod_isTray ⟨_, rfl, rfl⟩ (by decide) m_v0 k_v0 ⟨by decide, by decide⟩ rfl rfl (Nat.le_of_ble_eq_true rfl) rfl dX11_between_7 ?_
  refine rx_if_eq (tgt := 18) C dX11_between_10 (by decide) hm (fun h_4 hm => ?_) (fun h_4 hm => ?_)
  · refine rx_iconst (v := (-1)) C dX11_between_18 rfl ?_
    exact rx_iret C dX11_between_19 hm
  refine rx_iload_n C 2 dX11_between_13 rfl ?_
  refine rx_iload_n C 3 dX11_between_14 rfl ?_
  refine rx_icmp_le (tgt := 20) C dX11_between_15 (by decide) hm (fun h_5 hm => ?_) (fun h_5 hm => ?_)
  · refine rx_aload_n C 0 dX11_between_20 rfl ?_
    refine rx_iload_n C 1 dX11_between_21 rfl ?_
    obtain ⟨_, σ_6, hc_7, hm⟩ := rr_bd_some hm
    refine rr_callV (rest := []) (st1 := []) C 9 hll (c_Mod_lays l G hG fu v0 m_v0 k_v0 v1 σ_1 _ hc_7) q_1059 q_1061 qs_61 q_11 q_1062 hd_Mod_lays ⟨_, rfl, rfl⟩ (by decide) m_v0 k_v0 ⟨by decide, by decide⟩ rfl rfl (Nat.le_of_ble_eq_true rfl) rfl dX11_between_22 ?_
    refine rx_aload_n C 0 dX11_between_25 rfl ?_
    refine rx_iload_n C 3 dX11_between_26 rfl ?_
    refine rx_i2l C dX11_between_27 ?_
    refine rx_iconst (v := 0) C dX11_between_28 rfl ?_
    obtain ⟨r_8, σ_9, hc_10, hm⟩ := rr_bd_some hm
    refine rr_callV (rest := []) (st1 := [.int r_8]) C 9 hll (c_Mod_upTo l G hG fu v0 m_v0 k_v0 v3.toInt64 0 σ_6 _ _ hc_10) q_1153 q_1155 qs_83 q_11 q_1156 hd_Mod_upTo ⟨_, rfl, rfl⟩ (by decide) m_v0 k_v0 ⟨by decide, by decide⟩ rfl rfl (Nat.le_of_ble_eq_true rfl) rfl dX11_between_29 ?_
    refine rx_aload_n C 0 dX11_between_32 rfl ?_
    refine rx_iload_n C 2 dX11_between_33 rfl ?_
    refine rx_i2l C dX11_between_34 ?_
    refine rx_iconst (v := 0) C dX11_between_35 rfl ?_
    obtain ⟨r_11, σ_12, hc_13, hm⟩ := rr_bd_some hm
    refine rr_callV (rest := [.int r_8]) (st1 := [.int r_11, .int r_8]) C 9 hll (c_Mod_upTo l G hG fu v0 m_v0 k_v0 v2.toInt64 0 σ_9 _ _ hc_13) q_1153 q_1155 qs_83 q_11 q_1156 hd_Mod_upTo ⟨_, rfl, rfl⟩ (by decide) m_v0 k_v0 ⟨by decide, by decide⟩ rfl rfl (Nat.le_of_ble_eq_true rfl) rfl dX11_between_36 ?_
    refine rx_isub C dX11_between_39 ?_
    exact rx_iret C dX11_between_40 hm
  refine rx_iconst (v := (-1)) C dX11_between_18 rfl ?_
  exact rx_iret C dX11_between_19 hm
def l_Mod_chain_26 (fu : Nat) (N : Nat → Nat) (v0 : Nat) (v2 : Int32) : Nat → Int32 → rr_M → (rr_M → Option (Int32 × rr_M)) → Option (Int32 × rr_M)
  | 0, _, _, _ => none
  | n + 1, v3, σ, kk =>
    if v2 ≤ v3 then (kk σ) else
    rr_bd (f_Mod_areLaced fu N v0 (v3 + 1) v3 σ) fun r_9 σ_10 =>
    if r_9 = 0 then (some (v3, σ_10)) else
    rr_lt (v3 + 1) fun v3_13 =>
    l_Mod_chain_26 fu N v0 v2 n v3_13 σ_10 kk
theorem lw_Mod_chain_26 {X : rr_X} {G : rr_G} {l : Launch} {fu : Nat} (hG : G.2.2.1.Nodup) (hll : X.2.1 = l) (C : rr_C X G cX11_chain 4 "RootRowsModel" (some .int) 9 229) {r : Int32} {σr : rr_M} (v0 : Nat) (m_v0 : v0 ∈ G.2.2.1) (k_v0 : G.2.2.2.1 v0 = 9) (v2 : Int32) : ∀ (n : Nat) (v3 : Int32) (σ : rr_M) (K : rr_M → Option (Int32 × rr_M)), l_Mod_chain_26 fu G.2.2.2.2 v0 v2 n v3 σ K = some (r, σr) → (∀ (σ1 : rr_M), K σ1 = some (r, σr) → rr_J X G 4 (rr_E X G σr (some (.int r))) σ1 50 [] []) → rr_J X G 4 (rr_E X G σr (some (.int r))) σ 26 [(0, .ref v0), (2, .int v2), (3, .int v3)] [] := by
  intro n
  induction n with
  | zero =>
    intro v3 σ K hm
    cases hm
  | succ n ih =>
    intro v3 σ K hm hk
    unfold l_Mod_chain_26 at hm
    refine rx_iload_n C 2 dX11_chain_26 rfl ?_
    refine rx_iload_n C 1 dX11_chain_27 rfl ?_
    refine rx_icmp_ge (tgt := 50) C dX11_chain_28 (by decide) hm (fun h_8 hm => ?_) (fun h_8 hm => ?_)
    · refine rx_lv [] rfl ?_
      exact hk _ hm
    refine rx_aload_n C 0 dX11_chain_31 rfl ?_
    refine rx_iload_n C 2 dX11_chain_32 rfl ?_
    refine rx_iconst (v := 1) C dX11_chain_33 rfl ?_
    refine rx_iadd C dX11_chain_34 ?_
    refine rx_iload_n C 2 dX11_chain_35 rfl ?_
    obtain ⟨r_9, σ_10, hc_11, hm⟩ := rr_bd_some hm
    refine rr_callV (rest := []) (st1 := [.int r_9]) C 9 hll (c_Mod_areLaced l G hG fu v0 m_v0 k_v0 (v3 + 1) v3 σ _ _ hc_11) q_1195 q_1197 qs_89 q_11 q_1198 hd_Mod_areLaced ⟨_, rfl, rfl⟩ (by decide) m_v0 k_v0 ⟨by decide, by decide⟩ rfl rfl (Nat.le_of_ble_eq_true rfl) rfl dX11_chain_36 ?_
    refine rx_if_ne (tgt := 44) C dX11_chain_39 (by decide) hm (fun h_12 hm => ?_) (fun h_12 hm => ?_)
    · refine rx_iinc (d := 1) (lv1 := fun v => [(3, .int v), (0, .ref v0), (2, .int v2)]) C 2 dX11_chain_44 hm rfl rfl (by decide) (fun _ => rfl) (fun v3_13 hm => ?_)
      refine rx_goto (tgt := 26) C dX11_chain_47 (by decide) ?_
      refine rx_lv [1, 2, 0] rfl ?_
      exact ih _ _ _ hm hk
    refine rx_iload_n C 2 dX11_chain_42 rfl ?_
    exact rx_iret C dX11_chain_43 hm
def f_Mod_chain (fu : Nat) (N : Nat → Nat) (v0 : Nat) (v1 : Int32) (v2 : Int32) (σ : rr_M) : Option (Int32 × rr_M) :=
    rr_lt (ms_i σ v0 0 0) fun σ_1 =>
    Option.bind (f_Mod_isTray v0 v1) fun r_2 =>
    if r_2 = 0 then (some ((-2), σ_1)) else
    Option.bind (f_Mod_isTray v0 v2) fun r_5 =>
    if r_5 = 0 then (some ((-2), σ_1)) else
    l_Mod_chain_26 fu N v0 v2 fu v1 σ_1 (fun σ_14 =>
    some ((-1), σ_14))
theorem c_Mod_chain (l : Launch) (G : rr_G) (hG : G.2.2.1.Nodup) (fu : Nat) (v0 : Nat) (m_v0 : v0 ∈ G.2.2.1) (k_v0 : G.2.2.2.1 v0 = 9) (v1 : Int32) (v2 : Int32) (σ : rr_M) (r : Int32) (σr : rr_M) (hm : f_Mod_chain fu G.2.2.2.2 v0 v1 v2 σ = some (r, σr)) : rr_Met l G yX11_chain cX11_chain 4 (some .int) 9 229 [.ref v0, .int v1, .int v2] σ σr (some (.int r)) := by
  refine rr_enter (lv0 := [(0, .ref v0), (1, .int v1), (2, .int v2)]) hp_Mod_chain hG (Nat.le_of_ble_eq_true rfl) rfl (fun X hll C => ?_)
  replace C : rr_C X G cX11_chain 4 "RootRowsModel" (some .int) 9 229 := C
  unfold f_Mod_chain at hm
  refine rx_aload_n C 0 dX11_chain_0 rfl ?_
  refine rx_iconst (v := 0) C dX11_chain_1 rfl ?_
  refine pf_841 C m_v0 k_v0 dX11_chain_2 hm (fun σ_1 hm => ?_)
  refine rx_aload_n C 0 dX11_chain_5 rfl ?_
  refine rx_iload_n C 1 dX11_chain_6 rfl ?_
  obtain ⟨r_2, hc_3, hm⟩ := rr_b0_some hm
  refine rr_callV (rest := []) (st1 := [.int r_2]) C 9 hll (c_Mod_isTray l G hG v0 m_v0 k_v0 v1 σ_1 _ hc_3) q_916 q_918 qs_37 q_11 q_919 hd_Mod_isTray ⟨_, rfl, rfl⟩ (by decide) m_v0 k_v0 ⟨by decide, by decide⟩ rfl rfl (Nat.le_of_ble_eq_true rfl) rfl dX11_chain_7 ?_
  refine rx_if_eq (tgt := 21) C dX11_chain_10 (by decide) hm (fun h_4 hm => ?_) (fun h_4 hm => ?_)
  · refine rx_bipush (v := (-2)) C dX11_chain_21 rfl ?_
    exact rx_iret C dX11_chain_23 hm
  refine rx_aload_n C 0 dX11_chain_13 rfl ?_
  refine rx_iload_n C 2 dX11_chain_14 rfl ?_
  obtain ⟨r_5, hc_6, hm⟩ := rr_b0_some hm
  refine rr_callV (rest := []) (st1 := [.int r_5]) C 9 hll (c_Mod_isTray l G hG v0 m_v0 k_v0 v2 σ_1 _ hc_6) q_916 q_918 qs_37 q_11 q_919 hd_Mod_isTray ⟨_, rfl, rfl⟩ (by decide) m_v0 k_v0 ⟨by decide, by decide⟩ rfl rfl (Nat.le_of_ble_eq_true rfl) rfl dX11_chain_15 ?_
  refine rx_if_ne (tgt := 24) C dX11_chain_18 (by decide) hm (fun h_7 hm => ?_) (fun h_7 hm => ?_)
  · refine rx_iload_n C 1 dX11_chain_24 rfl ?_
    refine rx_istore_n (lv1 := [(3, .int v1), (0, .ref v0), (1, .int v1), (2, .int v2)]) C dX11_chain_25 (by decide) rfl ?_
    refine rx_lv [1, 3, 0] rfl ?_
    refine lw_Mod_chain_26 hG hll C v0 m_v0 k_v0 v2 _ _ _ _ hm (fun σ_14 hm => ?_)
    refine rx_iconst (v := (-1)) C dX11_chain_50 rfl ?_
    exact rx_iret C dX11_chain_51 hm
  refine rx_bipush (v := (-2)) C dX11_chain_21 rfl ?_
  exact rx_iret C dX11_chain_23 hm
def l_Mod_isPoly_2 (fu : Nat) (N : Nat → Nat) (v0 : Nat) (v1 : Int32) (σ : rr_M) : Nat → Int32 → (Option (Int32)) → Option (Int32)
  | 0, _, _ => none
  | n + 1, v2, kk =>
    if 9 ≤ v2 then (kk) else
    Option.bind (f_Mod_at N v0 v1 v2 σ) fun r_2 =>
    Option.bind (f_Mod_size r_2) fun r_4 =>
    if r_4 ≤ 100000000 then (rr_lt (v2 + 1) fun v2_7 =>
    l_Mod_isPoly_2 fu N v0 v1 σ n v2_7 kk) else
    if rr_b1 0 then some (0) else none
theorem lw_Mod_isPoly_2 {X : rr_X} {G : rr_G} {l : Launch} {fu : Nat} (hG : G.2.2.1.Nodup) (hll : X.2.1 = l) (C : rr_C X G cX11_isPoly 3 "RootRowsModel" (some .boolean) 1 22) {r : Int32}  (σ : rr_M) (v0 : Nat) (m_v0 : v0 ∈ G.2.2.1) (k_v0 : G.2.2.2.1 v0 = 9) (v1 : Int32) : ∀ (n : Nat) (v2 : Int32) (K : Option (Int32)), l_Mod_isPoly_2 fu G.2.2.2.2 v0 v1 σ n v2 K = some r → (∀ (_ : Unit), K = some r → rr_J X G 3 (rr_E X G σ (some (.int r))) σ 32 [] []) → rr_J X G 3 (rr_E X G σ (some (.int r))) σ 2 [(0, .ref v0), (1, .int v1), (2, .int v2)] [] := by
  intro n
  induction n with
  | zero =>
    intro v2 K hm
    cases hm
  | succ n ih =>
    intro v2 K hm hk
    unfold l_Mod_isPoly_2 at hm
    refine rx_iload_n C 2 dX11_isPoly_2 rfl ?_
    refine rx_bipush (v := 9) C dX11_isPoly_3 rfl ?_
    refine rx_icmp_ge (tgt := 32) C dX11_isPoly_5 (by decide) hm (fun h_1 hm => ?_) (fun h_1 hm => ?_)
    · refine rx_lv [] rfl ?_
      exact hk () hm
    refine rx_aload_n C 0 dX11_isPoly_8 rfl ?_
    refine rx_iload_n C 1 dX11_isPoly_9 rfl ?_
    refine rx_iload_n C 2 dX11_isPoly_10 rfl ?_
    obtain ⟨r_2, hc_3, hm⟩ := rr_b0_some hm
    refine rr_callV (rest := []) (st1 := [.long r_2]) C 9 hll (c_Mod_at l G hG v0 m_v0 k_v0 v1 v2 σ _ hc_3) q_950 q_952 qs_44 q_11 q_953 hd_Mod_at ⟨_, rfl, rfl⟩ (by decide) m_v0 k_v0 ⟨by decide, by decide⟩ rfl rfl (Nat.le_of_ble_eq_true rfl) rfl dX11_isPoly_11 ?_
    obtain ⟨r_4, hc_5, hm⟩ := rr_b0_some hm
    refine rr_callS (rest := []) (st1 := [.long r_4]) C hll (c_Mod_size l G hG r_2 σ _ hc_5) q_958 q_959 q_11 q_960 hd_Mod_size ⟨by decide, by decide⟩ rfl rfl (Nat.le_of_ble_eq_true rfl) rfl dX11_isPoly_14 ?_
    refine rx_ldc2 C q_943 dX11_isPoly_17 ?_
    refine rx_lcmp_le (tgt := 26) C dX11_isPoly_20 dX11_isPoly_21 (by decide) hm (fun h_6 hm => ?_) (fun h_6 hm => ?_)
    · refine rx_iinc (d := 1) (lv1 := fun v => [(2, .int v), (0, .ref v0), (1, .int v1)]) C 2 dX11_isPoly_26 hm rfl rfl (by decide) (fun _ => rfl) (fun v2_7 hm => ?_)
      refine rx_goto (tgt := 2) C dX11_isPoly_29 (by decide) ?_
      refine rx_lv [1, 2, 0] rfl ?_
      exact ih _ _ hm hk
    refine rx_iconst (v := 0) C dX11_isPoly_24 rfl ?_
    exact rx_zretR C dX11_isPoly_25 hm
def f_Mod_isPoly (fu : Nat) (N : Nat → Nat) (v0 : Nat) (v1 : Int32) (σ : rr_M) : Option (Int32) :=
    l_Mod_isPoly_2 fu N v0 v1 σ fu 0 (if rr_b1 1 then some (1) else none)
theorem c_Mod_isPoly (l : Launch) (G : rr_G) (hG : G.2.2.1.Nodup) (fu : Nat) (v0 : Nat) (m_v0 : v0 ∈ G.2.2.1) (k_v0 : G.2.2.2.1 v0 = 9) (v1 : Int32) (σ : rr_M) (r : Int32) (hm : f_Mod_isPoly fu G.2.2.2.2 v0 v1 σ = some r) : rr_Met l G yX11_isPoly cX11_isPoly 3 (some .boolean) 1 22 [.ref v0, .int v1] σ σ (some (.int r)) := by
  refine rr_enter (lv0 := [(0, .ref v0), (1, .int v1)]) hp_Mod_isPoly hG (Nat.le_of_ble_eq_true rfl) rfl (fun X hll C => ?_)
  replace C : rr_C X G cX11_isPoly 3 "RootRowsModel" (some .boolean) 1 22 := C
  unfold f_Mod_isPoly at hm
  refine rx_iconst (v := 0) C dX11_isPoly_0 rfl ?_
  refine rx_istore_n (lv1 := [(2, .int 0), (0, .ref v0), (1, .int v1)]) C dX11_isPoly_1 (by decide) rfl ?_
  refine rx_lv [1, 2, 0] rfl ?_
  refine lw_Mod_isPoly_2 hG hll C σ v0 m_v0 k_v0 v1 _ _ _ hm (fun _ hm => ?_)
  refine rx_iconst (v := 1) C dX11_isPoly_32 rfl ?_
  exact rx_zretR C dX11_isPoly_33 hm
def l_Mod_comes_13 (fu : Nat) (N : Nat → Nat) (v0 : Nat) (v1 : Int32) : Nat → Int32 → rr_M → (rr_M → Option (Int32 × rr_M)) → Option (Int32 × rr_M)
  | 0, _, _, _ => none
  | n + 1, v2, σ, kk =>
    if 9 ≤ v2 then (kk σ) else
    Option.bind (f_Mod_at N v0 21 v2 σ) fun r_5 =>
    rr_bd (f_Mod_puts N v0 v1 v2 r_5 σ) fun _ σ_7 =>
    rr_lt (v2 + 1) fun v2_9 =>
    l_Mod_comes_13 fu N v0 v1 n v2_9 σ_7 kk
theorem lw_Mod_comes_13 {X : rr_X} {G : rr_G} {l : Launch} {fu : Nat} (hG : G.2.2.1.Nodup) (hll : X.2.1 = l) (C : rr_C X G cX11_comes 3 "RootRowsModel" (some .boolean) 2 44) {r : Int32} {σr : rr_M} (v0 : Nat) (m_v0 : v0 ∈ G.2.2.1) (k_v0 : G.2.2.2.1 v0 = 9) (v1 : Int32) : ∀ (n : Nat) (v2 : Int32) (σ : rr_M) (K : rr_M → Option (Int32 × rr_M)), l_Mod_comes_13 fu G.2.2.2.2 v0 v1 n v2 σ K = some (r, σr) → (∀ (σ1 : rr_M), K σ1 = some (r, σr) → rr_J X G 3 (rr_E X G σr (some (.int r))) σ1 38 [] []) → rr_J X G 3 (rr_E X G σr (some (.int r))) σ 13 [(0, .ref v0), (1, .int v1), (2, .int v2)] [] := by
  intro n
  induction n with
  | zero =>
    intro v2 σ K hm
    cases hm
  | succ n ih =>
    intro v2 σ K hm hk
    unfold l_Mod_comes_13 at hm
    refine rx_iload_n C 2 dX11_comes_13 rfl ?_
    refine rx_bipush (v := 9) C dX11_comes_14 rfl ?_
    refine rx_icmp_ge (tgt := 38) C dX11_comes_16 (by decide) hm (fun h_4 hm => ?_) (fun h_4 hm => ?_)
    · refine rx_lv [] rfl ?_
      exact hk _ hm
    refine rx_aload_n C 0 dX11_comes_19 rfl ?_
    refine rx_iload_n C 1 dX11_comes_20 rfl ?_
    refine rx_iload_n C 2 dX11_comes_21 rfl ?_
    refine rx_aload_n C 0 dX11_comes_22 rfl ?_
    refine rx_bipush (v := 21) C dX11_comes_23 rfl ?_
    refine rx_iload_n C 2 dX11_comes_25 rfl ?_
    obtain ⟨r_5, hc_6, hm⟩ := rr_b0_some hm
    refine rr_callV (rest := [.int v2, .int v1, .ref v0]) (st1 := [.long r_5, .int v2, .int v1, .ref v0]) C 9 hll (c_Mod_at l G hG v0 m_v0 k_v0 21 v2 σ _ hc_6) q_950 q_952 qs_44 q_11 q_953 hd_Mod_at ⟨_, rfl, rfl⟩ (by decide) m_v0 k_v0 ⟨by decide, by decide⟩ rfl rfl (Nat.le_of_ble_eq_true rfl) rfl dX11_comes_26 ?_
    obtain ⟨_, σ_7, hc_8, hm⟩ := rr_bd_some hm
    refine rr_callV (rest := []) (st1 := []) C 9 hll (c_Mod_puts l G hG v0 m_v0 k_v0 v1 v2 r_5 σ _ hc_8) q_921 q_923 qs_38 q_11 q_924 hd_Mod_puts ⟨_, rfl, rfl⟩ (by decide) m_v0 k_v0 ⟨by decide, by decide⟩ rfl rfl (Nat.le_of_ble_eq_true rfl) rfl dX11_comes_29 ?_
    refine rx_iinc (d := 1) (lv1 := fun v => [(2, .int v), (0, .ref v0), (1, .int v1)]) C 2 dX11_comes_32 hm rfl rfl (by decide) (fun _ => rfl) (fun v2_9 hm => ?_)
    refine rx_goto (tgt := 13) C dX11_comes_35 (by decide) ?_
    refine rx_lv [1, 2, 0] rfl ?_
    exact ih _ _ _ hm hk
def f_Mod_comes (fu : Nat) (N : Nat → Nat) (v0 : Nat) (v1 : Int32) (σ : rr_M) : Option (Int32 × rr_M) :=
    Option.bind (f_Mod_isPoly fu N v0 21 σ) fun r_1 =>
    if r_1 = 0 then (if rr_b1 0 then some (0, σ) else none) else
    l_Mod_comes_13 fu N v0 v1 fu 0 σ (fun σ_10 =>
    if rr_b1 1 then some (1, σ_10) else none)
theorem c_Mod_comes (l : Launch) (G : rr_G) (hG : G.2.2.1.Nodup) (fu : Nat) (v0 : Nat) (m_v0 : v0 ∈ G.2.2.1) (k_v0 : G.2.2.2.1 v0 = 9) (v1 : Int32) (σ : rr_M) (r : Int32) (σr : rr_M) (hm : f_Mod_comes fu G.2.2.2.2 v0 v1 σ = some (r, σr)) : rr_Met l G yX11_comes cX11_comes 3 (some .boolean) 2 44 [.ref v0, .int v1] σ σr (some (.int r)) := by
  refine rr_enter (lv0 := [(0, .ref v0), (1, .int v1)]) hp_Mod_comes hG (Nat.le_of_ble_eq_true rfl) rfl (fun X hll C => ?_)
  replace C : rr_C X G cX11_comes 3 "RootRowsModel" (some .boolean) 2 44 := C
  unfold f_Mod_comes at hm
  refine rx_aload_n C 0 dX11_comes_0 rfl ?_
  refine rx_bipush (v := 21) C dX11_comes_1 rfl ?_
  obtain ⟨r_1, hc_2, hm⟩ := rr_b0_some hm
  refine rr_callV (rest := []) (st1 := [.int r_1]) C 9 hll (c_Mod_isPoly l G hG fu v0 m_v0 k_v0 21 σ _ hc_2) q_954 q_956 qs_45 q_11 q_957 hd_Mod_isPoly ⟨_, rfl, rfl⟩ (by decide) m_v0 k_v0 ⟨by decide, by decide⟩ rfl rfl (Nat.le_of_ble_eq_true rfl) rfl dX11_comes_3 ?_
  refine rx_if_ne (tgt := 11) C dX11_comes_6 (by decide) hm (fun h_3 hm => ?_) (fun h_3 hm => ?_)
  · refine rx_iconst (v := 0) C dX11_comes_11 rfl ?_
    refine rx_istore_n (lv1 := [(2, .int 0), (0, .ref v0), (1, .int v1)]) C dX11_comes_12 (by decide) rfl ?_
    refine rx_lv [1, 2, 0] rfl ?_
    refine lw_Mod_comes_13 hG hll C v0 m_v0 k_v0 v1 _ _ _ _ hm (fun σ_10 hm => ?_)
    refine rx_iconst (v := 1) C dX11_comes_38 rfl ?_
    exact rx_zret C dX11_comes_39 hm
  refine rx_iconst (v := 0) C dX11_comes_9 rfl ?_
  exact rx_zret C dX11_comes_10 hm
def l_Mod_common_12 (fu : Nat)  : Nat → Int64 → Int64 → (Int64 → Option (Int64)) → Option (Int64)
  | 0, _, _, _ => none
  | n + 1, v4, v6, kk =>
    if v6 = 0 then (kk v4) else
    if v6 = 0 then none else
    rr_lt (v4 - v4 / v6 * v6) fun v8_7 =>
    l_Mod_common_12 fu n v6 v8_7 kk
theorem lw_Mod_common_12 {X : rr_X} {G : rr_G} {l : Launch} {fu : Nat} (hG : G.2.2.1.Nodup) (hll : X.2.1 = l) (C : rr_C X G cX11_common 10 "RootRowsModel" (some .long) 1 21) {r : Int64}  (σ : rr_M) : ∀ (n : Nat) (v4 : Int64) (v6 : Int64) (K : Int64 → Option (Int64)), l_Mod_common_12 fu n v4 v6 K = some r → (∀ (w4 : Int64), K w4 = some r → rr_J X G 10 (rr_E X G σ (some (.long r))) σ 37 [(4, .long w4)] []) → rr_J X G 10 (rr_E X G σ (some (.long r))) σ 12 [(4, .long v4), (6, .long v6)] [] := by
  intro n
  induction n with
  | zero =>
    intro v4 v6 K hm
    cases hm
  | succ n ih =>
    intro v4 v6 K hm hk
    unfold l_Mod_common_12 at hm
    refine rx_lload C 1 dX11_common_12 rfl ?_
    refine rx_lconst (v := 0) C dX11_common_14 rfl ?_
    refine rx_lcmp_eq (tgt := 37) C dX11_common_15 dX11_common_16 (by decide) hm (fun h_5 hm => ?_) (fun h_5 hm => ?_)
    · refine rx_lv [0] rfl ?_
      exact hk _ hm
    refine rx_lload C 0 dX11_common_19 rfl ?_
    refine rx_lload C 1 dX11_common_21 rfl ?_
    obtain ⟨hz_6, hm⟩ := rr_gzl hm
    refine rx_lrem C dX11_common_23 hz_6 ?_
    refine rx_nml hm (fun v8_7 ev8_7 hm => ?_)
    refine rx_lstore (lv1 := [(8, .long v8_7), (4, .long v4), (6, .long v6)]) C dX11_common_24 (by decide) rfl ?_
    refine rx_lload C 2 dX11_common_26 rfl ?_
    refine rx_lstore (lv1 := [(4, .long v6), (8, .long v8_7), (6, .long v6)]) C dX11_common_28 (by decide) rfl ?_
    refine rx_lload C 1 dX11_common_30 rfl ?_
    refine rx_lstore (lv1 := [(6, .long v8_7), (4, .long v6), (8, .long v8_7)]) C dX11_common_32 (by decide) rfl ?_
    refine rx_goto (tgt := 12) C dX11_common_34 (by decide) ?_
    refine rx_lv [1, 0] rfl ?_
    exact ih _ _ _ hm hk
def f_Mod_common (fu : Nat) (v0 : Int64) (v2 : Int64) : Option (Int64) :=
    Option.bind (f_Mod_size v0) fun r_1 =>
    Option.bind (f_Mod_size v2) fun r_3 =>
    l_Mod_common_12 fu fu r_1 r_3 (fun v4_8 =>
    some (v4_8))
theorem c_Mod_common (l : Launch) (G : rr_G) (hG : G.2.2.1.Nodup) (fu : Nat) (v0 : Int64) (v2 : Int64) (σ : rr_M) (r : Int64) (hm : f_Mod_common fu v0 v2 = some r) : rr_Met l G yX11_common cX11_common 10 (some .long) 1 21 [.long v0, .long v2] σ σ (some (.long r)) := by
  refine rr_enter (lv0 := [(0, .long v0), (2, .long v2)]) hp_Mod_common hG (Nat.le_of_ble_eq_true rfl) rfl (fun X hll C => ?_)
  replace C : rr_C X G cX11_common 10 "RootRowsModel" (some .long) 1 21 := C
  unfold f_Mod_common at hm
  refine rx_lload_n C 0 dX11_common_0 rfl ?_
  obtain ⟨r_1, hc_2, hm⟩ := rr_b0_some hm
  refine rr_callS (rest := []) (st1 := [.long r_1]) C hll (c_Mod_size l G hG v0 σ _ hc_2) q_958 q_959 q_11 q_960 hd_Mod_size ⟨by decide, by decide⟩ rfl rfl (Nat.le_of_ble_eq_true rfl) rfl dX11_common_1 ?_
  refine rx_lstore (lv1 := [(4, .long r_1), (0, .long v0), (2, .long v2)]) C dX11_common_4 (by decide) rfl ?_
  refine rx_lload_n C 2 dX11_common_6 rfl ?_
  obtain ⟨r_3, hc_4, hm⟩ := rr_b0_some hm
  refine rr_callS (rest := []) (st1 := [.long r_3]) C hll (c_Mod_size l G hG v2 σ _ hc_4) q_958 q_959 q_11 q_960 hd_Mod_size ⟨by decide, by decide⟩ rfl rfl (Nat.le_of_ble_eq_true rfl) rfl dX11_common_7 ?_
  refine rx_lstore (lv1 := [(6, .long r_3), (4, .long r_1), (0, .long v0), (2, .long v2)]) C dX11_common_10 (by decide) rfl ?_
  refine rx_lv [1, 0] rfl ?_
  refine lw_Mod_common_12 hG hll C σ _ _ _ _ hm (fun v4_8 hm => ?_)
  refine rx_lload C 0 dX11_common_37 rfl ?_
  exact rx_lretR C dX11_common_39 hm
def l_Mod_isCounts_2 (fu : Nat) (N : Nat → Nat) (v0 : Nat) (v1 : Int32) (σ : rr_M) : Nat → Int32 → (Option (Int32)) → Option (Int32)
  | 0, _, _ => none
  | n + 1, v2, kk =>
    if 9 ≤ v2 then (kk) else
    Option.bind (f_Mod_at N v0 v1 v2 σ) fun r_2 =>
    if 0 ≤ r_2 then (rr_lt (v2 + 1) fun v2_5 =>
    l_Mod_isCounts_2 fu N v0 v1 σ n v2_5 kk) else
    if rr_b1 0 then some (0) else none
theorem lw_Mod_isCounts_2 {X : rr_X} {G : rr_G} {l : Launch} {fu : Nat} (hG : G.2.2.1.Nodup) (hll : X.2.1 = l) (C : rr_C X G cX11_isCounts 3 "RootRowsModel" (some .boolean) 1 22) {r : Int32}  (σ : rr_M) (v0 : Nat) (m_v0 : v0 ∈ G.2.2.1) (k_v0 : G.2.2.2.1 v0 = 9) (v1 : Int32) : ∀ (n : Nat) (v2 : Int32) (K : Option (Int32)), l_Mod_isCounts_2 fu G.2.2.2.2 v0 v1 σ n v2 K = some r → (∀ (_ : Unit), K = some r → rr_J X G 3 (rr_E X G σ (some (.int r))) σ 27 [] []) → rr_J X G 3 (rr_E X G σ (some (.int r))) σ 2 [(0, .ref v0), (1, .int v1), (2, .int v2)] [] := by
  intro n
  induction n with
  | zero =>
    intro v2 K hm
    cases hm
  | succ n ih =>
    intro v2 K hm hk
    unfold l_Mod_isCounts_2 at hm
    refine rx_iload_n C 2 dX11_isCounts_2 rfl ?_
    refine rx_bipush (v := 9) C dX11_isCounts_3 rfl ?_
    refine rx_icmp_ge (tgt := 27) C dX11_isCounts_5 (by decide) hm (fun h_1 hm => ?_) (fun h_1 hm => ?_)
    · refine rx_lv [] rfl ?_
      exact hk () hm
    refine rx_aload_n C 0 dX11_isCounts_8 rfl ?_
    refine rx_iload_n C 1 dX11_isCounts_9 rfl ?_
    refine rx_iload_n C 2 dX11_isCounts_10 rfl ?_
    obtain ⟨r_2, hc_3, hm⟩ := rr_b0_some hm
    refine rr_callV (rest := []) (st1 := [.long r_2]) C 9 hll (c_Mod_at l G hG v0 m_v0 k_v0 v1 v2 σ _ hc_3) q_950 q_952 qs_44 q_11 q_953 hd_Mod_at ⟨_, rfl, rfl⟩ (by decide) m_v0 k_v0 ⟨by decide, by decide⟩ rfl rfl (Nat.le_of_ble_eq_true rfl) rfl dX11_isCounts_11 ?_
    refine rx_lconst (v := 0) C dX11_isCounts_14 rfl ?_
    refine rx_lcmp_ge (tgt := 21) C dX11_isCounts_15 dX11_isCounts_16 (by decide) hm (fun h_4 hm => ?_) (fun h_4 hm => ?_)
    · refine rx_iinc (d := 1) (lv1 := fun v => [(2, .int v), (0, .ref v0), (1, .int v1)]) C 2 dX11_isCounts_21 hm rfl rfl (by decide) (fun _ => rfl) (fun v2_5 hm => ?_)
      refine rx_goto (tgt := 2) C dX11_isCounts_24 (by decide) ?_
      refine rx_lv [1, 2, 0] rfl ?_
      exact ih _ _ hm hk
    refine rx_iconst (v := 0) C dX11_isCounts_19 rfl ?_
    exact rx_zretR C dX11_isCounts_20 hm
def f_Mod_isCounts (fu : Nat) (N : Nat → Nat) (v0 : Nat) (v1 : Int32) (σ : rr_M) : Option (Int32) :=
    l_Mod_isCounts_2 fu N v0 v1 σ fu 0 (if rr_b1 1 then some (1) else none)
theorem c_Mod_isCounts (l : Launch) (G : rr_G) (hG : G.2.2.1.Nodup) (fu : Nat) (v0 : Nat) (m_v0 : v0 ∈ G.2.2.1) (k_v0 : G.2.2.2.1 v0 = 9) (v1 : Int32) (σ : rr_M) (r : Int32) (hm : f_Mod_isCounts fu G.2.2.2.2 v0 v1 σ = some r) : rr_Met l G yX11_isCounts cX11_isCounts 3 (some .boolean) 1 22 [.ref v0, .int v1] σ σ (some (.int r)) := by
  refine rr_enter (lv0 := [(0, .ref v0), (1, .int v1)]) hp_Mod_isCounts hG (Nat.le_of_ble_eq_true rfl) rfl (fun X hll C => ?_)
  replace C : rr_C X G cX11_isCounts 3 "RootRowsModel" (some .boolean) 1 22 := C
  unfold f_Mod_isCounts at hm
  refine rx_iconst (v := 0) C dX11_isCounts_0 rfl ?_
  refine rx_istore_n (lv1 := [(2, .int 0), (0, .ref v0), (1, .int v1)]) C dX11_isCounts_1 (by decide) rfl ?_
  refine rx_lv [1, 2, 0] rfl ?_
  refine lw_Mod_isCounts_2 hG hll C σ v0 m_v0 k_v0 v1 _ _ _ hm (fun _ hm => ?_)
  refine rx_iconst (v := 1) C dX11_isCounts_27 rfl ?_
  exact rx_zretR C dX11_isCounts_28 hm
def l_Mod_mostOften_9 (fu : Nat) (N : Nat → Nat) (v0 : Nat) (σ : rr_M) : Nat → Int32 → Int32 → (Int32 → Option (Int32 × rr_M)) → Option (Int32 × rr_M)
  | 0, _, _, _ => none
  | n + 1, v2, v3, kk =>
    if (mg_i σ v0 11) ≤ v3 then (kk v2) else
    Option.bind (f_Mod_realRoots fu N v0 v3 σ) fun r_4 =>
    rr_jn (fun (t_6 : Int32) =>
    rr_lt (v3 + 1) fun v3_7 =>
    l_Mod_mostOften_9 fu N v0 σ n t_6 v3_7 kk) fun j32 =>
    if r_4 ≤ 0 then (j32 v2) else
    j32 (v3 + 1)
theorem lw_Mod_mostOften_9 {X : rr_X} {G : rr_G} {l : Launch} {fu : Nat} (hG : G.2.2.1.Nodup) (hll : X.2.1 = l) (C : rr_C X G cX11_mostOften 4 "RootRowsModel" (some .int) 7 181) {r : Int32} {σr : rr_M} (σ : rr_M) (v0 : Nat) (m_v0 : v0 ∈ G.2.2.1) (k_v0 : G.2.2.2.1 v0 = 9) : ∀ (n : Nat) (v2 : Int32) (v3 : Int32) (K : Int32 → Option (Int32 × rr_M)), l_Mod_mostOften_9 fu G.2.2.2.2 v0 σ n v2 v3 K = some (r, σr) → (∀ (w2 : Int32), K w2 = some (r, σr) → rr_J X G 4 (rr_E X G σr (some (.int r))) σ 39 [(2, .int w2)] []) → rr_J X G 4 (rr_E X G σr (some (.int r))) σ 9 [(0, .ref v0), (2, .int v2), (3, .int v3)] [] := by
  intro n
  induction n with
  | zero =>
    intro v2 v3 K hm
    cases hm
  | succ n ih =>
    intro v2 v3 K hm hk
    unfold l_Mod_mostOften_9 at hm
    refine rx_iload_n C 2 dX11_mostOften_9 rfl ?_
    refine rx_aload_n C 0 dX11_mostOften_10 rfl ?_
    refine gf_852 C m_v0 k_v0 dX11_mostOften_11 ?_
    refine rx_icmp_ge (tgt := 39) C dX11_mostOften_14 (by decide) hm (fun h_3 hm => ?_) (fun h_3 hm => ?_)
    · refine rx_lv [1] rfl ?_
      exact hk _ hm
    refine rx_aload_n C 0 dX11_mostOften_17 rfl ?_
    refine rx_iload_n C 2 dX11_mostOften_18 rfl ?_
    obtain ⟨r_4, hc_5, hm⟩ := rr_b0_some hm
    refine rr_callV (rest := []) (st1 := [.int r_4]) C 9 hll (c_Mod_realRoots l G hG fu v0 m_v0 k_v0 v3 σ _ hc_5) q_1111 q_1113 qs_74 q_11 q_1114 hd_Mod_realRoots ⟨_, rfl, rfl⟩ (by decide) m_v0 k_v0 ⟨by decide, by decide⟩ rfl rfl (Nat.le_of_ble_eq_true rfl) rfl dX11_mostOften_19 ?_
    refine rr_jn1 hm (fun j32 ej32 hm => ?_)
    have hj32 : ∀ (t_6 : Int32), j32 t_6 = some (r, σr) → rr_J X G 4 (rr_E X G σr (some (.int r))) σ 32 [(0, .ref v0), (2, .int v2), (3, .int v3)] [.int t_6] := by
      intro t_6 hm
      replace hm := ej32 _ hm
      refine rx_istore_n (lv1 := [(2, .int t_6), (0, .ref v0), (3, .int v3)]) C dX11_mostOften_32 (by decide) rfl ?_
      refine rx_iinc (d := 1) (lv1 := fun v => [(3, .int v), (2, .int t_6), (0, .ref v0)]) C 2 dX11_mostOften_33 hm rfl rfl (by decide) (fun _ => rfl) (fun v3_7 hm => ?_)
      refine rx_goto (tgt := 9) C dX11_mostOften_36 (by decide) ?_
      refine rx_lv [2, 1, 0] rfl ?_
      exact ih _ _ _ hm hk
    refine rx_if_le (tgt := 31) C dX11_mostOften_22 (by decide) hm (fun h_8 hm => ?_) (fun h_8 hm => ?_)
    · refine rx_iload_n C 1 dX11_mostOften_31 rfl ?_
      refine rx_lv [0, 1, 2] rfl ?_
      exact hj32 _ hm
    refine rx_iload_n C 2 dX11_mostOften_25 rfl ?_
    refine rx_iconst (v := 1) C dX11_mostOften_26 rfl ?_
    refine rx_iadd C dX11_mostOften_27 ?_
    refine rx_goto (tgt := 32) C dX11_mostOften_28 (by decide) ?_
    refine rx_lv [0, 1, 2] rfl ?_
    exact hj32 _ hm
def f_Mod_mostOften (fu : Nat) (N : Nat → Nat) (v0 : Nat) (v1 : Int32) (σ : rr_M) : Option (Int32 × rr_M) :=
    rr_bd (f_Mod_lays fu N v0 v1 σ) fun _ σ_1 =>
    l_Mod_mostOften_9 fu N v0 σ_1 fu 0 0 (fun v2_9 =>
    some (v2_9, σ_1))
theorem c_Mod_mostOften (l : Launch) (G : rr_G) (hG : G.2.2.1.Nodup) (fu : Nat) (v0 : Nat) (m_v0 : v0 ∈ G.2.2.1) (k_v0 : G.2.2.2.1 v0 = 9) (v1 : Int32) (σ : rr_M) (r : Int32) (σr : rr_M) (hm : f_Mod_mostOften fu G.2.2.2.2 v0 v1 σ = some (r, σr)) : rr_Met l G yX11_mostOften cX11_mostOften 4 (some .int) 7 181 [.ref v0, .int v1] σ σr (some (.int r)) := by
  refine rr_enter (lv0 := [(0, .ref v0), (1, .int v1)]) hp_Mod_mostOften hG (Nat.le_of_ble_eq_true rfl) rfl (fun X hll C => ?_)
  replace C : rr_C X G cX11_mostOften 4 "RootRowsModel" (some .int) 7 181 := C
  unfold f_Mod_mostOften at hm
  refine rx_aload_n C 0 dX11_mostOften_0 rfl ?_
  refine rx_iload_n C 1 dX11_mostOften_1 rfl ?_
  obtain ⟨_, σ_1, hc_2, hm⟩ := rr_bd_some hm
  refine rr_callV (rest := []) (st1 := []) C 9 hll (c_Mod_lays l G hG fu v0 m_v0 k_v0 v1 σ _ hc_2) q_1059 q_1061 qs_61 q_11 q_1062 hd_Mod_lays ⟨_, rfl, rfl⟩ (by decide) m_v0 k_v0 ⟨by decide, by decide⟩ rfl rfl (Nat.le_of_ble_eq_true rfl) rfl dX11_mostOften_2 ?_
  refine rx_iconst (v := 0) C dX11_mostOften_5 rfl ?_
  refine rx_istore_n (lv1 := [(2, .int 0), (0, .ref v0), (1, .int v1)]) C dX11_mostOften_6 (by decide) rfl ?_
  refine rx_iconst (v := 0) C dX11_mostOften_7 rfl ?_
  refine rx_istore_n (lv1 := [(3, .int 0), (2, .int 0), (0, .ref v0), (1, .int v1)]) C dX11_mostOften_8 (by decide) rfl ?_
  refine rx_lv [2, 1, 0] rfl ?_
  refine lw_Mod_mostOften_9 hG hll C σ_1 v0 m_v0 k_v0 _ _ _ _ hm (fun v2_9 hm => ?_)
  refine rx_iload_n C 0 dX11_mostOften_39 rfl ?_
  exact rx_iret C dX11_mostOften_40 hm
def f_Mod_count (fu : Nat) (N : Nat → Nat) (v0 : Nat) (v1 : Int32) (v2 : Int32) (σ : rr_M) : Option (Int32 × rr_M) :=
    rr_lt (ms_i σ v0 0 0) fun σ_1 =>
    Option.bind (f_Mod_isTray v0 v1) fun r_2 =>
    if r_2 = 0 then (some ((-1), σ_1)) else
    Option.bind (f_Mod_degreeOf fu N v0 v1 σ_1) fun r_5 =>
    if v2 = 0 then (some (r_5, σ_1)) else
    if v2 = 1 then (rr_bd (f_Mod_lays fu N v0 v1 σ_1) fun _ σ_9 =>
    Option.bind (f_Mod_roots fu N v0 σ_9) fun r_11 =>
    some (r_11, σ_9)) else
    if v2 = 2 then (rr_bd (f_Mod_lays fu N v0 v1 σ_1) fun _ σ_14 =>
    if 0 ≤ r_5 then (Option.bind (f_Mod_roots fu N v0 σ_14) fun r_17 =>
    some (r_5 - r_17, σ_14)) else
    some ((-1), σ_14)) else
    if v2 = 3 then (rr_bd (f_Mod_lays fu N v0 v1 σ_1) fun _ σ_20 =>
    if (mg_i σ_20 v0 11) = 0 then (some (0, σ_20)) else
    Option.bind (f_Mod_realRoots fu N v0 0 σ_20) fun r_23 =>
    some (r_23, σ_20)) else
    if v2 = 4 then (rr_bd (f_Mod_mostOften fu N v0 v1 σ_1) fun r_26 σ_27 =>
    some (r_26, σ_27)) else
    if v2 = 5 then (rr_bd (f_Mod_isWhole fu N v0 v1 σ_1) fun r_30 σ_31 =>
    if r_30 = 0 then (some (0, σ_31)) else
    some (1, σ_31)) else
    if v2 = 6 then (if 1 ≤ r_5 then (rr_bd (f_Mod_proves fu N v0 36 v1 σ_1) fun r_36 σ_37 =>
    some (r_36, σ_37)) else
    some (0, σ_1)) else
    if v2 = 7 then (Option.bind (f_Mod_isCounts fu N v0 v1 σ_1) fun r_40 =>
    if r_40 = 0 then (some (0, σ_1)) else
    some (1, σ_1)) else
    (some ((-1), σ_1))
theorem c_Mod_count (l : Launch) (G : rr_G) (hG : G.2.2.1.Nodup) (fu : Nat) (v0 : Nat) (m_v0 : v0 ∈ G.2.2.1) (k_v0 : G.2.2.2.1 v0 = 9) (v1 : Int32) (v2 : Int32) (σ : rr_M) (r : Int32) (σr : rr_M) (hm : f_Mod_count fu G.2.2.2.2 v0 v1 v2 σ = some (r, σr)) : rr_Met l G yX11_count cX11_count 4 (some .int) 8 204 [.ref v0, .int v1, .int v2] σ σr (some (.int r)) := by
  refine rr_enter (lv0 := [(0, .ref v0), (1, .int v1), (2, .int v2)]) hp_Mod_count hG (Nat.le_of_ble_eq_true rfl) rfl (fun X hll C => ?_)
  replace C : rr_C X G cX11_count 4 "RootRowsModel" (some .int) 8 204 := C
  unfold f_Mod_count at hm
  refine rx_aload_n C 0 dX11_count_0 rfl ?_
  refine rx_iconst (v := 0) C dX11_count_1 rfl ?_
  refine pf_841 C m_v0 k_v0 dX11_count_2 hm (fun σ_1 hm => ?_)
  refine rx_aload_n C 0 dX11_count_5 rfl ?_
  refine rx_iload_n C 1 dX11_count_6 rfl ?_
  obtain ⟨r_2, hc_3, hm⟩ := rr_b0_some hm
  refine rr_callV (rest := []) (st1 := [.int r_2]) C 9 hll (c_Mod_isTray l G hG v0 m_v0 k_v0 v1 σ_1 _ hc_3) q_916 q_918 qs_37 q_11 q_919 hd_Mod_isTray ⟨_, rfl, rfl⟩ (by decide) m_v0 k_v0 ⟨by decide, by decide⟩ rfl rfl (Nat.le_of_ble_eq_true rfl) rfl dX11_count_7 ?_
  refine rx_if_ne (tgt := 15) C dX11_count_10 (by decide) hm (fun h_4 hm => ?_) (fun h_4 hm => ?_)
  · refine rx_aload_n C 0 dX11_count_15 rfl ?_
    refine rx_iload_n C 1 dX11_count_16 rfl ?_
    obtain ⟨r_5, hc_6, hm⟩ := rr_b0_some hm
    refine rr_callV (rest := []) (st1 := [.int r_5]) C 9 hll (c_Mod_degreeOf l G hG fu v0 m_v0 k_v0 v1 σ_1 _ hc_6) q_997 q_999 qs_50 q_11 q_1000 hd_Mod_degreeOf ⟨_, rfl, rfl⟩ (by decide) m_v0 k_v0 ⟨by decide, by decide⟩ rfl rfl (Nat.le_of_ble_eq_true rfl) rfl dX11_count_17 ?_
    refine rx_istore_n (lv1 := [(3, .int r_5), (0, .ref v0), (1, .int v1), (2, .int v2)]) C dX11_count_20 (by decide) rfl ?_
    refine rx_iload_n C 3 dX11_count_21 rfl ?_
    refine rr_if hm (fun h_7 hm => ?_) (fun h_7 hm => ?_)
    · refine rx_tin (tgt := 68) C h_7 dX11_count_22 (by decide) (by decide) rfl (by decide) ?_
      refine rx_iload_n C 0 dX11_count_68 rfl ?_
      exact rx_iret C dX11_count_69 hm
    refine rr_if hm (fun h_8 hm => ?_) (fun h_8 hm => ?_)
    · refine rx_tin (tgt := 70) C h_8 dX11_count_22 (by decide) (by decide) rfl (by decide) ?_
      refine rx_aload_n C 1 dX11_count_70 rfl ?_
      refine rx_iload_n C 2 dX11_count_71 rfl ?_
      obtain ⟨_, σ_9, hc_10, hm⟩ := rr_bd_some hm
      refine rr_callV (rest := []) (st1 := []) C 9 hll (c_Mod_lays l G hG fu v0 m_v0 k_v0 v1 σ_1 _ hc_10) q_1059 q_1061 qs_61 q_11 q_1062 hd_Mod_lays ⟨_, rfl, rfl⟩ (by decide) m_v0 k_v0 ⟨by decide, by decide⟩ rfl rfl (Nat.le_of_ble_eq_true rfl) rfl dX11_count_72 ?_
      refine rx_aload_n C 1 dX11_count_75 rfl ?_
      obtain ⟨r_11, hc_12, hm⟩ := rr_b0_some hm
      refine rr_callV (rest := []) (st1 := [.int r_11]) C 9 hll (c_Mod_roots l G hG fu v0 m_v0 k_v0 σ_9 _ hc_12) q_1107 q_1109 qs_73 q_11 q_1110 hd_Mod_roots ⟨_, rfl, rfl⟩ (by decide) m_v0 k_v0 ⟨by decide, by decide⟩ rfl rfl (Nat.le_of_ble_eq_true rfl) rfl dX11_count_76 ?_
      exact rx_iret C dX11_count_79 hm
    refine rr_if hm (fun h_13 hm => ?_) (fun h_13 hm => ?_)
    · refine rx_tin (tgt := 80) C h_13 dX11_count_22 (by decide) (by decide) rfl (by decide) ?_
      refine rx_aload_n C 1 dX11_count_80 rfl ?_
      refine rx_iload_n C 2 dX11_count_81 rfl ?_
      obtain ⟨_, σ_14, hc_15, hm⟩ := rr_bd_some hm
      refine rr_callV (rest := []) (st1 := []) C 9 hll (c_Mod_lays l G hG fu v0 m_v0 k_v0 v1 σ_1 _ hc_15) q_1059 q_1061 qs_61 q_11 q_1062 hd_Mod_lays ⟨_, rfl, rfl⟩ (by decide) m_v0 k_v0 ⟨by decide, by decide⟩ rfl rfl (Nat.le_of_ble_eq_true rfl) rfl dX11_count_82 ?_
      refine rx_iload_n C 0 dX11_count_85 rfl ?_
      refine rx_if_ge (tgt := 93) C dX11_count_86 (by decide) hm (fun h_16 hm => ?_) (fun h_16 hm => ?_)
      · refine rx_iload_n C 0 dX11_count_93 rfl ?_
        refine rx_aload_n C 1 dX11_count_94 rfl ?_
        obtain ⟨r_17, hc_18, hm⟩ := rr_b0_some hm
        refine rr_callV (rest := [.int r_5]) (st1 := [.int r_17, .int r_5]) C 9 hll (c_Mod_roots l G hG fu v0 m_v0 k_v0 σ_14 _ hc_18) q_1107 q_1109 qs_73 q_11 q_1110 hd_Mod_roots ⟨_, rfl, rfl⟩ (by decide) m_v0 k_v0 ⟨by decide, by decide⟩ rfl rfl (Nat.le_of_ble_eq_true rfl) rfl dX11_count_95 ?_
        refine rx_isub C dX11_count_98 ?_
        exact rx_iret C dX11_count_99 hm
      refine rx_iconst (v := (-1)) C dX11_count_89 rfl ?_
      refine rx_goto (tgt := 99) C dX11_count_90 (by decide) ?_
      exact rx_iret C dX11_count_99 hm
    refine rr_if hm (fun h_19 hm => ?_) (fun h_19 hm => ?_)
    · refine rx_tin (tgt := 100) C h_19 dX11_count_22 (by decide) (by decide) rfl (by decide) ?_
      refine rx_aload_n C 1 dX11_count_100 rfl ?_
      refine rx_iload_n C 2 dX11_count_101 rfl ?_
      obtain ⟨_, σ_20, hc_21, hm⟩ := rr_bd_some hm
      refine rr_callV (rest := []) (st1 := []) C 9 hll (c_Mod_lays l G hG fu v0 m_v0 k_v0 v1 σ_1 _ hc_21) q_1059 q_1061 qs_61 q_11 q_1062 hd_Mod_lays ⟨_, rfl, rfl⟩ (by decide) m_v0 k_v0 ⟨by decide, by decide⟩ rfl rfl (Nat.le_of_ble_eq_true rfl) rfl dX11_count_102 ?_
      refine rx_aload_n C 1 dX11_count_105 rfl ?_
      refine gf_852 C m_v0 k_v0 dX11_count_106 ?_
      refine rx_if_ne (tgt := 116) C dX11_count_109 (by decide) hm (fun h_22 hm => ?_) (fun h_22 hm => ?_)
      · refine rx_aload_n C 1 dX11_count_116 rfl ?_
        refine rx_iconst (v := 0) C dX11_count_117 rfl ?_
        obtain ⟨r_23, hc_24, hm⟩ := rr_b0_some hm
        refine rr_callV (rest := []) (st1 := [.int r_23]) C 9 hll (c_Mod_realRoots l G hG fu v0 m_v0 k_v0 0 σ_20 _ hc_24) q_1111 q_1113 qs_74 q_11 q_1114 hd_Mod_realRoots ⟨_, rfl, rfl⟩ (by decide) m_v0 k_v0 ⟨by decide, by decide⟩ rfl rfl (Nat.le_of_ble_eq_true rfl) rfl dX11_count_118 ?_
        exact rx_iret C dX11_count_121 hm
      refine rx_iconst (v := 0) C dX11_count_112 rfl ?_
      refine rx_goto (tgt := 121) C dX11_count_113 (by decide) ?_
      exact rx_iret C dX11_count_121 hm
    refine rr_if hm (fun h_25 hm => ?_) (fun h_25 hm => ?_)
    · refine rx_tin (tgt := 122) C h_25 dX11_count_22 (by decide) (by decide) rfl (by decide) ?_
      refine rx_aload_n C 1 dX11_count_122 rfl ?_
      refine rx_iload_n C 2 dX11_count_123 rfl ?_
      obtain ⟨r_26, σ_27, hc_28, hm⟩ := rr_bd_some hm
      refine rr_callV (rest := []) (st1 := [.int r_26]) C 9 hll (c_Mod_mostOften l G hG fu v0 m_v0 k_v0 v1 σ_1 _ _ hc_28) q_1123 q_1125 qs_77 q_11 q_1126 hd_Mod_mostOften ⟨_, rfl, rfl⟩ (by decide) m_v0 k_v0 ⟨by decide, by decide⟩ rfl rfl (Nat.le_of_ble_eq_true rfl) rfl dX11_count_124 ?_
      exact rx_iret C dX11_count_127 hm
    refine rr_if hm (fun h_29 hm => ?_) (fun h_29 hm => ?_)
    · refine rx_tin (tgt := 128) C h_29 dX11_count_22 (by decide) (by decide) rfl (by decide) ?_
      refine rx_aload_n C 1 dX11_count_128 rfl ?_
      refine rx_iload_n C 2 dX11_count_129 rfl ?_
      obtain ⟨r_30, σ_31, hc_32, hm⟩ := rr_bd_some hm
      refine rr_callV (rest := []) (st1 := [.int r_30]) C 9 hll (c_Mod_isWhole l G hG fu v0 m_v0 k_v0 v1 σ_1 _ _ hc_32) q_1127 q_1129 qs_78 q_11 q_1130 hd_Mod_isWhole ⟨_, rfl, rfl⟩ (by decide) m_v0 k_v0 ⟨by decide, by decide⟩ rfl rfl (Nat.le_of_ble_eq_true rfl) rfl dX11_count_130 ?_
      refine rx_if_eq (tgt := 140) C dX11_count_133 (by decide) hm (fun h_33 hm => ?_) (fun h_33 hm => ?_)
      · refine rx_iconst (v := 0) C dX11_count_140 rfl ?_
        exact rx_iret C dX11_count_141 hm
      refine rx_iconst (v := 1) C dX11_count_136 rfl ?_
      refine rx_goto (tgt := 141) C dX11_count_137 (by decide) ?_
      exact rx_iret C dX11_count_141 hm
    refine rr_if hm (fun h_34 hm => ?_) (fun h_34 hm => ?_)
    · refine rx_tin (tgt := 142) C h_34 dX11_count_22 (by decide) (by decide) rfl (by decide) ?_
      refine rx_iload_n C 0 dX11_count_142 rfl ?_
      refine rx_iconst (v := 1) C dX11_count_143 rfl ?_
      refine rx_icmp_ge (tgt := 151) C dX11_count_144 (by decide) hm (fun h_35 hm => ?_) (fun h_35 hm => ?_)
      · refine rx_aload_n C 1 dX11_count_151 rfl ?_
        refine rx_bipush (v := 36) C dX11_count_152 rfl ?_
        refine rx_iload_n C 2 dX11_count_154 rfl ?_
        obtain ⟨r_36, σ_37, hc_38, hm⟩ := rr_bd_some hm
        refine rr_callV (rest := []) (st1 := [.int r_36]) C 9 hll (c_Mod_proves l G hG fu v0 m_v0 k_v0 36 v1 σ_1 _ _ hc_38) q_1063 q_1065 qs_62 q_11 q_1066 hd_Mod_proves ⟨_, rfl, rfl⟩ (by decide) m_v0 k_v0 ⟨by decide, by decide⟩ rfl rfl (Nat.le_of_ble_eq_true rfl) rfl dX11_count_155 ?_
        exact rx_iret C dX11_count_158 hm
      refine rx_iconst (v := 0) C dX11_count_147 rfl ?_
      refine rx_goto (tgt := 158) C dX11_count_148 (by decide) ?_
      exact rx_iret C dX11_count_158 hm
    refine rr_if hm (fun h_39 hm => ?_) (fun h_39 hm => ?_)
    · refine rx_tin (tgt := 159) C h_39 dX11_count_22 (by decide) (by decide) rfl (by decide) ?_
      refine rx_aload_n C 1 dX11_count_159 rfl ?_
      refine rx_iload_n C 2 dX11_count_160 rfl ?_
      obtain ⟨r_40, hc_41, hm⟩ := rr_b0_some hm
      refine rr_callV (rest := []) (st1 := [.int r_40]) C 9 hll (c_Mod_isCounts l G hG fu v0 m_v0 k_v0 v1 σ_1 _ hc_41) q_1131 q_1133 qs_79 q_11 q_1134 hd_Mod_isCounts ⟨_, rfl, rfl⟩ (by decide) m_v0 k_v0 ⟨by decide, by decide⟩ rfl rfl (Nat.le_of_ble_eq_true rfl) rfl dX11_count_161 ?_
      refine rx_if_eq (tgt := 171) C dX11_count_164 (by decide) hm (fun h_42 hm => ?_) (fun h_42 hm => ?_)
      · refine rx_iconst (v := 0) C dX11_count_171 rfl ?_
        exact rx_iret C dX11_count_172 hm
      refine rx_iconst (v := 1) C dX11_count_167 rfl ?_
      refine rx_goto (tgt := 172) C dX11_count_168 (by decide) ?_
      exact rx_iret C dX11_count_172 hm
    refine rx_tout (tgt := 173) C dX11_count_22 (by have q0 := lv_neT (a := 0) h_7 (by decide); have q1 := lv_neT (a := 1) h_8 (by decide); have q2 := lv_neT (a := 2) h_13 (by decide); have q3 := lv_neT (a := 3) h_19 (by decide); have q4 := lv_neT (a := 4) h_25 (by decide); have q5 := lv_neT (a := 5) h_29 (by decide); have q6 := lv_neT (a := 6) h_34 (by decide); have q7 := lv_neT (a := 7) h_39 (by decide); omega) (by decide) ?_
    refine rx_iconst (v := (-1)) C dX11_count_173 rfl ?_
    exact rx_iret C dX11_count_174 hm
  refine rx_iconst (v := (-1)) C dX11_count_13 rfl ?_
  exact rx_iret C dX11_count_14 hm
def f_Mod_end (v0 : Nat) (v1 : Int32) (σ : rr_M) : Option (Int32 × rr_M) :=
    rr_lt (ms_i σ v0 0 0) fun σ_1 =>
    Option.bind (f_Mod_isIn v1.toInt64 0 ((mg_i σ_1 v0 14).toInt64)) fun r_2 =>
    if r_2 = 0 then (if rr_b1 0 then some (0, σ_1) else none) else
    rr_lt (ms_i σ_1 v0 14 v1) fun σ_5 =>
    if rr_b1 1 then some (1, σ_5) else none
theorem c_Mod_end (l : Launch) (G : rr_G) (hG : G.2.2.1.Nodup) (v0 : Nat) (m_v0 : v0 ∈ G.2.2.1) (k_v0 : G.2.2.2.1 v0 = 9) (v1 : Int32) (σ : rr_M) (r : Int32) (σr : rr_M) (hm : f_Mod_end v0 v1 σ = some (r, σr)) : rr_Met l G yX11_end cX11_end 2 (some .boolean) 1 25 [.ref v0, .int v1] σ σr (some (.int r)) := by
  refine rr_enter (lv0 := [(0, .ref v0), (1, .int v1)]) hp_Mod_end hG (Nat.le_of_ble_eq_true rfl) rfl (fun X hll C => ?_)
  replace C : rr_C X G cX11_end 2 "RootRowsModel" (some .boolean) 1 25 := C
  unfold f_Mod_end at hm
  refine rx_aload_n C 0 dX11_end_0 rfl ?_
  refine rx_iconst (v := 0) C dX11_end_1 rfl ?_
  refine pf_841 C m_v0 k_v0 dX11_end_2 hm (fun σ_1 hm => ?_)
  refine rx_iload_n C 1 dX11_end_5 rfl ?_
  refine rx_i2l C dX11_end_6 ?_
  refine rx_lconst (v := 0) C dX11_end_7 rfl ?_
  refine rx_aload_n C 0 dX11_end_8 rfl ?_
  refine gf_855 C m_v0 k_v0 dX11_end_9 ?_
  refine rx_i2l C dX11_end_12 ?_
  obtain ⟨r_2, hc_3, hm⟩ := rr_b0_some hm
  refine rr_callS (rest := []) (st1 := [.int r_2]) C hll (c_Mod_isIn l G hG v1.toInt64 0 ((mg_i σ_1 v0 14).toInt64) σ_1 _ hc_3) q_909 q_910 q_11 q_911 hd_Mod_isIn ⟨by decide, by decide⟩ rfl rfl (Nat.le_of_ble_eq_true rfl) rfl dX11_end_13 ?_
  refine rx_if_ne (tgt := 21) C dX11_end_16 (by decide) hm (fun h_4 hm => ?_) (fun h_4 hm => ?_)
  · refine rx_aload_n C 0 dX11_end_21 rfl ?_
    refine rx_iload_n C 1 dX11_end_22 rfl ?_
    refine pf_855 C m_v0 k_v0 dX11_end_23 hm (fun σ_5 hm => ?_)
    refine rx_iconst (v := 1) C dX11_end_26 rfl ?_
    exact rx_zret C dX11_end_27 hm
  refine rx_iconst (v := 0) C dX11_end_19 rfl ?_
  exact rx_zret C dX11_end_20 hm
def f_Mod_fails (v0 : Nat) (v1 : Int32) (v2 : Int32) (σ : rr_M) : Option (Unit × rr_M) :=
    if (mg_i σ v0 15) = 0 then (rr_lt (ms_i σ v0 15 (v1 + (8 * v2))) fun σ_2 =>
    some ((), σ_2)) else
    some ((), σ)
theorem c_Mod_fails (l : Launch) (G : rr_G) (hG : G.2.2.1.Nodup) (v0 : Nat) (m_v0 : v0 ∈ G.2.2.1) (k_v0 : G.2.2.2.1 v0 = 9) (v1 : Int32) (v2 : Int32) (σ : rr_M) (σr : rr_M) (hm : f_Mod_fails v0 v1 v2 σ = some ((), σr)) : rr_Met l G yX11_fails cX11_fails 3 none 0 0 [.ref v0, .int v1, .int v2] σ σr none := by
  refine rr_enter (lv0 := [(0, .ref v0), (1, .int v1), (2, .int v2)]) hp_Mod_fails hG (Nat.le_of_ble_eq_true rfl) rfl (fun X hll C => ?_)
  replace C : rr_C X G cX11_fails 3 "RootRowsModel" none 0 0 := C
  unfold f_Mod_fails at hm
  refine rx_aload_n C 0 dX11_fails_0 rfl ?_
  refine gf_856 C m_v0 k_v0 dX11_fails_1 ?_
  refine rx_if_ne (tgt := 17) C dX11_fails_4 (by decide) hm (fun h_1 hm => ?_) (fun h_1 hm => ?_)
  · exact rx_vret C dX11_fails_17 hm
  refine rx_aload_n C 0 dX11_fails_7 rfl ?_
  refine rx_iload_n C 1 dX11_fails_8 rfl ?_
  refine rx_bipush (v := 8) C dX11_fails_9 rfl ?_
  refine rx_iload_n C 2 dX11_fails_11 rfl ?_
  refine rx_imul C dX11_fails_12 ?_
  refine rx_iadd C dX11_fails_13 ?_
  refine pf_856 C m_v0 k_v0 dX11_fails_14 hm (fun σ_2 hm => ?_)
  exact rx_vret C dX11_fails_17 hm
def l_Mod_fails__35 (fu : Nat) (N : Nat → Nat) (v0 : Nat) (v2 : Int32) (σ : rr_M) : Nat → Int32 → (Option (Int32 × rr_M)) → Option (Int32 × rr_M)
  | 0, _, _ => none
  | n + 1, v3, kk =>
    if v2 ≤ v3 then (kk) else
    rr_lt (mg_r σ v0 6) fun p_12 =>
    (if rr_ix (36 + v3) (N p_12) then
    rr_lt (mg_r σ v0 6) fun p_13 =>
    (if rr_ix ((36 + v3) - 1) (N p_13) then
    if (mg_i σ p_12 (rr_n (36 + v3))) = ((mg_i σ p_13 (rr_n ((36 + v3) - 1))) - 1) then (Option.bind (f_Mod_leadSign N v0 (36 + v3) σ) fun r_15 =>
    Option.bind (f_Mod_leadSign N v0 36 σ) fun r_17 =>
    if r_15 = r_17 then (rr_lt (v3 + 1) fun v3_20 =>
    l_Mod_fails__35 fu N v0 v2 σ n v3_20 kk) else
    some (v3, σ)) else
    some (v3, σ) else none) else none)
theorem lw_Mod_fails__35 {X : rr_X} {G : rr_G} {l : Launch} {fu : Nat} (hG : G.2.2.1.Nodup) (hll : X.2.1 = l) (C : rr_C X G cX11_fails_ 4 "RootRowsModel" (some .int) 6 157) {r : Int32} {σr : rr_M} (σ : rr_M) (v0 : Nat) (m_v0 : v0 ∈ G.2.2.1) (k_v0 : G.2.2.2.1 v0 = 9) (v2 : Int32) : ∀ (n : Nat) (v3 : Int32) (K : Option (Int32 × rr_M)), l_Mod_fails__35 fu G.2.2.2.2 v0 v2 σ n v3 K = some (r, σr) → (∀ (_ : Unit), K = some (r, σr) → rr_J X G 4 (rr_E X G σr (some (.int r))) σ 90 [(0, .ref v0), (2, .int v2)] []) → rr_J X G 4 (rr_E X G σr (some (.int r))) σ 35 [(0, .ref v0), (2, .int v2), (3, .int v3)] [] := by
  intro n
  induction n with
  | zero =>
    intro v3 K hm
    cases hm
  | succ n ih =>
    intro v3 K hm hk
    unfold l_Mod_fails__35 at hm
    refine rx_iload_n C 2 dX11_fails__35 rfl ?_
    refine rx_iload_n C 1 dX11_fails__36 rfl ?_
    refine rx_icmp_ge (tgt := 90) C dX11_fails__37 (by decide) hm (fun h_11 hm => ?_) (fun h_11 hm => ?_)
    · refine rx_lv [0, 1] rfl ?_
      exact hk () hm
    refine rx_aload_n C 0 dX11_fails__40 rfl ?_
    refine gf_847 C m_v0 k_v0 dX11_fails__41 hm (fun p_12 m_p_12 k_p_12 hm => ?_)
    refine rx_bipush (v := 36) C dX11_fails__44 rfl ?_
    refine rx_iload_n C 2 dX11_fails__46 rfl ?_
    refine rx_iadd C dX11_fails__47 ?_
    refine rx_iald C m_p_12 k_p_12 dX11_fails__48 hm (fun hm => ?_)
    refine rx_aload_n C 0 dX11_fails__49 rfl ?_
    refine gf_847 C m_v0 k_v0 dX11_fails__50 hm (fun p_13 m_p_13 k_p_13 hm => ?_)
    refine rx_bipush (v := 36) C dX11_fails__53 rfl ?_
    refine rx_iload_n C 2 dX11_fails__55 rfl ?_
    refine rx_iadd C dX11_fails__56 ?_
    refine rx_iconst (v := 1) C dX11_fails__57 rfl ?_
    refine rx_isub C dX11_fails__58 ?_
    refine rx_iald C m_p_13 k_p_13 dX11_fails__59 hm (fun hm => ?_)
    refine rx_iconst (v := 1) C dX11_fails__60 rfl ?_
    refine rx_isub C dX11_fails__61 ?_
    refine rx_icmp_ne (tgt := 82) C dX11_fails__62 (by decide) hm (fun h_14 hm => ?_) (fun h_14 hm => ?_)
    · refine rx_iload_n C 2 dX11_fails__82 rfl ?_
      exact rx_iret C dX11_fails__83 hm
    refine rx_aload_n C 0 dX11_fails__65 rfl ?_
    refine rx_bipush (v := 36) C dX11_fails__66 rfl ?_
    refine rx_iload_n C 2 dX11_fails__68 rfl ?_
    refine rx_iadd C dX11_fails__69 ?_
    obtain ⟨r_15, hc_16, hm⟩ := rr_b0_some hm
    refine rr_callV (rest := []) (st1 := [.int r_15]) C 9 hll (c_Mod_leadSign l G hG v0 m_v0 k_v0 (36 + v3) σ _ hc_16) q_1119 q_1121 qs_76 q_11 q_1122 hd_Mod_leadSign ⟨_, rfl, rfl⟩ (by decide) m_v0 k_v0 ⟨by decide, by decide⟩ rfl rfl (Nat.le_of_ble_eq_true rfl) rfl dX11_fails__70 ?_
    refine rx_aload_n C 0 dX11_fails__73 rfl ?_
    refine rx_bipush (v := 36) C dX11_fails__74 rfl ?_
    obtain ⟨r_17, hc_18, hm⟩ := rr_b0_some hm
    refine rr_callV (rest := [.int r_15]) (st1 := [.int r_17, .int r_15]) C 9 hll (c_Mod_leadSign l G hG v0 m_v0 k_v0 36 σ _ hc_18) q_1119 q_1121 qs_76 q_11 q_1122 hd_Mod_leadSign ⟨_, rfl, rfl⟩ (by decide) m_v0 k_v0 ⟨by decide, by decide⟩ rfl rfl (Nat.le_of_ble_eq_true rfl) rfl dX11_fails__76 ?_
    refine rx_icmp_eq (tgt := 84) C dX11_fails__79 (by decide) hm (fun h_19 hm => ?_) (fun h_19 hm => ?_)
    · refine rx_iinc (d := 1) (lv1 := fun v => [(3, .int v), (0, .ref v0), (2, .int v2)]) C 2 dX11_fails__84 hm rfl rfl (by decide) (fun _ => rfl) (fun v3_20 hm => ?_)
      refine rx_goto (tgt := 35) C dX11_fails__87 (by decide) ?_
      refine rx_lv [1, 2, 0] rfl ?_
      exact ih _ _ hm hk
    refine rx_iload_n C 2 dX11_fails__82 rfl ?_
    exact rx_iret C dX11_fails__83 hm
def f_Mod_fails_ (fu : Nat) (N : Nat → Nat) (v0 : Nat) (v1 : Int32) (σ : rr_M) : Option (Int32 × rr_M) :=
    rr_lt (ms_i σ v0 0 0) fun σ_1 =>
    Option.bind (f_Mod_isTray v0 v1) fun r_2 =>
    if r_2 = 0 then (some ((-2), σ_1)) else
    Option.bind (f_Mod_degreeOf fu N v0 v1 σ_1) fun r_5 =>
    if 1 ≤ r_5 then (rr_bd (f_Mod_proves fu N v0 36 v1 σ_1) fun r_8 σ_9 =>
    l_Mod_fails__35 fu N v0 r_8 σ_9 fu 1 (rr_lt (mg_r σ_9 v0 6) fun p_21 =>
    (if rr_ix ((36 + r_8) - 1) (N p_21) then
    if (mg_i σ_9 p_21 (rr_n ((36 + r_8) - 1))) ≤ 0 then (some ((-1), σ_9)) else
    some (r_8, σ_9) else none))) else
    some ((-2), σ_1)
theorem c_Mod_fails_ (l : Launch) (G : rr_G) (hG : G.2.2.1.Nodup) (fu : Nat) (v0 : Nat) (m_v0 : v0 ∈ G.2.2.1) (k_v0 : G.2.2.2.1 v0 = 9) (v1 : Int32) (σ : rr_M) (r : Int32) (σr : rr_M) (hm : f_Mod_fails_ fu G.2.2.2.2 v0 v1 σ = some (r, σr)) : rr_Met l G yX11_fails_ cX11_fails_ 4 (some .int) 6 157 [.ref v0, .int v1] σ σr (some (.int r)) := by
  refine rr_enter (lv0 := [(0, .ref v0), (1, .int v1)]) hp_Mod_fails_ hG (Nat.le_of_ble_eq_true rfl) rfl (fun X hll C => ?_)
  replace C : rr_C X G cX11_fails_ 4 "RootRowsModel" (some .int) 6 157 := C
  unfold f_Mod_fails_ at hm
  refine rx_aload_n C 0 dX11_fails__0 rfl ?_
  refine rx_iconst (v := 0) C dX11_fails__1 rfl ?_
  refine pf_841 C m_v0 k_v0 dX11_fails__2 hm (fun σ_1 hm => ?_)
  refine rx_aload_n C 0 dX11_fails__5 rfl ?_
  refine rx_iload_n C 1 dX11_fails__6 rfl ?_
  obtain ⟨r_2, hc_3, hm⟩ := rr_b0_some hm
  refine rr_callV (rest := []) (st1 := [.int r_2]) C 9 hll (c_Mod_isTray l G hG v0 m_v0 k_v0 v1 σ_1 _ hc_3) q_916 q_918 qs_37 q_11 q_919 hd_Mod_isTray ⟨_, rfl, rfl⟩ (by decide) m_v0 k_v0 ⟨by decide, by decide⟩ rfl rfl (Nat.le_of_ble_eq_true rfl) rfl dX11_fails__7 ?_
  refine rx_if_eq (tgt := 22) C dX11_fails__10 (by decide) hm (fun h_4 hm => ?_) (fun h_4 hm => ?_)
  · refine rx_bipush (v := (-2)) C dX11_fails__22 rfl ?_
    exact rx_iret C dX11_fails__24 hm
  refine rx_aload_n C 0 dX11_fails__13 rfl ?_
  refine rx_iload_n C 1 dX11_fails__14 rfl ?_
  obtain ⟨r_5, hc_6, hm⟩ := rr_b0_some hm
  refine rr_callV (rest := []) (st1 := [.int r_5]) C 9 hll (c_Mod_degreeOf l G hG fu v0 m_v0 k_v0 v1 σ_1 _ hc_6) q_997 q_999 qs_50 q_11 q_1000 hd_Mod_degreeOf ⟨_, rfl, rfl⟩ (by decide) m_v0 k_v0 ⟨by decide, by decide⟩ rfl rfl (Nat.le_of_ble_eq_true rfl) rfl dX11_fails__15 ?_
  refine rx_iconst (v := 1) C dX11_fails__18 rfl ?_
  refine rx_icmp_ge (tgt := 25) C dX11_fails__19 (by decide) hm (fun h_7 hm => ?_) (fun h_7 hm => ?_)
  · refine rx_aload_n C 0 dX11_fails__25 rfl ?_
    refine rx_bipush (v := 36) C dX11_fails__26 rfl ?_
    refine rx_iload_n C 1 dX11_fails__28 rfl ?_
    obtain ⟨r_8, σ_9, hc_10, hm⟩ := rr_bd_some hm
    refine rr_callV (rest := []) (st1 := [.int r_8]) C 9 hll (c_Mod_proves l G hG fu v0 m_v0 k_v0 36 v1 σ_1 _ _ hc_10) q_1063 q_1065 qs_62 q_11 q_1066 hd_Mod_proves ⟨_, rfl, rfl⟩ (by decide) m_v0 k_v0 ⟨by decide, by decide⟩ rfl rfl (Nat.le_of_ble_eq_true rfl) rfl dX11_fails__29 ?_
    refine rx_istore_n (lv1 := [(2, .int r_8), (0, .ref v0), (1, .int v1)]) C dX11_fails__32 (by decide) rfl ?_
    refine rx_iconst (v := 1) C dX11_fails__33 rfl ?_
    refine rx_istore_n (lv1 := [(3, .int 1), (2, .int r_8), (0, .ref v0), (1, .int v1)]) C dX11_fails__34 (by decide) rfl ?_
    refine rx_lv [2, 1, 0] rfl ?_
    refine lw_Mod_fails__35 hG hll C σ_9 v0 m_v0 k_v0 r_8 _ _ _ hm (fun _ hm => ?_)
    refine rx_aload_n C 0 dX11_fails__90 rfl ?_
    refine gf_847 C m_v0 k_v0 dX11_fails__91 hm (fun p_21 m_p_21 k_p_21 hm => ?_)
    refine rx_bipush (v := 36) C dX11_fails__94 rfl ?_
    refine rx_iload_n C 1 dX11_fails__96 rfl ?_
    refine rx_iadd C dX11_fails__97 ?_
    refine rx_iconst (v := 1) C dX11_fails__98 rfl ?_
    refine rx_isub C dX11_fails__99 ?_
    refine rx_iald C m_p_21 k_p_21 dX11_fails__100 hm (fun hm => ?_)
    refine rx_if_le (tgt := 108) C dX11_fails__101 (by decide) hm (fun h_22 hm => ?_) (fun h_22 hm => ?_)
    · refine rx_iconst (v := (-1)) C dX11_fails__108 rfl ?_
      exact rx_iret C dX11_fails__109 hm
    refine rx_iload_n C 1 dX11_fails__104 rfl ?_
    refine rx_goto (tgt := 109) C dX11_fails__105 (by decide) ?_
    exact rx_iret C dX11_fails__109 hm
  refine rx_bipush (v := (-2)) C dX11_fails__22 rfl ?_
  exact rx_iret C dX11_fails__24 hm
def f_Mod_fault (v0 : Nat) (σ : rr_M) : Option (Int32 × rr_M) :=
    rr_lt (ms_i σ v0 0 0) fun σ_1 =>
    some (mg_i σ_1 v0 15, σ_1)
theorem c_Mod_fault (l : Launch) (G : rr_G) (hG : G.2.2.1.Nodup) (v0 : Nat) (m_v0 : v0 ∈ G.2.2.1) (k_v0 : G.2.2.2.1 v0 = 9) (σ : rr_M) (r : Int32) (σr : rr_M) (hm : f_Mod_fault v0 σ = some (r, σr)) : rr_Met l G yX11_fault cX11_fault 1 (some .int) 0 0 [.ref v0] σ σr (some (.int r)) := by
  refine rr_enter (lv0 := [(0, .ref v0)]) hp_Mod_fault hG (Nat.le_of_ble_eq_true rfl) rfl (fun X hll C => ?_)
  replace C : rr_C X G cX11_fault 1 "RootRowsModel" (some .int) 0 0 := C
  unfold f_Mod_fault at hm
  refine rx_aload_n C 0 dX11_fault_0 rfl ?_
  refine rx_iconst (v := 0) C dX11_fault_1 rfl ?_
  refine pf_841 C m_v0 k_v0 dX11_fault_2 hm (fun σ_1 hm => ?_)
  refine rx_aload_n C 0 dX11_fault_5 rfl ?_
  refine gf_856 C m_v0 k_v0 dX11_fault_6 ?_
  exact rx_iret C dX11_fault_9 hm
def l_Mod_put_3 (fu : Nat) (N : Nat → Nat) (v0 : Nat) (v1 : Int32) : Nat → Int32 → rr_M → (rr_M → Option (Unit × rr_M)) → Option (Unit × rr_M)
  | 0, _, _, _ => none
  | n + 1, v2, σ, kk =>
    if v2 < 0 then (kk σ) else
    rr_lt (mg_r σ v0 13) fun p_2 =>
    (if rr_ix (mg_i σ v0 14) (N p_2) then rr_lt (ms_i σ p_2 (rr_n (mg_i σ v0 14)) (vp_nar .byte ((v1 >>> (v2 &&& 31)).toInt8.toInt32))) fun σ_3 =>
    rr_lt (ms_i σ_3 v0 14 ((mg_i σ_3 v0 14) + 1)) fun σ_4 =>
    rr_lt (v2 + (-8)) fun v2_5 =>
    l_Mod_put_3 fu N v0 v1 n v2_5 σ_4 kk else none)
theorem lw_Mod_put_3 {X : rr_X} {G : rr_G} {l : Launch} {fu : Nat} (hG : G.2.2.1.Nodup) (hll : X.2.1 = l) (C : rr_C X G cX11_put 3 "RootRowsModel" none 0 0) {σr : rr_M} (v0 : Nat) (m_v0 : v0 ∈ G.2.2.1) (k_v0 : G.2.2.2.1 v0 = 9) (v1 : Int32) : ∀ (n : Nat) (v2 : Int32) (σ : rr_M) (K : rr_M → Option (Unit × rr_M)), l_Mod_put_3 fu G.2.2.2.2 v0 v1 n v2 σ K = some ((), σr) → (∀ (σ1 : rr_M), K σ1 = some ((), σr) → rr_J X G 3 (rr_E X G σr none) σ1 36 [] []) → rr_J X G 3 (rr_E X G σr none) σ 3 [(0, .ref v0), (1, .int v1), (2, .int v2)] [] := by
  intro n
  induction n with
  | zero =>
    intro v2 σ K hm
    cases hm
  | succ n ih =>
    intro v2 σ K hm hk
    unfold l_Mod_put_3 at hm
    refine rx_iload_n C 2 dX11_put_3 rfl ?_
    refine rx_if_lt (tgt := 36) C dX11_put_4 (by decide) hm (fun h_1 hm => ?_) (fun h_1 hm => ?_)
    · refine rx_lv [] rfl ?_
      exact hk _ hm
    refine rx_aload_n C 0 dX11_put_7 rfl ?_
    refine gf_854 C m_v0 k_v0 dX11_put_8 hm (fun p_2 m_p_2 k_p_2 hm => ?_)
    refine rx_aload_n C 0 dX11_put_11 rfl ?_
    refine gf_855 C m_v0 k_v0 dX11_put_12 ?_
    refine rx_iload_n C 1 dX11_put_15 rfl ?_
    refine rx_iload_n C 2 dX11_put_16 rfl ?_
    refine rx_ishr C dX11_put_17 ?_
    refine rx_i2b C dX11_put_18 ?_
    refine rx_bast C m_p_2 k_p_2 dX11_put_19 hm (fun σ_3 hm => ?_)
    refine rx_aload_n C 0 dX11_put_20 rfl ?_
    refine rx_dup C dX11_put_21 rfl ?_
    refine gf_855 C m_v0 k_v0 dX11_put_22 ?_
    refine rx_iconst (v := 1) C dX11_put_25 rfl ?_
    refine rx_iadd C dX11_put_26 ?_
    refine pf_855 C m_v0 k_v0 dX11_put_27 hm (fun σ_4 hm => ?_)
    refine rx_iinc (d := (-8)) (lv1 := fun v => [(2, .int v), (0, .ref v0), (1, .int v1)]) C 2 dX11_put_30 hm rfl rfl (by decide) (fun _ => rfl) (fun v2_5 hm => ?_)
    refine rx_goto (tgt := 3) C dX11_put_33 (by decide) ?_
    refine rx_lv [1, 2, 0] rfl ?_
    exact ih _ _ _ hm hk
def f_Mod_put (fu : Nat) (N : Nat → Nat) (v0 : Nat) (v1 : Int32) (σ : rr_M) : Option (Unit × rr_M) :=
    l_Mod_put_3 fu N v0 v1 fu 24 σ (fun σ_6 =>
    some ((), σ_6))
theorem c_Mod_put (l : Launch) (G : rr_G) (hG : G.2.2.1.Nodup) (fu : Nat) (v0 : Nat) (m_v0 : v0 ∈ G.2.2.1) (k_v0 : G.2.2.2.1 v0 = 9) (v1 : Int32) (σ : rr_M) (σr : rr_M) (hm : f_Mod_put fu G.2.2.2.2 v0 v1 σ = some ((), σr)) : rr_Met l G yX11_put cX11_put 3 none 0 0 [.ref v0, .int v1] σ σr none := by
  refine rr_enter (lv0 := [(0, .ref v0), (1, .int v1)]) hp_Mod_put hG (Nat.le_of_ble_eq_true rfl) rfl (fun X hll C => ?_)
  replace C : rr_C X G cX11_put 3 "RootRowsModel" none 0 0 := C
  unfold f_Mod_put at hm
  refine rx_bipush (v := 24) C dX11_put_0 rfl ?_
  refine rx_istore_n (lv1 := [(2, .int 24), (0, .ref v0), (1, .int v1)]) C dX11_put_2 (by decide) rfl ?_
  refine rx_lv [1, 2, 0] rfl ?_
  refine lw_Mod_put_3 hG hll C v0 m_v0 k_v0 v1 _ _ _ _ hm (fun σ_6 hm => ?_)
  exact rx_vret C dX11_put_36 hm
def f_Mod_feed (fu : Nat) (N : Nat → Nat) (v0 : Nat) (v1 : Int32) (v2 : Int32) (v3 : Int32) (v4 : Int32) (v5 : Int32) (σ : rr_M) : Option (Int32 × rr_M) :=
    rr_lt (ms_i σ v0 0 0) fun σ_1 =>
    if ((mg_i σ_1 v0 14) + 20) ≤ 200 then (rr_bd (f_Mod_put fu N v0 v1 σ_1) fun _ σ_3 =>
    rr_bd (f_Mod_put fu N v0 v2 σ_3) fun _ σ_5 =>
    rr_bd (f_Mod_put fu N v0 v3 σ_5) fun _ σ_7 =>
    rr_bd (f_Mod_put fu N v0 v4 σ_7) fun _ σ_9 =>
    rr_bd (f_Mod_put fu N v0 v5 σ_9) fun _ σ_11 =>
    some (mg_i σ_11 v0 14, σ_11)) else
    some ((-1), σ_1)
theorem c_Mod_feed (l : Launch) (G : rr_G) (hG : G.2.2.1.Nodup) (fu : Nat) (v0 : Nat) (m_v0 : v0 ∈ G.2.2.1) (k_v0 : G.2.2.2.1 v0 = 9) (v1 : Int32) (v2 : Int32) (v3 : Int32) (v4 : Int32) (v5 : Int32) (σ : rr_M) (r : Int32) (σr : rr_M) (hm : f_Mod_feed fu G.2.2.2.2 v0 v1 v2 v3 v4 v5 σ = some (r, σr)) : rr_Met l G yX11_feed cX11_feed 6 (some .int) 1 22 [.ref v0, .int v1, .int v2, .int v3, .int v4, .int v5] σ σr (some (.int r)) := by
  refine rr_enter (lv0 := [(0, .ref v0), (1, .int v1), (2, .int v2), (3, .int v3), (4, .int v4), (5, .int v5)]) hp_Mod_feed hG (Nat.le_of_ble_eq_true rfl) rfl (fun X hll C => ?_)
  replace C : rr_C X G cX11_feed 6 "RootRowsModel" (some .int) 1 22 := C
  unfold f_Mod_feed at hm
  refine rx_aload_n C 0 dX11_feed_0 rfl ?_
  refine rx_iconst (v := 0) C dX11_feed_1 rfl ?_
  refine pf_841 C m_v0 k_v0 dX11_feed_2 hm (fun σ_1 hm => ?_)
  refine rx_aload_n C 0 dX11_feed_5 rfl ?_
  refine gf_855 C m_v0 k_v0 dX11_feed_6 ?_
  refine rx_bipush (v := 20) C dX11_feed_9 rfl ?_
  refine rx_iadd C dX11_feed_11 ?_
  refine rx_sipush (v := 200) C dX11_feed_12 rfl ?_
  refine rx_icmp_le (tgt := 20) C dX11_feed_15 (by decide) hm (fun h_2 hm => ?_) (fun h_2 hm => ?_)
  · refine rx_aload_n C 0 dX11_feed_20 rfl ?_
    refine rx_iload_n C 1 dX11_feed_21 rfl ?_
    obtain ⟨_, σ_3, hc_4, hm⟩ := rr_bd_some hm
    refine rr_callV (rest := []) (st1 := []) C 9 hll (c_Mod_put l G hG fu v0 m_v0 k_v0 v1 σ_1 _ hc_4) q_901 q_903 qs_36 q_11 q_904 hd_Mod_put ⟨_, rfl, rfl⟩ (by decide) m_v0 k_v0 ⟨by decide, by decide⟩ rfl rfl (Nat.le_of_ble_eq_true rfl) rfl dX11_feed_22 ?_
    refine rx_aload_n C 0 dX11_feed_25 rfl ?_
    refine rx_iload_n C 2 dX11_feed_26 rfl ?_
    obtain ⟨_, σ_5, hc_6, hm⟩ := rr_bd_some hm
    refine rr_callV (rest := []) (st1 := []) C 9 hll (c_Mod_put l G hG fu v0 m_v0 k_v0 v2 σ_3 _ hc_6) q_901 q_903 qs_36 q_11 q_904 hd_Mod_put ⟨_, rfl, rfl⟩ (by decide) m_v0 k_v0 ⟨by decide, by decide⟩ rfl rfl (Nat.le_of_ble_eq_true rfl) rfl dX11_feed_27 ?_
    refine rx_aload_n C 0 dX11_feed_30 rfl ?_
    refine rx_iload_n C 3 dX11_feed_31 rfl ?_
    obtain ⟨_, σ_7, hc_8, hm⟩ := rr_bd_some hm
    refine rr_callV (rest := []) (st1 := []) C 9 hll (c_Mod_put l G hG fu v0 m_v0 k_v0 v3 σ_5 _ hc_8) q_901 q_903 qs_36 q_11 q_904 hd_Mod_put ⟨_, rfl, rfl⟩ (by decide) m_v0 k_v0 ⟨by decide, by decide⟩ rfl rfl (Nat.le_of_ble_eq_true rfl) rfl dX11_feed_32 ?_
    refine rx_aload_n C 0 dX11_feed_35 rfl ?_
    refine rx_iload C 4 dX11_feed_36 rfl ?_
    obtain ⟨_, σ_9, hc_10, hm⟩ := rr_bd_some hm
    refine rr_callV (rest := []) (st1 := []) C 9 hll (c_Mod_put l G hG fu v0 m_v0 k_v0 v4 σ_7 _ hc_10) q_901 q_903 qs_36 q_11 q_904 hd_Mod_put ⟨_, rfl, rfl⟩ (by decide) m_v0 k_v0 ⟨by decide, by decide⟩ rfl rfl (Nat.le_of_ble_eq_true rfl) rfl dX11_feed_38 ?_
    refine rx_aload_n C 0 dX11_feed_41 rfl ?_
    refine rx_iload C 5 dX11_feed_42 rfl ?_
    obtain ⟨_, σ_11, hc_12, hm⟩ := rr_bd_some hm
    refine rr_callV (rest := []) (st1 := []) C 9 hll (c_Mod_put l G hG fu v0 m_v0 k_v0 v5 σ_9 _ hc_12) q_901 q_903 qs_36 q_11 q_904 hd_Mod_put ⟨_, rfl, rfl⟩ (by decide) m_v0 k_v0 ⟨by decide, by decide⟩ rfl rfl (Nat.le_of_ble_eq_true rfl) rfl dX11_feed_44 ?_
    refine rx_aload_n C 0 dX11_feed_47 rfl ?_
    refine gf_855 C m_v0 k_v0 dX11_feed_48 ?_
    exact rx_iret C dX11_feed_51 hm
  refine rx_iconst (v := (-1)) C dX11_feed_18 rfl ?_
  exact rx_iret C dX11_feed_19 hm
def l_Mod_firstBent_2 (fu : Nat) (N : Nat → Nat) (v0 : Nat) (v1 : Int32) (v2 : Int32) (σ : rr_M) : Nat → Int32 → (Option (Int32)) → Option (Int32)
  | 0, _, _ => none
  | n + 1, v3, kk =>
    if v2 ≤ v3 then (kk) else
    Option.bind (f_Mod_at N v0 v1 v3 σ) fun r_2 =>
    Option.bind (f_Mod_at N v0 v1 v3 σ) fun r_4 =>
    Option.bind (f_Mod_at N v0 v1 (v3 - 1) σ) fun r_6 =>
    Option.bind (f_Mod_at N v0 v1 (v3 + 1) σ) fun r_8 =>
    if (r_6 * r_8) ≤ (r_2 * r_4) then (rr_lt (v3 + 1) fun v3_11 =>
    l_Mod_firstBent_2 fu N v0 v1 v2 σ n v3_11 kk) else
    some (v3)
theorem lw_Mod_firstBent_2 {X : rr_X} {G : rr_G} {l : Launch} {fu : Nat} (hG : G.2.2.1.Nodup) (hll : X.2.1 = l) (C : rr_C X G cX11_firstBent 4 "RootRowsModel" (some .int) 1 22) {r : Int32}  (σ : rr_M) (v0 : Nat) (m_v0 : v0 ∈ G.2.2.1) (k_v0 : G.2.2.2.1 v0 = 9) (v1 : Int32) (v2 : Int32) : ∀ (n : Nat) (v3 : Int32) (K : Option (Int32)), l_Mod_firstBent_2 fu G.2.2.2.2 v0 v1 v2 σ n v3 K = some r → (∀ (_ : Unit), K = some r → rr_J X G 4 (rr_E X G σ (some (.int r))) σ 49 [] []) → rr_J X G 4 (rr_E X G σ (some (.int r))) σ 2 [(0, .ref v0), (1, .int v1), (2, .int v2), (3, .int v3)] [] := by
  intro n
  induction n with
  | zero =>
    intro v3 K hm
    cases hm
  | succ n ih =>
    intro v3 K hm hk
    unfold l_Mod_firstBent_2 at hm
    refine rx_iload_n C 3 dX11_firstBent_2 rfl ?_
    refine rx_iload_n C 2 dX11_firstBent_3 rfl ?_
    refine rx_icmp_ge (tgt := 49) C dX11_firstBent_4 (by decide) hm (fun h_1 hm => ?_) (fun h_1 hm => ?_)
    · refine rx_lv [] rfl ?_
      exact hk () hm
    refine rx_aload_n C 0 dX11_firstBent_7 rfl ?_
    refine rx_iload_n C 1 dX11_firstBent_8 rfl ?_
    refine rx_iload_n C 3 dX11_firstBent_9 rfl ?_
    obtain ⟨r_2, hc_3, hm⟩ := rr_b0_some hm
    refine rr_callV (rest := []) (st1 := [.long r_2]) C 9 hll (c_Mod_at l G hG v0 m_v0 k_v0 v1 v3 σ _ hc_3) q_950 q_952 qs_44 q_11 q_953 hd_Mod_at ⟨_, rfl, rfl⟩ (by decide) m_v0 k_v0 ⟨by decide, by decide⟩ rfl rfl (Nat.le_of_ble_eq_true rfl) rfl dX11_firstBent_10 ?_
    refine rx_aload_n C 0 dX11_firstBent_13 rfl ?_
    refine rx_iload_n C 1 dX11_firstBent_14 rfl ?_
    refine rx_iload_n C 3 dX11_firstBent_15 rfl ?_
    obtain ⟨r_4, hc_5, hm⟩ := rr_b0_some hm
    refine rr_callV (rest := [.long r_2]) (st1 := [.long r_4, .long r_2]) C 9 hll (c_Mod_at l G hG v0 m_v0 k_v0 v1 v3 σ _ hc_5) q_950 q_952 qs_44 q_11 q_953 hd_Mod_at ⟨_, rfl, rfl⟩ (by decide) m_v0 k_v0 ⟨by decide, by decide⟩ rfl rfl (Nat.le_of_ble_eq_true rfl) rfl dX11_firstBent_16 ?_
    refine rx_lmul C dX11_firstBent_19 ?_
    refine rx_aload_n C 0 dX11_firstBent_20 rfl ?_
    refine rx_iload_n C 1 dX11_firstBent_21 rfl ?_
    refine rx_iload_n C 3 dX11_firstBent_22 rfl ?_
    refine rx_iconst (v := 1) C dX11_firstBent_23 rfl ?_
    refine rx_isub C dX11_firstBent_24 ?_
    obtain ⟨r_6, hc_7, hm⟩ := rr_b0_some hm
    refine rr_callV (rest := [.long (r_2 * r_4)]) (st1 := [.long r_6, .long (r_2 * r_4)]) C 9 hll (c_Mod_at l G hG v0 m_v0 k_v0 v1 (v3 - 1) σ _ hc_7) q_950 q_952 qs_44 q_11 q_953 hd_Mod_at ⟨_, rfl, rfl⟩ (by decide) m_v0 k_v0 ⟨by decide, by decide⟩ rfl rfl (Nat.le_of_ble_eq_true rfl) rfl dX11_firstBent_25 ?_
    refine rx_aload_n C 0 dX11_firstBent_28 rfl ?_
    refine rx_iload_n C 1 dX11_firstBent_29 rfl ?_
    refine rx_iload_n C 3 dX11_firstBent_30 rfl ?_
    refine rx_iconst (v := 1) C dX11_firstBent_31 rfl ?_
    refine rx_iadd C dX11_firstBent_32 ?_
    obtain ⟨r_8, hc_9, hm⟩ := rr_b0_some hm
    refine rr_callV (rest := [.long r_6, .long (r_2 * r_4)]) (st1 := [.long r_8, .long r_6, .long (r_2 * r_4)]) C 9 hll (c_Mod_at l G hG v0 m_v0 k_v0 v1 (v3 + 1) σ _ hc_9) q_950 q_952 qs_44 q_11 q_953 hd_Mod_at ⟨_, rfl, rfl⟩ (by decide) m_v0 k_v0 ⟨by decide, by decide⟩ rfl rfl (Nat.le_of_ble_eq_true rfl) rfl dX11_firstBent_33 ?_
    refine rx_lmul C dX11_firstBent_36 ?_
    refine rx_lcmp_ge (tgt := 43) C dX11_firstBent_37 dX11_firstBent_38 (by decide) hm (fun h_10 hm => ?_) (fun h_10 hm => ?_)
    · refine rx_iinc (d := 1) (lv1 := fun v => [(3, .int v), (0, .ref v0), (1, .int v1), (2, .int v2)]) C 3 dX11_firstBent_43 hm rfl rfl (by decide) (fun _ => rfl) (fun v3_11 hm => ?_)
      refine rx_goto (tgt := 2) C dX11_firstBent_46 (by decide) ?_
      refine rx_lv [1, 2, 3, 0] rfl ?_
      exact ih _ _ hm hk
    refine rx_iload_n C 3 dX11_firstBent_41 rfl ?_
    exact rx_iretR C dX11_firstBent_42 hm
def f_Mod_firstBent (fu : Nat) (N : Nat → Nat) (v0 : Nat) (v1 : Int32) (v2 : Int32) (σ : rr_M) : Option (Int32) :=
    l_Mod_firstBent_2 fu N v0 v1 v2 σ fu 1 (some (0))
theorem c_Mod_firstBent (l : Launch) (G : rr_G) (hG : G.2.2.1.Nodup) (fu : Nat) (v0 : Nat) (m_v0 : v0 ∈ G.2.2.1) (k_v0 : G.2.2.2.1 v0 = 9) (v1 : Int32) (v2 : Int32) (σ : rr_M) (r : Int32) (hm : f_Mod_firstBent fu G.2.2.2.2 v0 v1 v2 σ = some r) : rr_Met l G yX11_firstBent cX11_firstBent 4 (some .int) 1 22 [.ref v0, .int v1, .int v2] σ σ (some (.int r)) := by
  refine rr_enter (lv0 := [(0, .ref v0), (1, .int v1), (2, .int v2)]) hp_Mod_firstBent hG (Nat.le_of_ble_eq_true rfl) rfl (fun X hll C => ?_)
  replace C : rr_C X G cX11_firstBent 4 "RootRowsModel" (some .int) 1 22 := C
  unfold f_Mod_firstBent at hm
  refine rx_iconst (v := 1) C dX11_firstBent_0 rfl ?_
  refine rx_istore_n (lv1 := [(3, .int 1), (0, .ref v0), (1, .int v1), (2, .int v2)]) C dX11_firstBent_1 (by decide) rfl ?_
  refine rx_lv [1, 2, 3, 0] rfl ?_
  refine lw_Mod_firstBent_2 hG hll C σ v0 m_v0 k_v0 v1 v2 _ _ _ hm (fun _ hm => ?_)
  refine rx_iconst (v := 0) C dX11_firstBent_49 rfl ?_
  exact rx_iretR C dX11_firstBent_50 hm
def l_Mod_firstNewton_2 (fu : Nat) (N : Nat → Nat) (v0 : Nat) (v1 : Int32) (v2 : Int32) (σ : rr_M) : Nat → Int32 → (Option (Int32)) → Option (Int32)
  | 0, _, _ => none
  | n + 1, v3, kk =>
    if v2 ≤ v3 then (kk) else
    Option.bind (f_Mod_at N v0 v1 v3 σ) fun r_2 =>
    Option.bind (f_Mod_at N v0 v1 v3 σ) fun r_4 =>
    Option.bind (f_Mod_at N v0 v1 (v3 - 1) σ) fun r_6 =>
    Option.bind (f_Mod_at N v0 v1 (v3 + 1) σ) fun r_8 =>
    if (((r_6 * r_8) * ((v3 + 1).toInt64)) * (((v2 - v3) + 1).toInt64)) ≤ (((r_2 * r_4) * v3.toInt64) * ((v2 - v3).toInt64)) then (rr_lt (v3 + 1) fun v3_11 =>
    l_Mod_firstNewton_2 fu N v0 v1 v2 σ n v3_11 kk) else
    some (v3)
theorem lw_Mod_firstNewton_2 {X : rr_X} {G : rr_G} {l : Launch} {fu : Nat} (hG : G.2.2.1.Nodup) (hll : X.2.1 = l) (C : rr_C X G cX11_firstNewton 4 "RootRowsModel" (some .int) 1 22) {r : Int32}  (σ : rr_M) (v0 : Nat) (m_v0 : v0 ∈ G.2.2.1) (k_v0 : G.2.2.2.1 v0 = 9) (v1 : Int32) (v2 : Int32) : ∀ (n : Nat) (v3 : Int32) (K : Option (Int32)), l_Mod_firstNewton_2 fu G.2.2.2.2 v0 v1 v2 σ n v3 K = some r → (∀ (_ : Unit), K = some r → rr_J X G 4 (rr_E X G σ (some (.int r))) σ 69 [] []) → rr_J X G 4 (rr_E X G σ (some (.int r))) σ 2 [(0, .ref v0), (1, .int v1), (2, .int v2), (3, .int v3)] [] := by
  intro n
  induction n with
  | zero =>
    intro v3 K hm
    cases hm
  | succ n ih =>
    intro v3 K hm hk
    unfold l_Mod_firstNewton_2 at hm
    refine rx_iload_n C 3 dX11_firstNewton_2 rfl ?_
    refine rx_iload_n C 2 dX11_firstNewton_3 rfl ?_
    refine rx_icmp_ge (tgt := 69) C dX11_firstNewton_4 (by decide) hm (fun h_1 hm => ?_) (fun h_1 hm => ?_)
    · refine rx_lv [] rfl ?_
      exact hk () hm
    refine rx_aload_n C 0 dX11_firstNewton_7 rfl ?_
    refine rx_iload_n C 1 dX11_firstNewton_8 rfl ?_
    refine rx_iload_n C 3 dX11_firstNewton_9 rfl ?_
    obtain ⟨r_2, hc_3, hm⟩ := rr_b0_some hm
    refine rr_callV (rest := []) (st1 := [.long r_2]) C 9 hll (c_Mod_at l G hG v0 m_v0 k_v0 v1 v3 σ _ hc_3) q_950 q_952 qs_44 q_11 q_953 hd_Mod_at ⟨_, rfl, rfl⟩ (by decide) m_v0 k_v0 ⟨by decide, by decide⟩ rfl rfl (Nat.le_of_ble_eq_true rfl) rfl dX11_firstNewton_10 ?_
    refine rx_aload_n C 0 dX11_firstNewton_13 rfl ?_
    refine rx_iload_n C 1 dX11_firstNewton_14 rfl ?_
    refine rx_iload_n C 3 dX11_firstNewton_15 rfl ?_
    obtain ⟨r_4, hc_5, hm⟩ := rr_b0_some hm
    refine rr_callV (rest := [.long r_2]) (st1 := [.long r_4, .long r_2]) C 9 hll (c_Mod_at l G hG v0 m_v0 k_v0 v1 v3 σ _ hc_5) q_950 q_952 qs_44 q_11 q_953 hd_Mod_at ⟨_, rfl, rfl⟩ (by decide) m_v0 k_v0 ⟨by decide, by decide⟩ rfl rfl (Nat.le_of_ble_eq_true rfl) rfl dX11_firstNewton_16 ?_
    refine rx_lmul C dX11_firstNewton_19 ?_
    refine rx_iload_n C 3 dX11_firstNewton_20 rfl ?_
    refine rx_i2l C dX11_firstNewton_21 ?_
    refine rx_lmul C dX11_firstNewton_22 ?_
    refine rx_iload_n C 2 dX11_firstNewton_23 rfl ?_
    refine rx_iload_n C 3 dX11_firstNewton_24 rfl ?_
    refine rx_isub C dX11_firstNewton_25 ?_
    refine rx_i2l C dX11_firstNewton_26 ?_
    refine rx_lmul C dX11_firstNewton_27 ?_
    refine rx_aload_n C 0 dX11_firstNewton_28 rfl ?_
    refine rx_iload_n C 1 dX11_firstNewton_29 rfl ?_
    refine rx_iload_n C 3 dX11_firstNewton_30 rfl ?_
    refine rx_iconst (v := 1) C dX11_firstNewton_31 rfl ?_
    refine rx_isub C dX11_firstNewton_32 ?_
    obtain ⟨r_6, hc_7, hm⟩ := rr_b0_some hm
    refine rr_callV (rest := [.long (((r_2 * r_4) * v3.toInt64) * ((v2 - v3).toInt64))]) (st1 := [.long r_6, .long (((r_2 * r_4) * v3.toInt64) * ((v2 - v3).toInt64))]) C 9 hll (c_Mod_at l G hG v0 m_v0 k_v0 v1 (v3 - 1) σ _ hc_7) q_950 q_952 qs_44 q_11 q_953 hd_Mod_at ⟨_, rfl, rfl⟩ (by decide) m_v0 k_v0 ⟨by decide, by decide⟩ rfl rfl (Nat.le_of_ble_eq_true rfl) rfl dX11_firstNewton_33 ?_
    refine rx_aload_n C 0 dX11_firstNewton_36 rfl ?_
    refine rx_iload_n C 1 dX11_firstNewton_37 rfl ?_
    refine rx_iload_n C 3 dX11_firstNewton_38 rfl ?_
    refine rx_iconst (v := 1) C dX11_firstNewton_39 rfl ?_
    refine rx_iadd C dX11_firstNewton_40 ?_
    obtain ⟨r_8, hc_9, hm⟩ := rr_b0_some hm
    refine rr_callV (rest := [.long r_6, .long (((r_2 * r_4) * v3.toInt64) * ((v2 - v3).toInt64))]) (st1 := [.long r_8, .long r_6, .long (((r_2 * r_4) * v3.toInt64) * ((v2 - v3).toInt64))]) C 9 hll (c_Mod_at l G hG v0 m_v0 k_v0 v1 (v3 + 1) σ _ hc_9) q_950 q_952 qs_44 q_11 q_953 hd_Mod_at ⟨_, rfl, rfl⟩ (by decide) m_v0 k_v0 ⟨by decide, by decide⟩ rfl rfl (Nat.le_of_ble_eq_true rfl) rfl dX11_firstNewton_41 ?_
    refine rx_lmul C dX11_firstNewton_44 ?_
    refine rx_iload_n C 3 dX11_firstNewton_45 rfl ?_
    refine rx_iconst (v := 1) C dX11_firstNewton_46 rfl ?_
    refine rx_iadd C dX11_firstNewton_47 ?_
    refine rx_i2l C dX11_firstNewton_48 ?_
    refine rx_lmul C dX11_firstNewton_49 ?_
    refine rx_iload_n C 2 dX11_firstNewton_50 rfl ?_
    refine rx_iload_n C 3 dX11_firstNewton_51 rfl ?_
    refine rx_isub C dX11_firstNewton_52 ?_
    refine rx_iconst (v := 1) C dX11_firstNewton_53 rfl ?_
    refine rx_iadd C dX11_firstNewton_54 ?_
    refine rx_i2l C dX11_firstNewton_55 ?_
    refine rx_lmul C dX11_firstNewton_56 ?_
    refine rx_lcmp_ge (tgt := 63) C dX11_firstNewton_57 dX11_firstNewton_58 (by decide) hm (fun h_10 hm => ?_) (fun h_10 hm => ?_)
    · refine rx_iinc (d := 1) (lv1 := fun v => [(3, .int v), (0, .ref v0), (1, .int v1), (2, .int v2)]) C 3 dX11_firstNewton_63 hm rfl rfl (by decide) (fun _ => rfl) (fun v3_11 hm => ?_)
      refine rx_goto (tgt := 2) C dX11_firstNewton_66 (by decide) ?_
      refine rx_lv [1, 2, 3, 0] rfl ?_
      exact ih _ _ hm hk
    refine rx_iload_n C 3 dX11_firstNewton_61 rfl ?_
    exact rx_iretR C dX11_firstNewton_62 hm
def f_Mod_firstNewton (fu : Nat) (N : Nat → Nat) (v0 : Nat) (v1 : Int32) (v2 : Int32) (σ : rr_M) : Option (Int32) :=
    l_Mod_firstNewton_2 fu N v0 v1 v2 σ fu 1 (some (0))
theorem c_Mod_firstNewton (l : Launch) (G : rr_G) (hG : G.2.2.1.Nodup) (fu : Nat) (v0 : Nat) (m_v0 : v0 ∈ G.2.2.1) (k_v0 : G.2.2.2.1 v0 = 9) (v1 : Int32) (v2 : Int32) (σ : rr_M) (r : Int32) (hm : f_Mod_firstNewton fu G.2.2.2.2 v0 v1 v2 σ = some r) : rr_Met l G yX11_firstNewton cX11_firstNewton 4 (some .int) 1 22 [.ref v0, .int v1, .int v2] σ σ (some (.int r)) := by
  refine rr_enter (lv0 := [(0, .ref v0), (1, .int v1), (2, .int v2)]) hp_Mod_firstNewton hG (Nat.le_of_ble_eq_true rfl) rfl (fun X hll C => ?_)
  replace C : rr_C X G cX11_firstNewton 4 "RootRowsModel" (some .int) 1 22 := C
  unfold f_Mod_firstNewton at hm
  refine rx_iconst (v := 1) C dX11_firstNewton_0 rfl ?_
  refine rx_istore_n (lv1 := [(3, .int 1), (0, .ref v0), (1, .int v1), (2, .int v2)]) C dX11_firstNewton_1 (by decide) rfl ?_
  refine rx_lv [1, 2, 3, 0] rfl ?_
  refine lw_Mod_firstNewton_2 hG hll C σ v0 m_v0 k_v0 v1 v2 _ _ _ hm (fun _ hm => ?_)
  refine rx_iconst (v := 0) C dX11_firstNewton_69 rfl ?_
  exact rx_iretR C dX11_firstNewton_70 hm
def l_Mod_floorOf_16 (fu : Nat) (N : Nat → Nat) (v0 : Nat) (v1 : Int32) (v2 : Int32) : Nat → Int64 → Int64 → rr_M → (Int64 → rr_M → Option (Int64 × rr_M)) → Option (Int64 × rr_M)
  | 0, _, _, _, _ => none
  | n + 1, v3, v5, σ, kk =>
    if (v5 - v3) ≤ 1 then (kk v3 σ) else
    rr_lt ((v3 + v5) / 2) fun v7_4 =>
    rr_bd (f_Mod_below fu N v0 v7_4 v2 σ) fun r_5 σ_6 =>
    rr_jn (fun (v3_8 : Int64) (v5_9 : Int64) =>
    l_Mod_floorOf_16 fu N v0 v1 v2 n v3_8 v5_9 σ_6 kk) fun j56 =>
    if v1 < r_5 then (j56 v3 v7_4) else
    j56 v7_4 v5
theorem lw_Mod_floorOf_16 {X : rr_X} {G : rr_G} {l : Launch} {fu : Nat} (hG : G.2.2.1.Nodup) (hll : X.2.1 = l) (C : rr_C X G cX11_floorOf 9 "RootRowsModel" (some .long) 8 201) {r : Int64} {σr : rr_M} (v0 : Nat) (m_v0 : v0 ∈ G.2.2.1) (k_v0 : G.2.2.2.1 v0 = 9) (v1 : Int32) (v2 : Int32) : ∀ (n : Nat) (v3 : Int64) (v5 : Int64) (σ : rr_M) (K : Int64 → rr_M → Option (Int64 × rr_M)), l_Mod_floorOf_16 fu G.2.2.2.2 v0 v1 v2 n v3 v5 σ K = some (r, σr) → (∀ (w3 : Int64) (σ1 : rr_M), K w3 σ1 = some (r, σr) → rr_J X G 9 (rr_E X G σr (some (.long r))) σ1 59 [(3, .long w3)] []) → rr_J X G 9 (rr_E X G σr (some (.long r))) σ 16 [(0, .ref v0), (1, .int v1), (2, .int v2), (3, .long v3), (5, .long v5)] [] := by
  intro n
  induction n with
  | zero =>
    intro v3 v5 σ K hm
    cases hm
  | succ n ih =>
    intro v3 v5 σ K hm hk
    unfold l_Mod_floorOf_16 at hm
    refine rx_lload C 4 dX11_floorOf_16 rfl ?_
    refine rx_lload_n C 3 dX11_floorOf_18 rfl ?_
    refine rx_lsub C dX11_floorOf_19 ?_
    refine rx_lconst (v := 1) C dX11_floorOf_20 rfl ?_
    refine rx_lcmp_le (tgt := 59) C dX11_floorOf_21 dX11_floorOf_22 (by decide) hm (fun h_3 hm => ?_) (fun h_3 hm => ?_)
    · refine rx_lv [3] rfl ?_
      exact hk _ _ hm
    refine rx_lload_n C 3 dX11_floorOf_25 rfl ?_
    refine rx_lload C 4 dX11_floorOf_26 rfl ?_
    refine rx_ladd C dX11_floorOf_28 ?_
    refine rx_ldc2 C q_1148 dX11_floorOf_29 ?_
    refine rx_ldiv C dX11_floorOf_32 (by decide) ?_
    refine rx_nml hm (fun v7_4 ev7_4 hm => ?_)
    refine rx_lstore (lv1 := [(7, .long v7_4), (0, .ref v0), (1, .int v1), (2, .int v2), (3, .long v3), (5, .long v5)]) C dX11_floorOf_33 (by decide) rfl ?_
    refine rx_aload_n C 1 dX11_floorOf_35 rfl ?_
    refine rx_lload C 0 dX11_floorOf_36 rfl ?_
    refine rx_iload_n C 3 dX11_floorOf_38 rfl ?_
    obtain ⟨r_5, σ_6, hc_7, hm⟩ := rr_bd_some hm
    refine rr_callV (rest := []) (st1 := [.int r_5]) C 9 hll (c_Mod_below l G hG fu v0 m_v0 k_v0 v7_4 v2 σ _ _ hc_7) q_1149 q_1151 qs_82 q_11 q_1152 hd_Mod_below ⟨_, rfl, rfl⟩ (by decide) m_v0 k_v0 ⟨by decide, by decide⟩ rfl rfl (Nat.le_of_ble_eq_true rfl) rfl dX11_floorOf_39 ?_
    refine rx_iload_n C 2 dX11_floorOf_42 rfl ?_
    refine rr_jn2 hm (fun j56 ej56 hm => ?_)
    have hj56 : ∀ (v3_8 : Int64) (v5_9 : Int64), j56 v3_8 v5_9 = some (r, σr) → rr_J X G 9 (rr_E X G σr (some (.long r))) σ_6 56 [(0, .ref v0), (1, .int v1), (2, .int v2), (3, .long v3_8), (5, .long v5_9)] [] := by
      intro v3_8 v5_9 hm
      replace hm := ej56 _ _ hm
      refine rx_goto (tgt := 16) C dX11_floorOf_56 (by decide) ?_
      refine rx_lv [0, 1, 2, 3, 4] rfl ?_
      exact ih _ _ _ _ hm hk
    refine rx_icmp_gt (tgt := 52) C dX11_floorOf_43 (by decide) hm (fun h_10 hm => ?_) (fun h_10 hm => ?_)
    · refine rx_lload C 0 dX11_floorOf_52 rfl ?_
      refine rx_lstore (lv1 := [(5, .long v7_4), (7, .long v7_4), (0, .ref v0), (1, .int v1), (2, .int v2), (3, .long v3)]) C dX11_floorOf_54 (by decide) rfl ?_
      refine rx_lv [2, 3, 4, 5, 0] rfl ?_
      exact hj56 _ _ hm
    refine rx_lload C 0 dX11_floorOf_46 rfl ?_
    refine rx_lstore_n (lv1 := [(3, .long v7_4), (7, .long v7_4), (0, .ref v0), (1, .int v1), (2, .int v2), (5, .long v5)]) C dX11_floorOf_48 (by decide) rfl ?_
    refine rx_goto (tgt := 56) C dX11_floorOf_49 (by decide) ?_
    refine rx_lv [2, 3, 4, 0, 5] rfl ?_
    exact hj56 _ _ hm
def f_Mod_floorOf (fu : Nat) (N : Nat → Nat) (v0 : Nat) (v1 : Int32) (v2 : Int32) (σ : rr_M) : Option (Int64 × rr_M) :=
    rr_lt (-(1 <<< ((28 + v2).toInt64 &&& 63))) fun v3_1 =>
    rr_lt (1 <<< ((28 + v2).toInt64 &&& 63)) fun v5_2 =>
    l_Mod_floorOf_16 fu N v0 v1 v2 fu v3_1 v5_2 σ (fun v3_11 σ_12 =>
    some (v3_11, σ_12))
theorem c_Mod_floorOf (l : Launch) (G : rr_G) (hG : G.2.2.1.Nodup) (fu : Nat) (v0 : Nat) (m_v0 : v0 ∈ G.2.2.1) (k_v0 : G.2.2.2.1 v0 = 9) (v1 : Int32) (v2 : Int32) (σ : rr_M) (r : Int64) (σr : rr_M) (hm : f_Mod_floorOf fu G.2.2.2.2 v0 v1 v2 σ = some (r, σr)) : rr_Met l G yX11_floorOf cX11_floorOf 9 (some .long) 8 201 [.ref v0, .int v1, .int v2] σ σr (some (.long r)) := by
  refine rr_enter (lv0 := [(0, .ref v0), (1, .int v1), (2, .int v2)]) hp_Mod_floorOf hG (Nat.le_of_ble_eq_true rfl) rfl (fun X hll C => ?_)
  replace C : rr_C X G cX11_floorOf 9 "RootRowsModel" (some .long) 8 201 := C
  unfold f_Mod_floorOf at hm
  refine rx_lconst (v := 1) C dX11_floorOf_0 rfl ?_
  refine rx_bipush (v := 28) C dX11_floorOf_1 rfl ?_
  refine rx_iload_n C 2 dX11_floorOf_3 rfl ?_
  refine rx_iadd C dX11_floorOf_4 ?_
  refine rx_lshl C dX11_floorOf_5 ?_
  refine rx_lneg C dX11_floorOf_6 ?_
  refine rx_nml hm (fun v3_1 ev3_1 hm => ?_)
  refine rx_lstore_n (lv1 := [(3, .long v3_1), (0, .ref v0), (1, .int v1), (2, .int v2)]) C dX11_floorOf_7 (by decide) rfl ?_
  refine rx_lconst (v := 1) C dX11_floorOf_8 rfl ?_
  refine rx_bipush (v := 28) C dX11_floorOf_9 rfl ?_
  refine rx_iload_n C 3 dX11_floorOf_11 rfl ?_
  refine rx_iadd C dX11_floorOf_12 ?_
  refine rx_lshl C dX11_floorOf_13 ?_
  refine rx_nml hm (fun v5_2 ev5_2 hm => ?_)
  refine rx_lstore (lv1 := [(5, .long v5_2), (3, .long v3_1), (0, .ref v0), (1, .int v1), (2, .int v2)]) C dX11_floorOf_14 (by decide) rfl ?_
  refine rx_lv [2, 3, 4, 1, 0] rfl ?_
  refine lw_Mod_floorOf_16 hG hll C v0 m_v0 k_v0 v1 v2 _ _ _ _ _ hm (fun v3_11 σ_12 hm => ?_)
  refine rx_lload_n C 0 dX11_floorOf_59 rfl ?_
  exact rx_lret C dX11_floorOf_60 hm
def l_Mod_hasHump_2 (fu : Nat) (N : Nat → Nat) (v0 : Nat) (v1 : Int32) (v2 : Int32) (σ : rr_M) : Nat → Int32 → (Int32 → Option (Int32)) → Option (Int32)
  | 0, _, _ => none
  | n + 1, v3, kk =>
    if v2 ≤ v3 then (kk v3) else
    Option.bind (f_Mod_at N v0 v1 (v3 + 1) σ) fun r_2 =>
    Option.bind (f_Mod_at N v0 v1 v3 σ) fun r_4 =>
    if r_2 < r_4 then (kk v3) else
    rr_lt (v3 + 1) fun v3_7 =>
    l_Mod_hasHump_2 fu N v0 v1 v2 σ n v3_7 kk
theorem lw_Mod_hasHump_2 {X : rr_X} {G : rr_G} {l : Launch} {fu : Nat} (hG : G.2.2.1.Nodup) (hll : X.2.1 = l) (C : rr_C X G cX11_hasHump 4 "RootRowsModel" (some .boolean) 1 22) {r : Int32}  (σ : rr_M) (v0 : Nat) (m_v0 : v0 ∈ G.2.2.1) (k_v0 : G.2.2.2.1 v0 = 9) (v1 : Int32) (v2 : Int32) : ∀ (n : Nat) (v3 : Int32) (K : Int32 → Option (Int32)), l_Mod_hasHump_2 fu G.2.2.2.2 v0 v1 v2 σ n v3 K = some r → (∀ (w3 : Int32), K w3 = some r → rr_J X G 4 (rr_E X G σ (some (.int r))) σ 31 [(0, .ref v0), (1, .int v1), (2, .int v2), (3, .int w3)] []) → rr_J X G 4 (rr_E X G σ (some (.int r))) σ 2 [(0, .ref v0), (1, .int v1), (2, .int v2), (3, .int v3)] [] := by
  intro n
  induction n with
  | zero =>
    intro v3 K hm
    cases hm
  | succ n ih =>
    intro v3 K hm hk
    unfold l_Mod_hasHump_2 at hm
    refine rx_iload_n C 3 dX11_hasHump_2 rfl ?_
    refine rx_iload_n C 2 dX11_hasHump_3 rfl ?_
    refine rx_icmp_ge (tgt := 31) C dX11_hasHump_4 (by decide) hm (fun h_1 hm => ?_) (fun h_1 hm => ?_)
    · refine rx_lv [0, 1, 2, 3] rfl ?_
      exact hk _ hm
    refine rx_aload_n C 0 dX11_hasHump_7 rfl ?_
    refine rx_iload_n C 1 dX11_hasHump_8 rfl ?_
    refine rx_iload_n C 3 dX11_hasHump_9 rfl ?_
    refine rx_iconst (v := 1) C dX11_hasHump_10 rfl ?_
    refine rx_iadd C dX11_hasHump_11 ?_
    obtain ⟨r_2, hc_3, hm⟩ := rr_b0_some hm
    refine rr_callV (rest := []) (st1 := [.long r_2]) C 9 hll (c_Mod_at l G hG v0 m_v0 k_v0 v1 (v3 + 1) σ _ hc_3) q_950 q_952 qs_44 q_11 q_953 hd_Mod_at ⟨_, rfl, rfl⟩ (by decide) m_v0 k_v0 ⟨by decide, by decide⟩ rfl rfl (Nat.le_of_ble_eq_true rfl) rfl dX11_hasHump_12 ?_
    refine rx_aload_n C 0 dX11_hasHump_15 rfl ?_
    refine rx_iload_n C 1 dX11_hasHump_16 rfl ?_
    refine rx_iload_n C 3 dX11_hasHump_17 rfl ?_
    obtain ⟨r_4, hc_5, hm⟩ := rr_b0_some hm
    refine rr_callV (rest := [.long r_2]) (st1 := [.long r_4, .long r_2]) C 9 hll (c_Mod_at l G hG v0 m_v0 k_v0 v1 v3 σ _ hc_5) q_950 q_952 qs_44 q_11 q_953 hd_Mod_at ⟨_, rfl, rfl⟩ (by decide) m_v0 k_v0 ⟨by decide, by decide⟩ rfl rfl (Nat.le_of_ble_eq_true rfl) rfl dX11_hasHump_18 ?_
    refine rx_lcmp_lt (tgt := 31) C dX11_hasHump_21 dX11_hasHump_22 (by decide) hm (fun h_6 hm => ?_) (fun h_6 hm => ?_)
    · refine rx_lv [0, 1, 2, 3] rfl ?_
      exact hk _ hm
    refine rx_iinc (d := 1) (lv1 := fun v => [(3, .int v), (0, .ref v0), (1, .int v1), (2, .int v2)]) C 3 dX11_hasHump_25 hm rfl rfl (by decide) (fun _ => rfl) (fun v3_7 hm => ?_)
    refine rx_goto (tgt := 2) C dX11_hasHump_28 (by decide) ?_
    refine rx_lv [1, 2, 3, 0] rfl ?_
    exact ih _ _ hm hk
def l_Mod_hasHump_31 (fu : Nat) (N : Nat → Nat) (v0 : Nat) (v1 : Int32) (v2 : Int32) (σ : rr_M) : Nat → Int32 → (Int32 → Option (Int32)) → Option (Int32)
  | 0, _, _ => none
  | n + 1, v3, kk =>
    if v2 ≤ v3 then (kk v3) else
    Option.bind (f_Mod_at N v0 v1 (v3 + 1) σ) fun r_10 =>
    Option.bind (f_Mod_at N v0 v1 v3 σ) fun r_12 =>
    if r_12 < r_10 then (kk v3) else
    rr_lt (v3 + 1) fun v3_15 =>
    l_Mod_hasHump_31 fu N v0 v1 v2 σ n v3_15 kk
theorem lw_Mod_hasHump_31 {X : rr_X} {G : rr_G} {l : Launch} {fu : Nat} (hG : G.2.2.1.Nodup) (hll : X.2.1 = l) (C : rr_C X G cX11_hasHump 4 "RootRowsModel" (some .boolean) 1 22) {r : Int32}  (σ : rr_M) (v0 : Nat) (m_v0 : v0 ∈ G.2.2.1) (k_v0 : G.2.2.2.1 v0 = 9) (v1 : Int32) (v2 : Int32) : ∀ (n : Nat) (v3 : Int32) (K : Int32 → Option (Int32)), l_Mod_hasHump_31 fu G.2.2.2.2 v0 v1 v2 σ n v3 K = some r → (∀ (w3 : Int32), K w3 = some r → rr_J X G 4 (rr_E X G σ (some (.int r))) σ 60 [(2, .int v2), (3, .int w3)] []) → rr_J X G 4 (rr_E X G σ (some (.int r))) σ 31 [(0, .ref v0), (1, .int v1), (2, .int v2), (3, .int v3)] [] := by
  intro n
  induction n with
  | zero =>
    intro v3 K hm
    cases hm
  | succ n ih =>
    intro v3 K hm hk
    unfold l_Mod_hasHump_31 at hm
    refine rx_iload_n C 3 dX11_hasHump_31 rfl ?_
    refine rx_iload_n C 2 dX11_hasHump_32 rfl ?_
    refine rx_icmp_ge (tgt := 60) C dX11_hasHump_33 (by decide) hm (fun h_9 hm => ?_) (fun h_9 hm => ?_)
    · refine rx_lv [2, 3] rfl ?_
      exact hk _ hm
    refine rx_aload_n C 0 dX11_hasHump_36 rfl ?_
    refine rx_iload_n C 1 dX11_hasHump_37 rfl ?_
    refine rx_iload_n C 3 dX11_hasHump_38 rfl ?_
    refine rx_iconst (v := 1) C dX11_hasHump_39 rfl ?_
    refine rx_iadd C dX11_hasHump_40 ?_
    obtain ⟨r_10, hc_11, hm⟩ := rr_b0_some hm
    refine rr_callV (rest := []) (st1 := [.long r_10]) C 9 hll (c_Mod_at l G hG v0 m_v0 k_v0 v1 (v3 + 1) σ _ hc_11) q_950 q_952 qs_44 q_11 q_953 hd_Mod_at ⟨_, rfl, rfl⟩ (by decide) m_v0 k_v0 ⟨by decide, by decide⟩ rfl rfl (Nat.le_of_ble_eq_true rfl) rfl dX11_hasHump_41 ?_
    refine rx_aload_n C 0 dX11_hasHump_44 rfl ?_
    refine rx_iload_n C 1 dX11_hasHump_45 rfl ?_
    refine rx_iload_n C 3 dX11_hasHump_46 rfl ?_
    obtain ⟨r_12, hc_13, hm⟩ := rr_b0_some hm
    refine rr_callV (rest := [.long r_10]) (st1 := [.long r_12, .long r_10]) C 9 hll (c_Mod_at l G hG v0 m_v0 k_v0 v1 v3 σ _ hc_13) q_950 q_952 qs_44 q_11 q_953 hd_Mod_at ⟨_, rfl, rfl⟩ (by decide) m_v0 k_v0 ⟨by decide, by decide⟩ rfl rfl (Nat.le_of_ble_eq_true rfl) rfl dX11_hasHump_47 ?_
    refine rx_lcmp_gt (tgt := 60) C dX11_hasHump_50 dX11_hasHump_51 (by decide) hm (fun h_14 hm => ?_) (fun h_14 hm => ?_)
    · refine rx_lv [2, 3] rfl ?_
      exact hk _ hm
    refine rx_iinc (d := 1) (lv1 := fun v => [(3, .int v), (0, .ref v0), (1, .int v1), (2, .int v2)]) C 3 dX11_hasHump_54 hm rfl rfl (by decide) (fun _ => rfl) (fun v3_15 hm => ?_)
    refine rx_goto (tgt := 31) C dX11_hasHump_57 (by decide) ?_
    refine rx_lv [1, 2, 3, 0] rfl ?_
    exact ih _ _ hm hk
def f_Mod_hasHump (fu : Nat) (N : Nat → Nat) (v0 : Nat) (v1 : Int32) (v2 : Int32) (σ : rr_M) : Option (Int32) :=
    l_Mod_hasHump_2 fu N v0 v1 v2 σ fu 0 (fun v3_8 =>
    l_Mod_hasHump_31 fu N v0 v1 v2 σ fu v3_8 (fun v3_16 =>
    if v3_16 = v2 then (if rr_b1 1 then some (1) else none) else
    if rr_b1 0 then some (0) else none))
theorem c_Mod_hasHump (l : Launch) (G : rr_G) (hG : G.2.2.1.Nodup) (fu : Nat) (v0 : Nat) (m_v0 : v0 ∈ G.2.2.1) (k_v0 : G.2.2.2.1 v0 = 9) (v1 : Int32) (v2 : Int32) (σ : rr_M) (r : Int32) (hm : f_Mod_hasHump fu G.2.2.2.2 v0 v1 v2 σ = some r) : rr_Met l G yX11_hasHump cX11_hasHump 4 (some .boolean) 1 22 [.ref v0, .int v1, .int v2] σ σ (some (.int r)) := by
  refine rr_enter (lv0 := [(0, .ref v0), (1, .int v1), (2, .int v2)]) hp_Mod_hasHump hG (Nat.le_of_ble_eq_true rfl) rfl (fun X hll C => ?_)
  replace C : rr_C X G cX11_hasHump 4 "RootRowsModel" (some .boolean) 1 22 := C
  unfold f_Mod_hasHump at hm
  refine rx_iconst (v := 0) C dX11_hasHump_0 rfl ?_
  refine rx_istore_n (lv1 := [(3, .int 0), (0, .ref v0), (1, .int v1), (2, .int v2)]) C dX11_hasHump_1 (by decide) rfl ?_
  refine rx_lv [1, 2, 3, 0] rfl ?_
  refine lw_Mod_hasHump_2 hG hll C σ v0 m_v0 k_v0 v1 v2 _ _ _ hm (fun v3_8 hm => ?_)
  refine rx_lv [0, 1, 2, 3] rfl ?_
  refine lw_Mod_hasHump_31 hG hll C σ v0 m_v0 k_v0 v1 v2 _ _ _ hm (fun v3_16 hm => ?_)
  refine rx_iload_n C 1 dX11_hasHump_60 rfl ?_
  refine rx_iload_n C 0 dX11_hasHump_61 rfl ?_
  refine rx_icmp_ne (tgt := 69) C dX11_hasHump_62 (by decide) hm (fun h_17 hm => ?_) (fun h_17 hm => ?_)
  · refine rx_iconst (v := 0) C dX11_hasHump_69 rfl ?_
    exact rx_zretR C dX11_hasHump_70 hm
  refine rx_iconst (v := 1) C dX11_hasHump_65 rfl ?_
  refine rx_goto (tgt := 70) C dX11_hasHump_66 (by decide) ?_
  exact rx_zretR C dX11_hasHump_70 hm
def l_Mod_here_0 (fu : Nat) (N : Nat → Nat) (v0 : Nat) : Nat → rr_M → (rr_M → Option (Int32 × rr_M)) → Option (Int32 × rr_M)
  | 0, _, _ => none
  | n + 1, σ, kk =>
    if (mg_i σ v0 16) ≤ (mg_i σ v0 17) then (kk σ) else
    rr_lt (mg_r σ v0 13) fun p_2 =>
    (if rr_ix (mg_i σ v0 17) (N p_2) then
    rr_jn (fun (_ : Unit) =>
    rr_lt (ms_i σ v0 17 ((mg_i σ v0 17) + 1)) fun σ_3 =>
    l_Mod_here_0 fu N v0 n σ_3 kk) fun j39 =>
    if (mg_i σ p_2 (rr_n (mg_i σ v0 17))) = 32 then (j39 ()) else
    rr_lt (mg_r σ v0 13) fun p_5 =>
    (if rr_ix (mg_i σ v0 17) (N p_5) then
    if (mg_i σ p_5 (rr_n (mg_i σ v0 17))) = 10 then (j39 ()) else
    kk σ else none) else none)
theorem lw_Mod_here_0 {X : rr_X} {G : rr_G} {l : Launch} {fu : Nat} (hG : G.2.2.1.Nodup) (hll : X.2.1 = l) (C : rr_C X G cX11_here 1 "RootRowsModel" (some .int) 0 0) {r : Int32} {σr : rr_M} (v0 : Nat) (m_v0 : v0 ∈ G.2.2.1) (k_v0 : G.2.2.2.1 v0 = 9) : ∀ (n : Nat) (σ : rr_M) (K : rr_M → Option (Int32 × rr_M)), l_Mod_here_0 fu G.2.2.2.2 v0 n σ K = some (r, σr) → (∀ (σ1 : rr_M), K σ1 = some (r, σr) → rr_J X G 1 (rr_E X G σr (some (.int r))) σ1 52 [(0, .ref v0)] []) → rr_J X G 1 (rr_E X G σr (some (.int r))) σ 0 [(0, .ref v0)] [] := by
  intro n
  induction n with
  | zero =>
    intro σ K hm
    cases hm
  | succ n ih =>
    intro σ K hm hk
    unfold l_Mod_here_0 at hm
    refine rx_aload_n C 0 dX11_here_0 rfl ?_
    refine gf_858 C m_v0 k_v0 dX11_here_1 ?_
    refine rx_aload_n C 0 dX11_here_4 rfl ?_
    refine gf_857 C m_v0 k_v0 dX11_here_5 ?_
    refine rx_icmp_ge (tgt := 52) C dX11_here_8 (by decide) hm (fun h_1 hm => ?_) (fun h_1 hm => ?_)
    · refine rx_lv [0] rfl ?_
      exact hk _ hm
    refine rx_aload_n C 0 dX11_here_11 rfl ?_
    refine gf_854 C m_v0 k_v0 dX11_here_12 hm (fun p_2 m_p_2 k_p_2 hm => ?_)
    refine rx_aload_n C 0 dX11_here_15 rfl ?_
    refine gf_858 C m_v0 k_v0 dX11_here_16 ?_
    refine rx_bald C m_p_2 k_p_2 dX11_here_19 hm (fun hm => ?_)
    refine rx_bipush (v := 32) C dX11_here_20 rfl ?_
    refine rr_jn1 hm (fun j39 ej39 hm => ?_)
    have hj39 : ∀ (uu : Unit), j39 uu = some (r, σr) → rr_J X G 1 (rr_E X G σr (some (.int r))) σ 39 [(0, .ref v0)] [] := by
      intro uu hm
      replace hm := ej39 _ hm
      refine rx_aload_n C 0 dX11_here_39 rfl ?_
      refine rx_dup C dX11_here_40 rfl ?_
      refine gf_858 C m_v0 k_v0 dX11_here_41 ?_
      refine rx_iconst (v := 1) C dX11_here_44 rfl ?_
      refine rx_iadd C dX11_here_45 ?_
      refine pf_858 C m_v0 k_v0 dX11_here_46 hm (fun σ_3 hm => ?_)
      refine rx_goto (tgt := 0) C dX11_here_49 (by decide) ?_
      refine rx_lv [0] rfl ?_
      exact ih _ _ hm hk
    refine rx_icmp_eq (tgt := 39) C dX11_here_22 (by decide) hm (fun h_4 hm => ?_) (fun h_4 hm => ?_)
    · refine rx_lv [0] rfl ?_
      exact hj39 () hm
    refine rx_aload_n C 0 dX11_here_25 rfl ?_
    refine gf_854 C m_v0 k_v0 dX11_here_26 hm (fun p_5 m_p_5 k_p_5 hm => ?_)
    refine rx_aload_n C 0 dX11_here_29 rfl ?_
    refine gf_858 C m_v0 k_v0 dX11_here_30 ?_
    refine rx_bald C m_p_5 k_p_5 dX11_here_33 hm (fun hm => ?_)
    refine rx_bipush (v := 10) C dX11_here_34 rfl ?_
    refine rx_icmp_ne (tgt := 52) C dX11_here_36 (by decide) hm (fun h_6 hm => ?_) (fun h_6 hm => ?_)
    · refine rx_lv [0] rfl ?_
      exact hk _ hm
    refine rx_lv [0] rfl ?_
    exact hj39 () hm
def f_Mod_here (fu : Nat) (N : Nat → Nat) (v0 : Nat) (σ : rr_M) : Option (Int32 × rr_M) :=
    l_Mod_here_0 fu N v0 fu σ (fun σ_7 =>
    if (mg_i σ_7 v0 16) ≤ (mg_i σ_7 v0 17) then (some ((-1), σ_7)) else
    rr_lt (mg_r σ_7 v0 13) fun p_9 =>
    (if rr_ix (mg_i σ_7 v0 17) (N p_9) then
    some ((mg_i σ_7 p_9 (rr_n (mg_i σ_7 v0 17))) &&& 255, σ_7) else none))
theorem c_Mod_here (l : Launch) (G : rr_G) (hG : G.2.2.1.Nodup) (fu : Nat) (v0 : Nat) (m_v0 : v0 ∈ G.2.2.1) (k_v0 : G.2.2.2.1 v0 = 9) (σ : rr_M) (r : Int32) (σr : rr_M) (hm : f_Mod_here fu G.2.2.2.2 v0 σ = some (r, σr)) : rr_Met l G yX11_here cX11_here 1 (some .int) 0 0 [.ref v0] σ σr (some (.int r)) := by
  refine rr_enter (lv0 := [(0, .ref v0)]) hp_Mod_here hG (Nat.le_of_ble_eq_true rfl) rfl (fun X hll C => ?_)
  replace C : rr_C X G cX11_here 1 "RootRowsModel" (some .int) 0 0 := C
  unfold f_Mod_here at hm
  refine rx_lv [0] rfl ?_
  refine lw_Mod_here_0 hG hll C v0 m_v0 k_v0 _ _ _ hm (fun σ_7 hm => ?_)
  refine rx_aload_n C 0 dX11_here_52 rfl ?_
  refine gf_858 C m_v0 k_v0 dX11_here_53 ?_
  refine rx_aload_n C 0 dX11_here_56 rfl ?_
  refine gf_857 C m_v0 k_v0 dX11_here_57 ?_
  refine rx_icmp_ge (tgt := 79) C dX11_here_60 (by decide) hm (fun h_8 hm => ?_) (fun h_8 hm => ?_)
  · refine rx_iconst (v := (-1)) C dX11_here_79 rfl ?_
    exact rx_iret C dX11_here_80 hm
  refine rx_aload_n C 0 dX11_here_63 rfl ?_
  refine gf_854 C m_v0 k_v0 dX11_here_64 hm (fun p_9 m_p_9 k_p_9 hm => ?_)
  refine rx_aload_n C 0 dX11_here_67 rfl ?_
  refine gf_858 C m_v0 k_v0 dX11_here_68 ?_
  refine rx_bald C m_p_9 k_p_9 dX11_here_71 hm (fun hm => ?_)
  refine rx_sipush (v := 255) C dX11_here_72 rfl ?_
  refine rx_iand C dX11_here_75 ?_
  refine rx_goto (tgt := 80) C dX11_here_76 (by decide) ?_
  exact rx_iret C dX11_here_80 hm
def l_Mod_holes_8 (fu : Nat) (N : Nat → Nat) (v0 : Nat) (v1 : Int32) (v2 : Int32) (σ : rr_M) : Nat → Int32 → Int32 → Int32 → (Int32 → Option (Int32)) → Option (Int32)
  | 0, _, _, _, _ => none
  | n + 1, v3, v4, v5, kk =>
    if v2 < v5 then (kk v3) else
    rr_jn (fun (t_2 : Int32) =>
    rr_lt (v3 ||| t_2) fun v3_3 =>
    rr_jn (fun (t_4 : Int32) =>
    rr_lt (v5 + 1) fun v5_5 =>
    l_Mod_holes_8 fu N v0 v1 v2 σ n v3_3 t_4 v5_5 kk) fun j64 =>
    rr_jn (fun (_ : Unit) =>
    j64 1) fun j59 =>
    if v4 = 0 then (Option.bind (f_Mod_at N v0 v1 v5 σ) fun r_7 =>
    if r_7 = 0 then (j64 0) else
    j59 ()) else
    j59 ()) fun j40 =>
    rr_jn (fun (_ : Unit) =>
    j40 0) fun j39 =>
    if v4 = 0 then (j39 ()) else
    Option.bind (f_Mod_at N v0 v1 v5 σ) fun r_11 =>
    if r_11 = 0 then (j40 (1 <<< (v5 &&& 31))) else
    j39 ()
theorem lw_Mod_holes_8 {X : rr_X} {G : rr_G} {l : Launch} {fu : Nat} (hG : G.2.2.1.Nodup) (hll : X.2.1 = l) (C : rr_C X G cX11_holes 6 "RootRowsModel" (some .int) 1 22) {r : Int32}  (σ : rr_M) (v0 : Nat) (m_v0 : v0 ∈ G.2.2.1) (k_v0 : G.2.2.2.1 v0 = 9) (v1 : Int32) (v2 : Int32) : ∀ (n : Nat) (v3 : Int32) (v4 : Int32) (v5 : Int32) (K : Int32 → Option (Int32)), l_Mod_holes_8 fu G.2.2.2.2 v0 v1 v2 σ n v3 v4 v5 K = some r → (∀ (w3 : Int32), K w3 = some r → rr_J X G 6 (rr_E X G σ (some (.int r))) σ 72 [(3, .int w3)] []) → rr_J X G 6 (rr_E X G σ (some (.int r))) σ 8 [(0, .ref v0), (1, .int v1), (2, .int v2), (3, .int v3), (4, .int v4), (5, .int v5)] [] := by
  intro n
  induction n with
  | zero =>
    intro v3 v4 v5 K hm
    cases hm
  | succ n ih =>
    intro v3 v4 v5 K hm hk
    unfold l_Mod_holes_8 at hm
    refine rx_iload C 5 dX11_holes_8 rfl ?_
    refine rx_iload_n C 2 dX11_holes_10 rfl ?_
    refine rx_icmp_gt (tgt := 72) C dX11_holes_11 (by decide) hm (fun h_1 hm => ?_) (fun h_1 hm => ?_)
    · refine rx_lv [3] rfl ?_
      exact hk _ hm
    refine rx_iload_n C 3 dX11_holes_14 rfl ?_
    refine rx_iload C 4 dX11_holes_15 rfl ?_
    refine rr_jn1 hm (fun j40 ej40 hm => ?_)
    have hj40 : ∀ (t_2 : Int32), j40 t_2 = some r → rr_J X G 6 (rr_E X G σ (some (.int r))) σ 40 [(0, .ref v0), (1, .int v1), (2, .int v2), (3, .int v3), (4, .int v4), (5, .int v5)] [.int t_2, .int v3] := by
      intro t_2 hm
      replace hm := ej40 _ hm
      refine rx_ior C dX11_holes_40 ?_
      refine rx_nmi hm (fun v3_3 ev3_3 hm => ?_)
      refine rx_istore_n (lv1 := [(3, .int v3_3), (0, .ref v0), (1, .int v1), (2, .int v2), (4, .int v4), (5, .int v5)]) C dX11_holes_41 (by decide) rfl ?_
      refine rx_iload C 4 dX11_holes_42 rfl ?_
      refine rr_jn1 hm (fun j64 ej64 hm => ?_)
      have hj64 : ∀ (t_4 : Int32), j64 t_4 = some r → rr_J X G 6 (rr_E X G σ (some (.int r))) σ 64 [(0, .ref v0), (1, .int v1), (2, .int v2), (3, .int v3_3), (4, .int v4), (5, .int v5)] [.int t_4] := by
        intro t_4 hm
        replace hm := ej64 _ hm
        refine rx_istore (lv1 := [(4, .int t_4), (0, .ref v0), (1, .int v1), (2, .int v2), (3, .int v3_3), (5, .int v5)]) C dX11_holes_64 (by decide) rfl ?_
        refine rx_iinc (d := 1) (lv1 := fun v => [(5, .int v), (4, .int t_4), (0, .ref v0), (1, .int v1), (2, .int v2), (3, .int v3_3)]) C 5 dX11_holes_66 hm rfl rfl (by decide) (fun _ => rfl) (fun v5_5 hm => ?_)
        refine rx_goto (tgt := 8) C dX11_holes_69 (by decide) ?_
        refine rx_lv [2, 3, 4, 5, 1, 0] rfl ?_
        exact ih _ _ _ _ hm hk
      refine rr_jn1 hm (fun j59 ej59 hm => ?_)
      have hj59 : ∀ (uu : Unit), j59 uu = some r → rr_J X G 6 (rr_E X G σ (some (.int r))) σ 59 [(0, .ref v0), (1, .int v1), (2, .int v2), (3, .int v3_3), (4, .int v4), (5, .int v5)] [] := by
        intro uu hm
        replace hm := ej59 _ hm
        refine rx_iconst (v := 1) C dX11_holes_59 rfl ?_
        refine rx_goto (tgt := 64) C dX11_holes_60 (by decide) ?_
        refine rx_lv [0, 1, 2, 3, 4, 5] rfl ?_
        exact hj64 _ hm
      refine rx_if_ne (tgt := 59) C dX11_holes_44 (by decide) hm (fun h_6 hm => ?_) (fun h_6 hm => ?_)
      · refine rx_lv [1, 2, 3, 0, 4, 5] rfl ?_
        exact hj59 () hm
      refine rx_aload_n C 1 dX11_holes_47 rfl ?_
      refine rx_iload_n C 2 dX11_holes_48 rfl ?_
      refine rx_iload C 5 dX11_holes_49 rfl ?_
      obtain ⟨r_7, hc_8, hm⟩ := rr_b0_some hm
      refine rr_callV (rest := []) (st1 := [.long r_7]) C 9 hll (c_Mod_at l G hG v0 m_v0 k_v0 v1 v5 σ _ hc_8) q_950 q_952 qs_44 q_11 q_953 hd_Mod_at ⟨_, rfl, rfl⟩ (by decide) m_v0 k_v0 ⟨by decide, by decide⟩ rfl rfl (Nat.le_of_ble_eq_true rfl) rfl dX11_holes_51 ?_
      refine rx_lconst (v := 0) C dX11_holes_54 rfl ?_
      refine rx_lcmp_eq (tgt := 63) C dX11_holes_55 dX11_holes_56 (by decide) hm (fun h_9 hm => ?_) (fun h_9 hm => ?_)
      · refine rx_iconst (v := 0) C dX11_holes_63 rfl ?_
        refine rx_lv [1, 2, 3, 0, 4, 5] rfl ?_
        exact hj64 _ hm
      refine rx_lv [1, 2, 3, 0, 4, 5] rfl ?_
      exact hj59 () hm
    refine rr_jn1 hm (fun j39 ej39 hm => ?_)
    have hj39 : ∀ (uu : Unit), j39 uu = some r → rr_J X G 6 (rr_E X G σ (some (.int r))) σ 39 [(0, .ref v0), (1, .int v1), (2, .int v2), (3, .int v3), (4, .int v4), (5, .int v5)] [.int v3] := by
      intro uu hm
      replace hm := ej39 _ hm
      refine rx_iconst (v := 0) C dX11_holes_39 rfl ?_
      refine rx_lv [0, 1, 2, 3, 4, 5] rfl ?_
      exact hj40 _ hm
    refine rx_if_eq (tgt := 39) C dX11_holes_17 (by decide) hm (fun h_10 hm => ?_) (fun h_10 hm => ?_)
    · refine rx_lv [0, 1, 2, 3, 4, 5] rfl ?_
      exact hj39 () hm
    refine rx_aload_n C 0 dX11_holes_20 rfl ?_
    refine rx_iload_n C 1 dX11_holes_21 rfl ?_
    refine rx_iload C 5 dX11_holes_22 rfl ?_
    obtain ⟨r_11, hc_12, hm⟩ := rr_b0_some hm
    refine rr_callV (rest := [.int v3]) (st1 := [.long r_11, .int v3]) C 9 hll (c_Mod_at l G hG v0 m_v0 k_v0 v1 v5 σ _ hc_12) q_950 q_952 qs_44 q_11 q_953 hd_Mod_at ⟨_, rfl, rfl⟩ (by decide) m_v0 k_v0 ⟨by decide, by decide⟩ rfl rfl (Nat.le_of_ble_eq_true rfl) rfl dX11_holes_24 ?_
    refine rx_lconst (v := 0) C dX11_holes_27 rfl ?_
    refine rx_lcmp_ne (tgt := 39) C dX11_holes_28 dX11_holes_29 (by decide) hm (fun h_13 hm => ?_) (fun h_13 hm => ?_)
    · refine rx_lv [0, 1, 2, 3, 4, 5] rfl ?_
      exact hj39 () hm
    refine rx_iconst (v := 1) C dX11_holes_32 rfl ?_
    refine rx_iload C 5 dX11_holes_33 rfl ?_
    refine rx_ishl C dX11_holes_35 ?_
    refine rx_goto (tgt := 40) C dX11_holes_36 (by decide) ?_
    refine rx_lv [0, 1, 2, 3, 4, 5] rfl ?_
    exact hj40 _ hm
def f_Mod_holes (fu : Nat) (N : Nat → Nat) (v0 : Nat) (v1 : Int32) (v2 : Int32) (σ : rr_M) : Option (Int32) :=
    l_Mod_holes_8 fu N v0 v1 v2 σ fu 0 0 0 (fun v3_14 =>
    some (v3_14))
theorem c_Mod_holes (l : Launch) (G : rr_G) (hG : G.2.2.1.Nodup) (fu : Nat) (v0 : Nat) (m_v0 : v0 ∈ G.2.2.1) (k_v0 : G.2.2.2.1 v0 = 9) (v1 : Int32) (v2 : Int32) (σ : rr_M) (r : Int32) (hm : f_Mod_holes fu G.2.2.2.2 v0 v1 v2 σ = some r) : rr_Met l G yX11_holes cX11_holes 6 (some .int) 1 22 [.ref v0, .int v1, .int v2] σ σ (some (.int r)) := by
  refine rr_enter (lv0 := [(0, .ref v0), (1, .int v1), (2, .int v2)]) hp_Mod_holes hG (Nat.le_of_ble_eq_true rfl) rfl (fun X hll C => ?_)
  replace C : rr_C X G cX11_holes 6 "RootRowsModel" (some .int) 1 22 := C
  unfold f_Mod_holes at hm
  refine rx_iconst (v := 0) C dX11_holes_0 rfl ?_
  refine rx_istore_n (lv1 := [(3, .int 0), (0, .ref v0), (1, .int v1), (2, .int v2)]) C dX11_holes_1 (by decide) rfl ?_
  refine rx_iconst (v := 0) C dX11_holes_2 rfl ?_
  refine rx_istore (lv1 := [(4, .int 0), (3, .int 0), (0, .ref v0), (1, .int v1), (2, .int v2)]) C dX11_holes_3 (by decide) rfl ?_
  refine rx_iconst (v := 0) C dX11_holes_5 rfl ?_
  refine rx_istore (lv1 := [(5, .int 0), (4, .int 0), (3, .int 0), (0, .ref v0), (1, .int v1), (2, .int v2)]) C dX11_holes_6 (by decide) rfl ?_
  refine rx_lv [3, 4, 5, 2, 1, 0] rfl ?_
  refine lw_Mod_holes_8 hG hll C σ v0 m_v0 k_v0 v1 v2 _ _ _ _ _ hm (fun v3_14 hm => ?_)
  refine rx_iload_n C 0 dX11_holes_72 rfl ?_
  exact rx_iretR C dX11_holes_73 hm
def f_Mod_isDigit (fu : Nat) (N : Nat → Nat) (v0 : Nat) (σ : rr_M) : Option (Int32 × rr_M) :=
    rr_bd (f_Mod_here fu N v0 σ) fun r_1 σ_2 =>
    Option.bind (f_Mod_isIn r_1.toInt64 48 57) fun r_4 =>
    if rr_b1 r_4 then some (r_4, σ_2) else none
theorem c_Mod_isDigit (l : Launch) (G : rr_G) (hG : G.2.2.1.Nodup) (fu : Nat) (v0 : Nat) (m_v0 : v0 ∈ G.2.2.1) (k_v0 : G.2.2.2.1 v0 = 9) (σ : rr_M) (r : Int32) (σr : rr_M) (hm : f_Mod_isDigit fu G.2.2.2.2 v0 σ = some (r, σr)) : rr_Met l G yX11_isDigit cX11_isDigit 1 (some .boolean) 1 25 [.ref v0] σ σr (some (.int r)) := by
  refine rr_enter (lv0 := [(0, .ref v0)]) hp_Mod_isDigit hG (Nat.le_of_ble_eq_true rfl) rfl (fun X hll C => ?_)
  replace C : rr_C X G cX11_isDigit 1 "RootRowsModel" (some .boolean) 1 25 := C
  unfold f_Mod_isDigit at hm
  refine rx_aload_n C 0 dX11_isDigit_0 rfl ?_
  obtain ⟨r_1, σ_2, hc_3, hm⟩ := rr_bd_some hm
  refine rr_callV (rest := []) (st1 := [.int r_1]) C 9 hll (c_Mod_here l G hG fu v0 m_v0 k_v0 σ _ _ hc_3) q_925 q_927 qs_39 q_11 q_928 hd_Mod_here ⟨_, rfl, rfl⟩ (by decide) m_v0 k_v0 ⟨by decide, by decide⟩ rfl rfl (Nat.le_of_ble_eq_true rfl) rfl dX11_isDigit_1 ?_
  refine rx_i2l C dX11_isDigit_4 ?_
  refine rx_ldc2 C q_937 dX11_isDigit_5 ?_
  refine rx_ldc2 C q_938 dX11_isDigit_8 ?_
  obtain ⟨r_4, hc_5, hm⟩ := rr_b0_some hm
  refine rr_callS (rest := []) (st1 := [.int r_4]) C hll (c_Mod_isIn l G hG r_1.toInt64 48 57 σ_2 _ hc_5) q_909 q_910 q_11 q_911 hd_Mod_isIn ⟨by decide, by decide⟩ rfl rfl (Nat.le_of_ble_eq_true rfl) rfl dX11_isDigit_11 ?_
  exact rx_zret C dX11_isDigit_14 hm
def f_Mod_isRoot (fu : Nat) (N : Nat → Nat) (v0 : Nat) (v1 : Int32) (v2 : Int32) (σ : rr_M) : Option (Int32 × rr_M) :=
    Option.bind (f_Mod_isTray v0 v1) fun r_1 =>
    if r_1 = 0 then (if rr_b1 0 then some (0, σ) else none) else
    if 0 ≤ v2 then (rr_bd (f_Mod_lays fu N v0 v1 σ) fun _ σ_5 =>
    Option.bind (f_Mod_roots fu N v0 σ_5) fun r_7 =>
    if r_7 ≤ v2 then (if rr_b1 0 then some (0, σ_5) else none) else
    if rr_b1 1 then some (1, σ_5) else none) else
    if rr_b1 0 then some (0, σ) else none
theorem c_Mod_isRoot (l : Launch) (G : rr_G) (hG : G.2.2.1.Nodup) (fu : Nat) (v0 : Nat) (m_v0 : v0 ∈ G.2.2.1) (k_v0 : G.2.2.2.1 v0 = 9) (v1 : Int32) (v2 : Int32) (σ : rr_M) (r : Int32) (σr : rr_M) (hm : f_Mod_isRoot fu G.2.2.2.2 v0 v1 v2 σ = some (r, σr)) : rr_Met l G yX11_isRoot cX11_isRoot 3 (some .boolean) 7 181 [.ref v0, .int v1, .int v2] σ σr (some (.int r)) := by
  refine rr_enter (lv0 := [(0, .ref v0), (1, .int v1), (2, .int v2)]) hp_Mod_isRoot hG (Nat.le_of_ble_eq_true rfl) rfl (fun X hll C => ?_)
  replace C : rr_C X G cX11_isRoot 3 "RootRowsModel" (some .boolean) 7 181 := C
  unfold f_Mod_isRoot at hm
  refine rx_aload_n C 0 dX11_isRoot_0 rfl ?_
  refine rx_iload_n C 1 dX11_isRoot_1 rfl ?_
  obtain ⟨r_1, hc_2, hm⟩ := rr_b0_some hm
  refine rr_callV (rest := []) (st1 := [.int r_1]) C 9 hll (c_Mod_isTray l G hG v0 m_v0 k_v0 v1 σ _ hc_2) q_916 q_918 qs_37 q_11 q_919 hd_Mod_isTray ⟨_, rfl, rfl⟩ (by decide) m_v0 k_v0 ⟨by decide, by decide⟩ rfl rfl (Nat.le_of_ble_eq_true rfl) rfl dX11_isRoot_2 ?_
  refine rx_if_eq (tgt := 12) C dX11_isRoot_5 (by decide) hm (fun h_3 hm => ?_) (fun h_3 hm => ?_)
  · refine rx_iconst (v := 0) C dX11_isRoot_12 rfl ?_
    exact rx_zret C dX11_isRoot_13 hm
  refine rx_iload_n C 2 dX11_isRoot_8 rfl ?_
  refine rx_if_ge (tgt := 14) C dX11_isRoot_9 (by decide) hm (fun h_4 hm => ?_) (fun h_4 hm => ?_)
  · refine rx_aload_n C 0 dX11_isRoot_14 rfl ?_
    refine rx_iload_n C 1 dX11_isRoot_15 rfl ?_
    obtain ⟨_, σ_5, hc_6, hm⟩ := rr_bd_some hm
    refine rr_callV (rest := []) (st1 := []) C 9 hll (c_Mod_lays l G hG fu v0 m_v0 k_v0 v1 σ _ hc_6) q_1059 q_1061 qs_61 q_11 q_1062 hd_Mod_lays ⟨_, rfl, rfl⟩ (by decide) m_v0 k_v0 ⟨by decide, by decide⟩ rfl rfl (Nat.le_of_ble_eq_true rfl) rfl dX11_isRoot_16 ?_
    refine rx_iload_n C 2 dX11_isRoot_19 rfl ?_
    refine rx_aload_n C 0 dX11_isRoot_20 rfl ?_
    obtain ⟨r_7, hc_8, hm⟩ := rr_b0_some hm
    refine rr_callV (rest := [.int v2]) (st1 := [.int r_7, .int v2]) C 9 hll (c_Mod_roots l G hG fu v0 m_v0 k_v0 σ_5 _ hc_8) q_1107 q_1109 qs_73 q_11 q_1110 hd_Mod_roots ⟨_, rfl, rfl⟩ (by decide) m_v0 k_v0 ⟨by decide, by decide⟩ rfl rfl (Nat.le_of_ble_eq_true rfl) rfl dX11_isRoot_21 ?_
    refine rx_icmp_ge (tgt := 31) C dX11_isRoot_24 (by decide) hm (fun h_9 hm => ?_) (fun h_9 hm => ?_)
    · refine rx_iconst (v := 0) C dX11_isRoot_31 rfl ?_
      exact rx_zret C dX11_isRoot_32 hm
    refine rx_iconst (v := 1) C dX11_isRoot_27 rfl ?_
    refine rx_goto (tgt := 32) C dX11_isRoot_28 (by decide) ?_
    exact rx_zret C dX11_isRoot_32 hm
  refine rx_iconst (v := 0) C dX11_isRoot_12 rfl ?_
  exact rx_zret C dX11_isRoot_13 hm
def l_Mod_join_64 (fu : Nat) (N : Nat → Nat) (v0 : Nat) (v2 : Int32) (v3 : Int32) (v4 : Int32) (v5 : Int32) : Nat → Int32 → rr_M → (rr_M → Option (Int32 × rr_M)) → Option (Int32 × rr_M)
  | 0, _, _, _ => none
  | n + 1, v6, σ, kk =>
    if 9 ≤ v6 then (kk σ) else
    Option.bind (f_Mod_at N v0 v2 v6 σ) fun r_18 =>
    Option.bind (f_Mod_at N v0 v3 v6 σ) fun r_20 =>
    rr_bd (f_Mod_puts N v0 21 v6 ((v4.toInt64 * r_18) + (v5.toInt64 * r_20)) σ) fun _ σ_22 =>
    rr_lt (v6 + 1) fun v6_24 =>
    l_Mod_join_64 fu N v0 v2 v3 v4 v5 n v6_24 σ_22 kk
theorem lw_Mod_join_64 {X : rr_X} {G : rr_G} {l : Launch} {fu : Nat} (hG : G.2.2.1.Nodup) (hll : X.2.1 = l) (C : rr_C X G cX11_join 7 "RootRowsModel" (some .boolean) 3 66) {r : Int32} {σr : rr_M} (v0 : Nat) (m_v0 : v0 ∈ G.2.2.1) (k_v0 : G.2.2.2.1 v0 = 9) (v1 : Int32) (v2 : Int32) (v3 : Int32) (v4 : Int32) (v5 : Int32) : ∀ (n : Nat) (v6 : Int32) (σ : rr_M) (K : rr_M → Option (Int32 × rr_M)), l_Mod_join_64 fu G.2.2.2.2 v0 v2 v3 v4 v5 n v6 σ K = some (r, σr) → (∀ (σ1 : rr_M), K σ1 = some (r, σr) → rr_J X G 7 (rr_E X G σr (some (.int r))) σ1 108 [(0, .ref v0), (1, .int v1)] []) → rr_J X G 7 (rr_E X G σr (some (.int r))) σ 64 [(0, .ref v0), (1, .int v1), (2, .int v2), (3, .int v3), (4, .int v4), (5, .int v5), (6, .int v6)] [] := by
  intro n
  induction n with
  | zero =>
    intro v6 σ K hm
    cases hm
  | succ n ih =>
    intro v6 σ K hm hk
    unfold l_Mod_join_64 at hm
    refine rx_iload C 6 dX11_join_64 rfl ?_
    refine rx_bipush (v := 9) C dX11_join_66 rfl ?_
    refine rx_icmp_ge (tgt := 108) C dX11_join_68 (by decide) hm (fun h_17 hm => ?_) (fun h_17 hm => ?_)
    · refine rx_lv [0, 1] rfl ?_
      exact hk _ hm
    refine rx_aload_n C 0 dX11_join_71 rfl ?_
    refine rx_bipush (v := 21) C dX11_join_72 rfl ?_
    refine rx_iload C 6 dX11_join_74 rfl ?_
    refine rx_iload C 4 dX11_join_76 rfl ?_
    refine rx_i2l C dX11_join_78 ?_
    refine rx_aload_n C 0 dX11_join_79 rfl ?_
    refine rx_iload_n C 2 dX11_join_80 rfl ?_
    refine rx_iload C 6 dX11_join_81 rfl ?_
    obtain ⟨r_18, hc_19, hm⟩ := rr_b0_some hm
    refine rr_callV (rest := [.long v4.toInt64, .int v6, .int 21, .ref v0]) (st1 := [.long r_18, .long v4.toInt64, .int v6, .int 21, .ref v0]) C 9 hll (c_Mod_at l G hG v0 m_v0 k_v0 v2 v6 σ _ hc_19) q_950 q_952 qs_44 q_11 q_953 hd_Mod_at ⟨_, rfl, rfl⟩ (by decide) m_v0 k_v0 ⟨by decide, by decide⟩ rfl rfl (Nat.le_of_ble_eq_true rfl) rfl dX11_join_83 ?_
    refine rx_lmul C dX11_join_86 ?_
    refine rx_iload C 5 dX11_join_87 rfl ?_
    refine rx_i2l C dX11_join_89 ?_
    refine rx_aload_n C 0 dX11_join_90 rfl ?_
    refine rx_iload_n C 3 dX11_join_91 rfl ?_
    refine rx_iload C 6 dX11_join_92 rfl ?_
    obtain ⟨r_20, hc_21, hm⟩ := rr_b0_some hm
    refine rr_callV (rest := [.long v5.toInt64, .long (v4.toInt64 * r_18), .int v6, .int 21, .ref v0]) (st1 := [.long r_20, .long v5.toInt64, .long (v4.toInt64 * r_18), .int v6, .int 21, .ref v0]) C 9 hll (c_Mod_at l G hG v0 m_v0 k_v0 v3 v6 σ _ hc_21) q_950 q_952 qs_44 q_11 q_953 hd_Mod_at ⟨_, rfl, rfl⟩ (by decide) m_v0 k_v0 ⟨by decide, by decide⟩ rfl rfl (Nat.le_of_ble_eq_true rfl) rfl dX11_join_94 ?_
    refine rx_lmul C dX11_join_97 ?_
    refine rx_ladd C dX11_join_98 ?_
    obtain ⟨_, σ_22, hc_23, hm⟩ := rr_bd_some hm
    refine rr_callV (rest := []) (st1 := []) C 9 hll (c_Mod_puts l G hG v0 m_v0 k_v0 21 v6 ((v4.toInt64 * r_18) + (v5.toInt64 * r_20)) σ _ hc_23) q_921 q_923 qs_38 q_11 q_924 hd_Mod_puts ⟨_, rfl, rfl⟩ (by decide) m_v0 k_v0 ⟨by decide, by decide⟩ rfl rfl (Nat.le_of_ble_eq_true rfl) rfl dX11_join_99 ?_
    refine rx_iinc (d := 1) (lv1 := fun v => [(6, .int v), (0, .ref v0), (1, .int v1), (2, .int v2), (3, .int v3), (4, .int v4), (5, .int v5)]) C 6 dX11_join_102 hm rfl rfl (by decide) (fun _ => rfl) (fun v6_24 hm => ?_)
    refine rx_goto (tgt := 64) C dX11_join_105 (by decide) ?_
    refine rx_lv [1, 2, 3, 4, 5, 6, 0] rfl ?_
    exact ih _ _ _ hm hk
def f_Mod_join (fu : Nat) (N : Nat → Nat) (v0 : Nat) (v1 : Int32) (v2 : Int32) (v3 : Int32) (v4 : Int32) (v5 : Int32) (σ : rr_M) : Option (Int32 × rr_M) :=
    rr_lt (ms_i σ v0 0 0) fun σ_1 =>
    Option.bind (f_Mod_isTray v0 v1) fun r_2 =>
    if r_2 = 0 then (if rr_b1 0 then some (0, σ_1) else none) else
    Option.bind (f_Mod_isTray v0 v2) fun r_5 =>
    if r_5 = 0 then (if rr_b1 0 then some (0, σ_1) else none) else
    Option.bind (f_Mod_isTray v0 v3) fun r_8 =>
    if r_8 = 0 then (if rr_b1 0 then some (0, σ_1) else none) else
    Option.bind (f_Mod_isIn v4.toInt64 (-1000) 1000) fun r_11 =>
    if r_11 = 0 then (if rr_b1 0 then some (0, σ_1) else none) else
    Option.bind (f_Mod_isIn v5.toInt64 (-1000) 1000) fun r_14 =>
    if r_14 = 0 then (if rr_b1 0 then some (0, σ_1) else none) else
    l_Mod_join_64 fu N v0 v2 v3 v4 v5 fu 0 σ_1 (fun σ_25 =>
    rr_bd (f_Mod_comes fu N v0 v1 σ_25) fun r_26 σ_27 =>
    if rr_b1 r_26 then some (r_26, σ_27) else none)
theorem c_Mod_join (l : Launch) (G : rr_G) (hG : G.2.2.1.Nodup) (fu : Nat) (v0 : Nat) (m_v0 : v0 ∈ G.2.2.1) (k_v0 : G.2.2.2.1 v0 = 9) (v1 : Int32) (v2 : Int32) (v3 : Int32) (v4 : Int32) (v5 : Int32) (σ : rr_M) (r : Int32) (σr : rr_M) (hm : f_Mod_join fu G.2.2.2.2 v0 v1 v2 v3 v4 v5 σ = some (r, σr)) : rr_Met l G yX11_join cX11_join 7 (some .boolean) 3 66 [.ref v0, .int v1, .int v2, .int v3, .int v4, .int v5] σ σr (some (.int r)) := by
  refine rr_enter (lv0 := [(0, .ref v0), (1, .int v1), (2, .int v2), (3, .int v3), (4, .int v4), (5, .int v5)]) hp_Mod_join hG (Nat.le_of_ble_eq_true rfl) rfl (fun X hll C => ?_)
  replace C : rr_C X G cX11_join 7 "RootRowsModel" (some .boolean) 3 66 := C
  unfold f_Mod_join at hm
  refine rx_aload_n C 0 dX11_join_0 rfl ?_
  refine rx_iconst (v := 0) C dX11_join_1 rfl ?_
  refine pf_841 C m_v0 k_v0 dX11_join_2 hm (fun σ_1 hm => ?_)
  refine rx_aload_n C 0 dX11_join_5 rfl ?_
  refine rx_iload_n C 1 dX11_join_6 rfl ?_
  obtain ⟨r_2, hc_3, hm⟩ := rr_b0_some hm
  refine rr_callV (rest := []) (st1 := [.int r_2]) C 9 hll (c_Mod_isTray l G hG v0 m_v0 k_v0 v1 σ_1 _ hc_3) q_916 q_918 qs_37 q_11 q_919 hd_Mod_isTray ⟨_, rfl, rfl⟩ (by decide) m_v0 k_v0 ⟨by decide, by decide⟩ rfl rfl (Nat.le_of_ble_eq_true rfl) rfl dX11_join_7 ?_
  refine rx_if_eq (tgt := 59) C dX11_join_10 (by decide) hm (fun h_4 hm => ?_) (fun h_4 hm => ?_)
  · refine rx_iconst (v := 0) C dX11_join_59 rfl ?_
    exact rx_zret C dX11_join_60 hm
  refine rx_aload_n C 0 dX11_join_13 rfl ?_
  refine rx_iload_n C 2 dX11_join_14 rfl ?_
  obtain ⟨r_5, hc_6, hm⟩ := rr_b0_some hm
  refine rr_callV (rest := []) (st1 := [.int r_5]) C 9 hll (c_Mod_isTray l G hG v0 m_v0 k_v0 v2 σ_1 _ hc_6) q_916 q_918 qs_37 q_11 q_919 hd_Mod_isTray ⟨_, rfl, rfl⟩ (by decide) m_v0 k_v0 ⟨by decide, by decide⟩ rfl rfl (Nat.le_of_ble_eq_true rfl) rfl dX11_join_15 ?_
  refine rx_if_eq (tgt := 59) C dX11_join_18 (by decide) hm (fun h_7 hm => ?_) (fun h_7 hm => ?_)
  · refine rx_iconst (v := 0) C dX11_join_59 rfl ?_
    exact rx_zret C dX11_join_60 hm
  refine rx_aload_n C 0 dX11_join_21 rfl ?_
  refine rx_iload_n C 3 dX11_join_22 rfl ?_
  obtain ⟨r_8, hc_9, hm⟩ := rr_b0_some hm
  refine rr_callV (rest := []) (st1 := [.int r_8]) C 9 hll (c_Mod_isTray l G hG v0 m_v0 k_v0 v3 σ_1 _ hc_9) q_916 q_918 qs_37 q_11 q_919 hd_Mod_isTray ⟨_, rfl, rfl⟩ (by decide) m_v0 k_v0 ⟨by decide, by decide⟩ rfl rfl (Nat.le_of_ble_eq_true rfl) rfl dX11_join_23 ?_
  refine rx_if_eq (tgt := 59) C dX11_join_26 (by decide) hm (fun h_10 hm => ?_) (fun h_10 hm => ?_)
  · refine rx_iconst (v := 0) C dX11_join_59 rfl ?_
    exact rx_zret C dX11_join_60 hm
  refine rx_iload C 4 dX11_join_29 rfl ?_
  refine rx_i2l C dX11_join_31 ?_
  refine rx_ldc2 C q_979 dX11_join_32 ?_
  refine rx_ldc2 C q_980 dX11_join_35 ?_
  obtain ⟨r_11, hc_12, hm⟩ := rr_b0_some hm
  refine rr_callS (rest := []) (st1 := [.int r_11]) C hll (c_Mod_isIn l G hG v4.toInt64 (-1000) 1000 σ_1 _ hc_12) q_909 q_910 q_11 q_911 hd_Mod_isIn ⟨by decide, by decide⟩ rfl rfl (Nat.le_of_ble_eq_true rfl) rfl dX11_join_38 ?_
  refine rx_if_eq (tgt := 59) C dX11_join_41 (by decide) hm (fun h_13 hm => ?_) (fun h_13 hm => ?_)
  · refine rx_iconst (v := 0) C dX11_join_59 rfl ?_
    exact rx_zret C dX11_join_60 hm
  refine rx_iload C 5 dX11_join_44 rfl ?_
  refine rx_i2l C dX11_join_46 ?_
  refine rx_ldc2 C q_979 dX11_join_47 ?_
  refine rx_ldc2 C q_980 dX11_join_50 ?_
  obtain ⟨r_14, hc_15, hm⟩ := rr_b0_some hm
  refine rr_callS (rest := []) (st1 := [.int r_14]) C hll (c_Mod_isIn l G hG v5.toInt64 (-1000) 1000 σ_1 _ hc_15) q_909 q_910 q_11 q_911 hd_Mod_isIn ⟨by decide, by decide⟩ rfl rfl (Nat.le_of_ble_eq_true rfl) rfl dX11_join_53 ?_
  refine rx_if_ne (tgt := 61) C dX11_join_56 (by decide) hm (fun h_16 hm => ?_) (fun h_16 hm => ?_)
  · refine rx_iconst (v := 0) C dX11_join_61 rfl ?_
    refine rx_istore (lv1 := [(6, .int 0), (0, .ref v0), (1, .int v1), (2, .int v2), (3, .int v3), (4, .int v4), (5, .int v5)]) C dX11_join_62 (by decide) rfl ?_
    refine rx_lv [1, 2, 3, 4, 5, 6, 0] rfl ?_
    refine lw_Mod_join_64 hG hll C v0 m_v0 k_v0 v1 v2 v3 v4 v5 _ _ _ _ hm (fun σ_25 hm => ?_)
    refine rx_aload_n C 0 dX11_join_108 rfl ?_
    refine rx_iload_n C 1 dX11_join_109 rfl ?_
    obtain ⟨r_26, σ_27, hc_28, hm⟩ := rr_bd_some hm
    refine rr_callV (rest := []) (st1 := [.int r_26]) C 9 hll (c_Mod_comes l G hG fu v0 m_v0 k_v0 v1 σ_25 _ _ hc_28) q_961 q_963 qs_46 q_11 q_964 hd_Mod_comes ⟨_, rfl, rfl⟩ (by decide) m_v0 k_v0 ⟨by decide, by decide⟩ rfl rfl (Nat.le_of_ble_eq_true rfl) rfl dX11_join_110 ?_
    exact rx_zret C dX11_join_113 hm
  refine rx_iconst (v := 0) C dX11_join_59 rfl ?_
  exact rx_zret C dX11_join_60 hm
def f_Mod_laced (fu : Nat) (N : Nat → Nat) (v0 : Nat) (v1 : Int32) (v2 : Int32) (σ : rr_M) : Option (Int32 × rr_M) :=
    rr_lt (ms_i σ v0 0 0) fun σ_1 =>
    Option.bind (f_Mod_isTray v0 v1) fun r_2 =>
    if r_2 = 0 then (some ((-1), σ_1)) else
    Option.bind (f_Mod_isTray v0 v2) fun r_5 =>
    if r_5 = 0 then (some ((-1), σ_1)) else
    rr_bd (f_Mod_areLaced fu N v0 v1 v2 σ_1) fun r_8 σ_9 =>
    if r_8 = 0 then (some (0, σ_9)) else
    some (1, σ_9)
theorem c_Mod_laced (l : Launch) (G : rr_G) (hG : G.2.2.1.Nodup) (fu : Nat) (v0 : Nat) (m_v0 : v0 ∈ G.2.2.1) (k_v0 : G.2.2.2.1 v0 = 9) (v1 : Int32) (v2 : Int32) (σ : rr_M) (r : Int32) (σr : rr_M) (hm : f_Mod_laced fu G.2.2.2.2 v0 v1 v2 σ = some (r, σr)) : rr_Met l G yX11_laced cX11_laced 3 (some .int) 9 229 [.ref v0, .int v1, .int v2] σ σr (some (.int r)) := by
  refine rr_enter (lv0 := [(0, .ref v0), (1, .int v1), (2, .int v2)]) hp_Mod_laced hG (Nat.le_of_ble_eq_true rfl) rfl (fun X hll C => ?_)
  replace C : rr_C X G cX11_laced 3 "RootRowsModel" (some .int) 9 229 := C
  unfold f_Mod_laced at hm
  refine rx_aload_n C 0 dX11_laced_0 rfl ?_
  refine rx_iconst (v := 0) C dX11_laced_1 rfl ?_
  refine pf_841 C m_v0 k_v0 dX11_laced_2 hm (fun σ_1 hm => ?_)
  refine rx_aload_n C 0 dX11_laced_5 rfl ?_
  refine rx_iload_n C 1 dX11_laced_6 rfl ?_
  obtain ⟨r_2, hc_3, hm⟩ := rr_b0_some hm
  refine rr_callV (rest := []) (st1 := [.int r_2]) C 9 hll (c_Mod_isTray l G hG v0 m_v0 k_v0 v1 σ_1 _ hc_3) q_916 q_918 qs_37 q_11 q_919 hd_Mod_isTray ⟨_, rfl, rfl⟩ (by decide) m_v0 k_v0 ⟨by decide, by decide⟩ rfl rfl (Nat.le_of_ble_eq_true rfl) rfl dX11_laced_7 ?_
  refine rx_if_eq (tgt := 38) C dX11_laced_10 (by decide) hm (fun h_4 hm => ?_) (fun h_4 hm => ?_)
  · refine rx_iconst (v := (-1)) C dX11_laced_38 rfl ?_
    exact rx_iret C dX11_laced_39 hm
  refine rx_aload_n C 0 dX11_laced_13 rfl ?_
  refine rx_iload_n C 2 dX11_laced_14 rfl ?_
  obtain ⟨r_5, hc_6, hm⟩ := rr_b0_some hm
  refine rr_callV (rest := []) (st1 := [.int r_5]) C 9 hll (c_Mod_isTray l G hG v0 m_v0 k_v0 v2 σ_1 _ hc_6) q_916 q_918 qs_37 q_11 q_919 hd_Mod_isTray ⟨_, rfl, rfl⟩ (by decide) m_v0 k_v0 ⟨by decide, by decide⟩ rfl rfl (Nat.le_of_ble_eq_true rfl) rfl dX11_laced_15 ?_
  refine rx_if_eq (tgt := 38) C dX11_laced_18 (by decide) hm (fun h_7 hm => ?_) (fun h_7 hm => ?_)
  · refine rx_iconst (v := (-1)) C dX11_laced_38 rfl ?_
    exact rx_iret C dX11_laced_39 hm
  refine rx_aload_n C 0 dX11_laced_21 rfl ?_
  refine rx_iload_n C 1 dX11_laced_22 rfl ?_
  refine rx_iload_n C 2 dX11_laced_23 rfl ?_
  obtain ⟨r_8, σ_9, hc_10, hm⟩ := rr_bd_some hm
  refine rr_callV (rest := []) (st1 := [.int r_8]) C 9 hll (c_Mod_areLaced l G hG fu v0 m_v0 k_v0 v1 v2 σ_1 _ _ hc_10) q_1195 q_1197 qs_89 q_11 q_1198 hd_Mod_areLaced ⟨_, rfl, rfl⟩ (by decide) m_v0 k_v0 ⟨by decide, by decide⟩ rfl rfl (Nat.le_of_ble_eq_true rfl) rfl dX11_laced_24 ?_
  refine rx_if_eq (tgt := 34) C dX11_laced_27 (by decide) hm (fun h_11 hm => ?_) (fun h_11 hm => ?_)
  · refine rx_iconst (v := 0) C dX11_laced_34 rfl ?_
    refine rx_goto (tgt := 39) C dX11_laced_35 (by decide) ?_
    exact rx_iret C dX11_laced_39 hm
  refine rx_iconst (v := 1) C dX11_laced_30 rfl ?_
  refine rx_goto (tgt := 39) C dX11_laced_31 (by decide) ?_
  exact rx_iret C dX11_laced_39 hm
def f_Mod_numberAt (N : Nat → Nat) (v0 : Nat) (v1 : Int32) (v2 : Int32) (σ : rr_M) : Option (Int64) :=
    Option.bind (f_Mod_isIn v2.toInt64 0 8) fun r_1 =>
    if r_1 = 0 then (some (0)) else
    Option.bind (f_Mod_at N v0 v1 v2 σ) fun r_4 =>
    some (r_4)
theorem c_Mod_numberAt (l : Launch) (G : rr_G) (hG : G.2.2.1.Nodup) (v0 : Nat) (m_v0 : v0 ∈ G.2.2.1) (k_v0 : G.2.2.2.1 v0 = 9) (v1 : Int32) (v2 : Int32) (σ : rr_M) (r : Int64) (hm : f_Mod_numberAt G.2.2.2.2 v0 v1 v2 σ = some r) : rr_Met l G yX11_numberAt cX11_numberAt 3 (some .long) 1 25 [.ref v0, .int v1, .int v2] σ σ (some (.long r)) := by
  refine rr_enter (lv0 := [(0, .ref v0), (1, .int v1), (2, .int v2)]) hp_Mod_numberAt hG (Nat.le_of_ble_eq_true rfl) rfl (fun X hll C => ?_)
  replace C : rr_C X G cX11_numberAt 3 "RootRowsModel" (some .long) 1 25 := C
  unfold f_Mod_numberAt at hm
  refine rx_iload_n C 2 dX11_numberAt_0 rfl ?_
  refine rx_i2l C dX11_numberAt_1 ?_
  refine rx_lconst (v := 0) C dX11_numberAt_2 rfl ?_
  refine rx_ldc2 C q_949 dX11_numberAt_3 ?_
  obtain ⟨r_1, hc_2, hm⟩ := rr_b0_some hm
  refine rr_callS (rest := []) (st1 := [.int r_1]) C hll (c_Mod_isIn l G hG v2.toInt64 0 8 σ _ hc_2) q_909 q_910 q_11 q_911 hd_Mod_isIn ⟨by decide, by decide⟩ rfl rfl (Nat.le_of_ble_eq_true rfl) rfl dX11_numberAt_6 ?_
  refine rx_if_eq (tgt := 21) C dX11_numberAt_9 (by decide) hm (fun h_3 hm => ?_) (fun h_3 hm => ?_)
  · refine rx_lconst (v := 0) C dX11_numberAt_21 rfl ?_
    exact rx_lretR C dX11_numberAt_22 hm
  refine rx_aload_n C 0 dX11_numberAt_12 rfl ?_
  refine rx_iload_n C 1 dX11_numberAt_13 rfl ?_
  refine rx_iload_n C 2 dX11_numberAt_14 rfl ?_
  obtain ⟨r_4, hc_5, hm⟩ := rr_b0_some hm
  refine rr_callV (rest := []) (st1 := [.long r_4]) C 9 hll (c_Mod_at l G hG v0 m_v0 k_v0 v1 v2 σ _ hc_5) q_950 q_952 qs_44 q_11 q_953 hd_Mod_at ⟨_, rfl, rfl⟩ (by decide) m_v0 k_v0 ⟨by decide, by decide⟩ rfl rfl (Nat.le_of_ble_eq_true rfl) rfl dX11_numberAt_15 ?_
  refine rx_goto (tgt := 22) C dX11_numberAt_18 (by decide) ?_
  exact rx_lretR C dX11_numberAt_22 hm
def f_Mod_made (fu : Nat) (N : Nat → Nat) (v0 : Nat) (v1 : Int32) (v2 : Int32) (v3 : Int32) (v4 : Int32) (σ : rr_M) : Option (Int64) :=
    Option.bind (f_Mod_numberAt N v0 v1 v4 σ) fun r_1 =>
    Option.bind (f_Mod_numberAt N v0 v1 (v4 - 1) σ) fun r_3 =>
    Option.bind (f_Mod_numberAt N v0 v1 (v4 + 1) σ) fun r_5 =>
    if v2 = 0 then (some (((v4 + 1).toInt64) * r_5)) else
    if v2 = 1 then (some (v4.toInt64 * r_1)) else
    if v2 = 2 then (some (r_1 + ((v3.toInt64 * ((v4 + 1).toInt64)) * r_5))) else
    if v2 = 3 then (some (r_3 + (v3.toInt64 * r_1))) else
    if v2 = 4 then (some (r_1)) else
    if v2 = 5 then (Option.bind (f_Mod_degreeOf fu N v0 v1 σ) fun r_13 =>
    Option.bind (f_Mod_numberAt N v0 v1 (r_13 - v4) σ) fun r_15 =>
    some (r_15)) else
    if v2 = 6 then (some (r_1)) else
    if v2 = 7 then (some (((r_1 + (v3.toInt64 * r_3)) + (v4.toInt64 * r_1)) - ((v4.toInt64 - 1) * r_3))) else
    if v2 = 8 then (some (r_3 + (v4.toInt64 * r_1))) else
    (some (r_1))
theorem c_Mod_made (l : Launch) (G : rr_G) (hG : G.2.2.1.Nodup) (fu : Nat) (v0 : Nat) (m_v0 : v0 ∈ G.2.2.1) (k_v0 : G.2.2.2.1 v0 = 9) (v1 : Int32) (v2 : Int32) (v3 : Int32) (v4 : Int32) (σ : rr_M) (r : Int64) (hm : f_Mod_made fu G.2.2.2.2 v0 v1 v2 v3 v4 σ = some r) : rr_Met l G yX11_made cX11_made 11 (some .long) 2 47 [.ref v0, .int v1, .int v2, .int v3, .int v4] σ σ (some (.long r)) := by
  refine rr_enter (lv0 := [(0, .ref v0), (1, .int v1), (2, .int v2), (3, .int v3), (4, .int v4)]) hp_Mod_made hG (Nat.le_of_ble_eq_true rfl) rfl (fun X hll C => ?_)
  replace C : rr_C X G cX11_made 11 "RootRowsModel" (some .long) 2 47 := C
  unfold f_Mod_made at hm
  refine rx_aload_n C 0 dX11_made_0 rfl ?_
  refine rx_iload_n C 1 dX11_made_1 rfl ?_
  refine rx_iload C 4 dX11_made_2 rfl ?_
  obtain ⟨r_1, hc_2, hm⟩ := rr_b0_some hm
  refine rr_callV (rest := []) (st1 := [.long r_1]) C 9 hll (c_Mod_numberAt l G hG v0 m_v0 k_v0 v1 v4 σ _ hc_2) q_1034 q_1036 qs_59 q_11 q_1037 hd_Mod_numberAt ⟨_, rfl, rfl⟩ (by decide) m_v0 k_v0 ⟨by decide, by decide⟩ rfl rfl (Nat.le_of_ble_eq_true rfl) rfl dX11_made_4 ?_
  refine rx_lstore (lv1 := [(5, .long r_1), (0, .ref v0), (1, .int v1), (2, .int v2), (3, .int v3), (4, .int v4)]) C dX11_made_7 (by decide) rfl ?_
  refine rx_aload_n C 1 dX11_made_9 rfl ?_
  refine rx_iload_n C 2 dX11_made_10 rfl ?_
  refine rx_iload C 5 dX11_made_11 rfl ?_
  refine rx_iconst (v := 1) C dX11_made_13 rfl ?_
  refine rx_isub C dX11_made_14 ?_
  obtain ⟨r_3, hc_4, hm⟩ := rr_b0_some hm
  refine rr_callV (rest := []) (st1 := [.long r_3]) C 9 hll (c_Mod_numberAt l G hG v0 m_v0 k_v0 v1 (v4 - 1) σ _ hc_4) q_1034 q_1036 qs_59 q_11 q_1037 hd_Mod_numberAt ⟨_, rfl, rfl⟩ (by decide) m_v0 k_v0 ⟨by decide, by decide⟩ rfl rfl (Nat.le_of_ble_eq_true rfl) rfl dX11_made_15 ?_
  refine rx_lstore (lv1 := [(7, .long r_3), (5, .long r_1), (0, .ref v0), (1, .int v1), (2, .int v2), (3, .int v3), (4, .int v4)]) C dX11_made_18 (by decide) rfl ?_
  refine rx_aload_n C 2 dX11_made_20 rfl ?_
  refine rx_iload_n C 3 dX11_made_21 rfl ?_
  refine rx_iload C 6 dX11_made_22 rfl ?_
  refine rx_iconst (v := 1) C dX11_made_24 rfl ?_
  refine rx_iadd C dX11_made_25 ?_
  obtain ⟨r_5, hc_6, hm⟩ := rr_b0_some hm
  refine rr_callV (rest := []) (st1 := [.long r_5]) C 9 hll (c_Mod_numberAt l G hG v0 m_v0 k_v0 v1 (v4 + 1) σ _ hc_6) q_1034 q_1036 qs_59 q_11 q_1037 hd_Mod_numberAt ⟨_, rfl, rfl⟩ (by decide) m_v0 k_v0 ⟨by decide, by decide⟩ rfl rfl (Nat.le_of_ble_eq_true rfl) rfl dX11_made_26 ?_
  refine rx_lstore (lv1 := [(9, .long r_5), (7, .long r_3), (5, .long r_1), (0, .ref v0), (1, .int v1), (2, .int v2), (3, .int v3), (4, .int v4)]) C dX11_made_29 (by decide) rfl ?_
  refine rx_iload_n C 5 dX11_made_31 rfl ?_
  refine rr_if hm (fun h_7 hm => ?_) (fun h_7 hm => ?_)
  · refine rx_tin (tgt := 84) C h_7 dX11_made_32 (by decide) (by decide) rfl (by decide) ?_
    refine rx_iload C 7 dX11_made_84 rfl ?_
    refine rx_iconst (v := 1) C dX11_made_86 rfl ?_
    refine rx_iadd C dX11_made_87 ?_
    refine rx_i2l C dX11_made_88 ?_
    refine rx_lload C 0 dX11_made_89 rfl ?_
    refine rx_lmul C dX11_made_91 ?_
    exact rx_lretR C dX11_made_92 hm
  refine rr_if hm (fun h_8 hm => ?_) (fun h_8 hm => ?_)
  · refine rx_tin (tgt := 93) C h_8 dX11_made_32 (by decide) (by decide) rfl (by decide) ?_
    refine rx_iload C 7 dX11_made_93 rfl ?_
    refine rx_i2l C dX11_made_95 ?_
    refine rx_lload C 2 dX11_made_96 rfl ?_
    refine rx_lmul C dX11_made_98 ?_
    exact rx_lretR C dX11_made_99 hm
  refine rr_if hm (fun h_9 hm => ?_) (fun h_9 hm => ?_)
  · refine rx_tin (tgt := 100) C h_9 dX11_made_32 (by decide) (by decide) rfl (by decide) ?_
    refine rx_lload C 2 dX11_made_100 rfl ?_
    refine rx_iload_n C 6 dX11_made_102 rfl ?_
    refine rx_i2l C dX11_made_103 ?_
    refine rx_iload C 7 dX11_made_104 rfl ?_
    refine rx_iconst (v := 1) C dX11_made_106 rfl ?_
    refine rx_iadd C dX11_made_107 ?_
    refine rx_i2l C dX11_made_108 ?_
    refine rx_lmul C dX11_made_109 ?_
    refine rx_lload C 0 dX11_made_110 rfl ?_
    refine rx_lmul C dX11_made_112 ?_
    refine rx_ladd C dX11_made_113 ?_
    exact rx_lretR C dX11_made_114 hm
  refine rr_if hm (fun h_10 hm => ?_) (fun h_10 hm => ?_)
  · refine rx_tin (tgt := 115) C h_10 dX11_made_32 (by decide) (by decide) rfl (by decide) ?_
    refine rx_lload C 1 dX11_made_115 rfl ?_
    refine rx_iload_n C 6 dX11_made_117 rfl ?_
    refine rx_i2l C dX11_made_118 ?_
    refine rx_lload C 2 dX11_made_119 rfl ?_
    refine rx_lmul C dX11_made_121 ?_
    refine rx_ladd C dX11_made_122 ?_
    exact rx_lretR C dX11_made_123 hm
  refine rr_if hm (fun h_11 hm => ?_) (fun h_11 hm => ?_)
  · refine rx_tin (tgt := 173) C h_11 dX11_made_32 (by decide) (by decide) rfl (by decide) ?_
    refine rx_lload C 2 dX11_made_173 rfl ?_
    exact rx_lretR C dX11_made_175 hm
  refine rr_if hm (fun h_12 hm => ?_) (fun h_12 hm => ?_)
  · refine rx_tin (tgt := 124) C h_12 dX11_made_32 (by decide) (by decide) rfl (by decide) ?_
    refine rx_aload_n C 3 dX11_made_124 rfl ?_
    refine rx_iload_n C 4 dX11_made_125 rfl ?_
    refine rx_aload_n C 3 dX11_made_126 rfl ?_
    refine rx_iload_n C 4 dX11_made_127 rfl ?_
    obtain ⟨r_13, hc_14, hm⟩ := rr_b0_some hm
    refine rr_callV (rest := [.int v1, .ref v0]) (st1 := [.int r_13, .int v1, .ref v0]) C 9 hll (c_Mod_degreeOf l G hG fu v0 m_v0 k_v0 v1 σ _ hc_14) q_997 q_999 qs_50 q_11 q_1000 hd_Mod_degreeOf ⟨_, rfl, rfl⟩ (by decide) m_v0 k_v0 ⟨by decide, by decide⟩ rfl rfl (Nat.le_of_ble_eq_true rfl) rfl dX11_made_128 ?_
    refine rx_iload C 7 dX11_made_131 rfl ?_
    refine rx_isub C dX11_made_133 ?_
    obtain ⟨r_15, hc_16, hm⟩ := rr_b0_some hm
    refine rr_callV (rest := []) (st1 := [.long r_15]) C 9 hll (c_Mod_numberAt l G hG v0 m_v0 k_v0 v1 (r_13 - v4) σ _ hc_16) q_1034 q_1036 qs_59 q_11 q_1037 hd_Mod_numberAt ⟨_, rfl, rfl⟩ (by decide) m_v0 k_v0 ⟨by decide, by decide⟩ rfl rfl (Nat.le_of_ble_eq_true rfl) rfl dX11_made_134 ?_
    exact rx_lretR C dX11_made_137 hm
  refine rr_if hm (fun h_17 hm => ?_) (fun h_17 hm => ?_)
  · refine rx_tin (tgt := 173) C h_17 dX11_made_32 (by decide) (by decide) rfl (by decide) ?_
    refine rx_lload C 2 dX11_made_173 rfl ?_
    exact rx_lretR C dX11_made_175 hm
  refine rr_if hm (fun h_18 hm => ?_) (fun h_18 hm => ?_)
  · refine rx_tin (tgt := 138) C h_18 dX11_made_32 (by decide) (by decide) rfl (by decide) ?_
    refine rx_lload C 2 dX11_made_138 rfl ?_
    refine rx_iload_n C 6 dX11_made_140 rfl ?_
    refine rx_i2l C dX11_made_141 ?_
    refine rx_lload C 1 dX11_made_142 rfl ?_
    refine rx_lmul C dX11_made_144 ?_
    refine rx_ladd C dX11_made_145 ?_
    refine rx_iload C 7 dX11_made_146 rfl ?_
    refine rx_i2l C dX11_made_148 ?_
    refine rx_lload C 2 dX11_made_149 rfl ?_
    refine rx_lmul C dX11_made_151 ?_
    refine rx_ladd C dX11_made_152 ?_
    refine rx_iload C 7 dX11_made_153 rfl ?_
    refine rx_i2l C dX11_made_155 ?_
    refine rx_lconst (v := 1) C dX11_made_156 rfl ?_
    refine rx_lsub C dX11_made_157 ?_
    refine rx_lload C 1 dX11_made_158 rfl ?_
    refine rx_lmul C dX11_made_160 ?_
    refine rx_lsub C dX11_made_161 ?_
    exact rx_lretR C dX11_made_162 hm
  refine rr_if hm (fun h_19 hm => ?_) (fun h_19 hm => ?_)
  · refine rx_tin (tgt := 163) C h_19 dX11_made_32 (by decide) (by decide) rfl (by decide) ?_
    refine rx_lload C 1 dX11_made_163 rfl ?_
    refine rx_iload C 7 dX11_made_165 rfl ?_
    refine rx_i2l C dX11_made_167 ?_
    refine rx_lload C 2 dX11_made_168 rfl ?_
    refine rx_lmul C dX11_made_170 ?_
    refine rx_ladd C dX11_made_171 ?_
    exact rx_lretR C dX11_made_172 hm
  refine rx_tout (tgt := 173) C dX11_made_32 (by have q0 := lv_neT (a := 0) h_7 (by decide); have q1 := lv_neT (a := 1) h_8 (by decide); have q2 := lv_neT (a := 2) h_9 (by decide); have q3 := lv_neT (a := 3) h_10 (by decide); have q4 := lv_neT (a := 4) h_11 (by decide); have q5 := lv_neT (a := 5) h_12 (by decide); have q6 := lv_neT (a := 6) h_17 (by decide); have q7 := lv_neT (a := 7) h_18 (by decide); have q8 := lv_neT (a := 8) h_19 (by decide); omega) (by decide) ?_
  refine rx_lload C 2 dX11_made_173 rfl ?_
  exact rx_lretR C dX11_made_175 hm
def l_Mod_mean_25 (fu : Nat) (N : Nat → Nat) (v0 : Nat) (v1 : Int32) (σ : rr_M) : Nat → Int64 → Int64 → Int32 → (Int64 → Int64 → Option (Int64 × rr_M)) → Option (Int64 × rr_M)
  | 0, _, _, _, _ => none
  | n + 1, v3, v5, v7, kk =>
    if 9 ≤ v7 then (kk v3 v5) else
    Option.bind (f_Mod_at N v0 v1 v7 σ) fun r_6 =>
    rr_lt (v3 + r_6) fun v3_8 =>
    Option.bind (f_Mod_at N v0 v1 v7 σ) fun r_9 =>
    rr_lt (v5 + (v7.toInt64 * r_9)) fun v5_11 =>
    rr_lt (v7 + 1) fun v7_12 =>
    l_Mod_mean_25 fu N v0 v1 σ n v3_8 v5_11 v7_12 kk
theorem lw_Mod_mean_25 {X : rr_X} {G : rr_G} {l : Launch} {fu : Nat} (hG : G.2.2.1.Nodup) (hll : X.2.1 = l) (C : rr_C X G cX11_mean 9 "RootRowsModel" (some .long) 2 50) {r : Int64} {σr : rr_M} (σ : rr_M) (v0 : Nat) (m_v0 : v0 ∈ G.2.2.1) (k_v0 : G.2.2.2.1 v0 = 9) (v1 : Int32) (v2 : Int32) : ∀ (n : Nat) (v3 : Int64) (v5 : Int64) (v7 : Int32) (K : Int64 → Int64 → Option (Int64 × rr_M)), l_Mod_mean_25 fu G.2.2.2.2 v0 v1 σ n v3 v5 v7 K = some (r, σr) → (∀ (w3 : Int64) (w5 : Int64), K w3 w5 = some (r, σr) → rr_J X G 9 (rr_E X G σr (some (.long r))) σ 64 [(2, .int v2), (3, .long w3), (5, .long w5)] []) → rr_J X G 9 (rr_E X G σr (some (.long r))) σ 25 [(0, .ref v0), (1, .int v1), (2, .int v2), (3, .long v3), (5, .long v5), (7, .int v7)] [] := by
  intro n
  induction n with
  | zero =>
    intro v3 v5 v7 K hm
    cases hm
  | succ n ih =>
    intro v3 v5 v7 K hm hk
    unfold l_Mod_mean_25 at hm
    refine rx_iload C 5 dX11_mean_25 rfl ?_
    refine rx_bipush (v := 9) C dX11_mean_27 rfl ?_
    refine rx_icmp_ge (tgt := 64) C dX11_mean_29 (by decide) hm (fun h_5 hm => ?_) (fun h_5 hm => ?_)
    · refine rx_lv [2, 3, 4] rfl ?_
      exact hk _ _ hm
    refine rx_lload_n C 3 dX11_mean_32 rfl ?_
    refine rx_aload_n C 0 dX11_mean_33 rfl ?_
    refine rx_iload_n C 1 dX11_mean_34 rfl ?_
    refine rx_iload C 5 dX11_mean_35 rfl ?_
    obtain ⟨r_6, hc_7, hm⟩ := rr_b0_some hm
    refine rr_callV (rest := [.long v3]) (st1 := [.long r_6, .long v3]) C 9 hll (c_Mod_at l G hG v0 m_v0 k_v0 v1 v7 σ _ hc_7) q_950 q_952 qs_44 q_11 q_953 hd_Mod_at ⟨_, rfl, rfl⟩ (by decide) m_v0 k_v0 ⟨by decide, by decide⟩ rfl rfl (Nat.le_of_ble_eq_true rfl) rfl dX11_mean_37 ?_
    refine rx_ladd C dX11_mean_40 ?_
    refine rx_nml hm (fun v3_8 ev3_8 hm => ?_)
    refine rx_lstore_n (lv1 := [(3, .long v3_8), (0, .ref v0), (1, .int v1), (2, .int v2), (5, .long v5), (7, .int v7)]) C dX11_mean_41 (by decide) rfl ?_
    refine rx_lload C 4 dX11_mean_42 rfl ?_
    refine rx_iload C 5 dX11_mean_44 rfl ?_
    refine rx_i2l C dX11_mean_46 ?_
    refine rx_aload_n C 1 dX11_mean_47 rfl ?_
    refine rx_iload_n C 2 dX11_mean_48 rfl ?_
    refine rx_iload C 5 dX11_mean_49 rfl ?_
    obtain ⟨r_9, hc_10, hm⟩ := rr_b0_some hm
    refine rr_callV (rest := [.long v7.toInt64, .long v5]) (st1 := [.long r_9, .long v7.toInt64, .long v5]) C 9 hll (c_Mod_at l G hG v0 m_v0 k_v0 v1 v7 σ _ hc_10) q_950 q_952 qs_44 q_11 q_953 hd_Mod_at ⟨_, rfl, rfl⟩ (by decide) m_v0 k_v0 ⟨by decide, by decide⟩ rfl rfl (Nat.le_of_ble_eq_true rfl) rfl dX11_mean_51 ?_
    refine rx_lmul C dX11_mean_54 ?_
    refine rx_ladd C dX11_mean_55 ?_
    refine rx_nml hm (fun v5_11 ev5_11 hm => ?_)
    refine rx_lstore (lv1 := [(5, .long v5_11), (3, .long v3_8), (0, .ref v0), (1, .int v1), (2, .int v2), (7, .int v7)]) C dX11_mean_56 (by decide) rfl ?_
    refine rx_iinc (d := 1) (lv1 := fun v => [(7, .int v), (5, .long v5_11), (3, .long v3_8), (0, .ref v0), (1, .int v1), (2, .int v2)]) C 5 dX11_mean_58 hm rfl rfl (by decide) (fun _ => rfl) (fun v7_12 hm => ?_)
    refine rx_goto (tgt := 25) C dX11_mean_61 (by decide) ?_
    refine rx_lv [3, 4, 5, 2, 1, 0] rfl ?_
    exact ih _ _ _ _ hm hk
def f_Mod_mean (fu : Nat) (N : Nat → Nat) (v0 : Nat) (v1 : Int32) (v2 : Int32) (σ : rr_M) : Option (Int64 × rr_M) :=
    rr_lt (ms_i σ v0 0 0) fun σ_1 =>
    Option.bind (f_Mod_isTray v0 v1) fun r_2 =>
    if r_2 = 0 then (some ((-1000000000000000000), σ_1)) else
    l_Mod_mean_25 fu N v0 v1 σ_1 fu 0 0 0 (fun v3_13 v5_14 =>
    if v3_13 = 0 then (some ((-1000000000000000000), σ_1)) else
    Option.bind (f_Mod_common fu v5_14 v3_13) fun r_16 =>
    rr_jn (fun (t_18 : Int64) =>
    rr_lt (r_16 * t_18) fun v7_19 =>
    if v2 = 0 then (if v7_19 = 0 then none else
    some (v5_14 / v7_19, σ_1)) else
    if v7_19 = 0 then none else
    some (v3_13 / v7_19, σ_1)) fun j93 =>
    if 0 ≤ v3_13 then (j93 1) else
    j93 (-1))
theorem c_Mod_mean (l : Launch) (G : rr_G) (hG : G.2.2.1.Nodup) (fu : Nat) (v0 : Nat) (m_v0 : v0 ∈ G.2.2.1) (k_v0 : G.2.2.2.1 v0 = 9) (v1 : Int32) (v2 : Int32) (σ : rr_M) (r : Int64) (σr : rr_M) (hm : f_Mod_mean fu G.2.2.2.2 v0 v1 v2 σ = some (r, σr)) : rr_Met l G yX11_mean cX11_mean 9 (some .long) 2 50 [.ref v0, .int v1, .int v2] σ σr (some (.long r)) := by
  refine rr_enter (lv0 := [(0, .ref v0), (1, .int v1), (2, .int v2)]) hp_Mod_mean hG (Nat.le_of_ble_eq_true rfl) rfl (fun X hll C => ?_)
  replace C : rr_C X G cX11_mean 9 "RootRowsModel" (some .long) 2 50 := C
  unfold f_Mod_mean at hm
  refine rx_aload_n C 0 dX11_mean_0 rfl ?_
  refine rx_iconst (v := 0) C dX11_mean_1 rfl ?_
  refine pf_841 C m_v0 k_v0 dX11_mean_2 hm (fun σ_1 hm => ?_)
  refine rx_aload_n C 0 dX11_mean_5 rfl ?_
  refine rx_iload_n C 1 dX11_mean_6 rfl ?_
  obtain ⟨r_2, hc_3, hm⟩ := rr_b0_some hm
  refine rr_callV (rest := []) (st1 := [.int r_2]) C 9 hll (c_Mod_isTray l G hG v0 m_v0 k_v0 v1 σ_1 _ hc_3) q_916 q_918 qs_37 q_11 q_919 hd_Mod_isTray ⟨_, rfl, rfl⟩ (by decide) m_v0 k_v0 ⟨by decide, by decide⟩ rfl rfl (Nat.le_of_ble_eq_true rfl) rfl dX11_mean_7 ?_
  refine rx_if_ne (tgt := 17) C dX11_mean_10 (by decide) hm (fun h_4 hm => ?_) (fun h_4 hm => ?_)
  · refine rx_lconst (v := 0) C dX11_mean_17 rfl ?_
    refine rx_lstore_n (lv1 := [(3, .long 0), (0, .ref v0), (1, .int v1), (2, .int v2)]) C dX11_mean_18 (by decide) rfl ?_
    refine rx_lconst (v := 0) C dX11_mean_19 rfl ?_
    refine rx_lstore (lv1 := [(5, .long 0), (3, .long 0), (0, .ref v0), (1, .int v1), (2, .int v2)]) C dX11_mean_20 (by decide) rfl ?_
    refine rx_iconst (v := 0) C dX11_mean_22 rfl ?_
    refine rx_istore (lv1 := [(7, .int 0), (5, .long 0), (3, .long 0), (0, .ref v0), (1, .int v1), (2, .int v2)]) C dX11_mean_23 (by decide) rfl ?_
    refine rx_lv [3, 4, 5, 2, 1, 0] rfl ?_
    refine lw_Mod_mean_25 hG hll C σ_1 v0 m_v0 k_v0 v1 v2 _ _ _ _ _ hm (fun v3_13 v5_14 hm => ?_)
    refine rx_lload_n C 1 dX11_mean_64 rfl ?_
    refine rx_lconst (v := 0) C dX11_mean_65 rfl ?_
    refine rx_lcmp_ne (tgt := 74) C dX11_mean_66 dX11_mean_67 (by decide) hm (fun h_15 hm => ?_) (fun h_15 hm => ?_)
    · refine rx_lload C 2 dX11_mean_74 rfl ?_
      refine rx_lload_n C 1 dX11_mean_76 rfl ?_
      obtain ⟨r_16, hc_17, hm⟩ := rr_b0_some hm
      refine rr_callS (rest := []) (st1 := [.long r_16]) C hll (c_Mod_common l G hG fu v5_14 v3_13 σ_1 _ hc_17) q_1240 q_1241 q_11 q_1242 hd_Mod_common ⟨by decide, by decide⟩ rfl rfl (Nat.le_of_ble_eq_true rfl) rfl dX11_mean_77 ?_
      refine rx_lload_n C 1 dX11_mean_80 rfl ?_
      refine rx_lconst (v := 0) C dX11_mean_81 rfl ?_
      refine rr_jn1 hm (fun j93 ej93 hm => ?_)
      have hj93 : ∀ (t_18 : Int64), j93 t_18 = some (r, σr) → rr_J X G 9 (rr_E X G σr (some (.long r))) σ_1 93 [(2, .int v2), (3, .long v3_13), (5, .long v5_14)] [.long t_18, .long r_16] := by
        intro t_18 hm
        replace hm := ej93 _ hm
        refine rx_lmul C dX11_mean_93 ?_
        refine rx_nml hm (fun v7_19 ev7_19 hm => ?_)
        refine rx_lstore (lv1 := [(7, .long v7_19), (2, .int v2), (3, .long v3_13), (5, .long v5_14)]) C dX11_mean_94 (by decide) rfl ?_
        refine rx_iload_n C 1 dX11_mean_96 rfl ?_
        refine rx_if_eq (tgt := 107) C dX11_mean_97 (by decide) hm (fun h_20 hm => ?_) (fun h_20 hm => ?_)
        · refine rx_lload C 3 dX11_mean_107 rfl ?_
          refine rx_lload C 0 dX11_mean_109 rfl ?_
          obtain ⟨hz_21, hm⟩ := rr_gzl hm
          refine rx_ldiv C dX11_mean_111 hz_21 ?_
          exact rx_lret C dX11_mean_112 hm
        refine rx_lload_n C 2 dX11_mean_100 rfl ?_
        refine rx_lload C 0 dX11_mean_101 rfl ?_
        obtain ⟨hz_22, hm⟩ := rr_gzl hm
        refine rx_ldiv C dX11_mean_103 hz_22 ?_
        refine rx_goto (tgt := 112) C dX11_mean_104 (by decide) ?_
        exact rx_lret C dX11_mean_112 hm
      refine rx_lcmp_ge (tgt := 92) C dX11_mean_82 dX11_mean_83 (by decide) hm (fun h_23 hm => ?_) (fun h_23 hm => ?_)
      · refine rx_lconst (v := 1) C dX11_mean_92 rfl ?_
        refine rx_lv [0, 1, 2] rfl ?_
        exact hj93 _ hm
      refine rx_ldc2 C q_1243 dX11_mean_86 ?_
      refine rx_goto (tgt := 93) C dX11_mean_89 (by decide) ?_
      refine rx_lv [0, 1, 2] rfl ?_
      exact hj93 _ hm
    refine rx_ldc2 C q_1054 dX11_mean_70 ?_
    exact rx_lret C dX11_mean_73 hm
  refine rx_ldc2 C q_1054 dX11_mean_13 ?_
  exact rx_lret C dX11_mean_16 hm
def f_Mod_member (fu : Nat) (N : Nat → Nat) (v0 : Nat) (v1 : Int32) (v2 : Int32) (v3 : Int32) (σ : rr_M) : Option (Int32 × rr_M) :=
    rr_lt (ms_i σ v0 0 0) fun σ_1 =>
    Option.bind (f_Mod_isTray v0 v1) fun r_2 =>
    if r_2 = 0 then (some ((-1), σ_1)) else
    Option.bind (f_Mod_degreeOf fu N v0 v1 σ_1) fun r_5 =>
    if r_5 < 1 then (some ((-1), σ_1)) else
    Option.bind (f_Mod_isIn v3.toInt64 0 1) fun r_8 =>
    if r_8 = 0 then (some ((-1), σ_1)) else
    rr_bd (f_Mod_proves fu N v0 36 v1 σ_1) fun r_11 σ_12 =>
    Option.bind (f_Mod_isIn v2.toInt64 0 ((r_11 - 1).toInt64)) fun r_14 =>
    if r_14 = 0 then (some ((-1), σ_12)) else
    if v3 = 0 then (rr_lt (mg_r σ_12 v0 6) fun p_20 =>
    (if rr_ix (36 + v2) (N p_20) then
    some (mg_i σ_12 p_20 (rr_n (36 + v2)), σ_12) else none)) else
    Option.bind (f_Mod_leadSign N v0 (36 + v2) σ_12) fun r_18 =>
    some (r_18, σ_12)
theorem c_Mod_member (l : Launch) (G : rr_G) (hG : G.2.2.1.Nodup) (fu : Nat) (v0 : Nat) (m_v0 : v0 ∈ G.2.2.1) (k_v0 : G.2.2.2.1 v0 = 9) (v1 : Int32) (v2 : Int32) (v3 : Int32) (σ : rr_M) (r : Int32) (σr : rr_M) (hm : f_Mod_member fu G.2.2.2.2 v0 v1 v2 v3 σ = some (r, σr)) : rr_Met l G yX11_member cX11_member 5 (some .int) 6 157 [.ref v0, .int v1, .int v2, .int v3] σ σr (some (.int r)) := by
  refine rr_enter (lv0 := [(0, .ref v0), (1, .int v1), (2, .int v2), (3, .int v3)]) hp_Mod_member hG (Nat.le_of_ble_eq_true rfl) rfl (fun X hll C => ?_)
  replace C : rr_C X G cX11_member 5 "RootRowsModel" (some .int) 6 157 := C
  unfold f_Mod_member at hm
  refine rx_aload_n C 0 dX11_member_0 rfl ?_
  refine rx_iconst (v := 0) C dX11_member_1 rfl ?_
  refine pf_841 C m_v0 k_v0 dX11_member_2 hm (fun σ_1 hm => ?_)
  refine rx_aload_n C 0 dX11_member_5 rfl ?_
  refine rx_iload_n C 1 dX11_member_6 rfl ?_
  obtain ⟨r_2, hc_3, hm⟩ := rr_b0_some hm
  refine rr_callV (rest := []) (st1 := [.int r_2]) C 9 hll (c_Mod_isTray l G hG v0 m_v0 k_v0 v1 σ_1 _ hc_3) q_916 q_918 qs_37 q_11 q_919 hd_Mod_isTray ⟨_, rfl, rfl⟩ (by decide) m_v0 k_v0 ⟨by decide, by decide⟩ rfl rfl (Nat.le_of_ble_eq_true rfl) rfl dX11_member_7 ?_
  refine rx_if_eq (tgt := 32) C dX11_member_10 (by decide) hm (fun h_4 hm => ?_) (fun h_4 hm => ?_)
  · refine rx_iconst (v := (-1)) C dX11_member_32 rfl ?_
    exact rx_iret C dX11_member_33 hm
  refine rx_aload_n C 0 dX11_member_13 rfl ?_
  refine rx_iload_n C 1 dX11_member_14 rfl ?_
  obtain ⟨r_5, hc_6, hm⟩ := rr_b0_some hm
  refine rr_callV (rest := []) (st1 := [.int r_5]) C 9 hll (c_Mod_degreeOf l G hG fu v0 m_v0 k_v0 v1 σ_1 _ hc_6) q_997 q_999 qs_50 q_11 q_1000 hd_Mod_degreeOf ⟨_, rfl, rfl⟩ (by decide) m_v0 k_v0 ⟨by decide, by decide⟩ rfl rfl (Nat.le_of_ble_eq_true rfl) rfl dX11_member_15 ?_
  refine rx_iconst (v := 1) C dX11_member_18 rfl ?_
  refine rx_icmp_lt (tgt := 32) C dX11_member_19 (by decide) hm (fun h_7 hm => ?_) (fun h_7 hm => ?_)
  · refine rx_iconst (v := (-1)) C dX11_member_32 rfl ?_
    exact rx_iret C dX11_member_33 hm
  refine rx_iload_n C 3 dX11_member_22 rfl ?_
  refine rx_i2l C dX11_member_23 ?_
  refine rx_lconst (v := 0) C dX11_member_24 rfl ?_
  refine rx_lconst (v := 1) C dX11_member_25 rfl ?_
  obtain ⟨r_8, hc_9, hm⟩ := rr_b0_some hm
  refine rr_callS (rest := []) (st1 := [.int r_8]) C hll (c_Mod_isIn l G hG v3.toInt64 0 1 σ_1 _ hc_9) q_909 q_910 q_11 q_911 hd_Mod_isIn ⟨by decide, by decide⟩ rfl rfl (Nat.le_of_ble_eq_true rfl) rfl dX11_member_26 ?_
  refine rx_if_ne (tgt := 34) C dX11_member_29 (by decide) hm (fun h_10 hm => ?_) (fun h_10 hm => ?_)
  · refine rx_aload_n C 0 dX11_member_34 rfl ?_
    refine rx_bipush (v := 36) C dX11_member_35 rfl ?_
    refine rx_iload_n C 1 dX11_member_37 rfl ?_
    obtain ⟨r_11, σ_12, hc_13, hm⟩ := rr_bd_some hm
    refine rr_callV (rest := []) (st1 := [.int r_11]) C 9 hll (c_Mod_proves l G hG fu v0 m_v0 k_v0 36 v1 σ_1 _ _ hc_13) q_1063 q_1065 qs_62 q_11 q_1066 hd_Mod_proves ⟨_, rfl, rfl⟩ (by decide) m_v0 k_v0 ⟨by decide, by decide⟩ rfl rfl (Nat.le_of_ble_eq_true rfl) rfl dX11_member_38 ?_
    refine rx_istore (lv1 := [(4, .int r_11), (0, .ref v0), (1, .int v1), (2, .int v2), (3, .int v3)]) C dX11_member_41 (by decide) rfl ?_
    refine rx_iload_n C 3 dX11_member_43 rfl ?_
    refine rx_i2l C dX11_member_44 ?_
    refine rx_lconst (v := 0) C dX11_member_45 rfl ?_
    refine rx_iload C 0 dX11_member_46 rfl ?_
    refine rx_iconst (v := 1) C dX11_member_48 rfl ?_
    refine rx_isub C dX11_member_49 ?_
    refine rx_i2l C dX11_member_50 ?_
    obtain ⟨r_14, hc_15, hm⟩ := rr_b0_some hm
    refine rr_callS (rest := []) (st1 := [.int r_14]) C hll (c_Mod_isIn l G hG v2.toInt64 0 ((r_11 - 1).toInt64) σ_12 _ hc_15) q_909 q_910 q_11 q_911 hd_Mod_isIn ⟨by decide, by decide⟩ rfl rfl (Nat.le_of_ble_eq_true rfl) rfl dX11_member_51 ?_
    refine rx_if_ne (tgt := 59) C dX11_member_54 (by decide) hm (fun h_16 hm => ?_) (fun h_16 hm => ?_)
    · refine rx_iload_n C 4 dX11_member_59 rfl ?_
      refine rx_if_ne (tgt := 75) C dX11_member_60 (by decide) hm (fun h_17 hm => ?_) (fun h_17 hm => ?_)
      · refine rx_aload_n C 1 dX11_member_75 rfl ?_
        refine rx_bipush (v := 36) C dX11_member_76 rfl ?_
        refine rx_iload_n C 3 dX11_member_78 rfl ?_
        refine rx_iadd C dX11_member_79 ?_
        obtain ⟨r_18, hc_19, hm⟩ := rr_b0_some hm
        refine rr_callV (rest := []) (st1 := [.int r_18]) C 9 hll (c_Mod_leadSign l G hG v0 m_v0 k_v0 (36 + v2) σ_12 _ hc_19) q_1119 q_1121 qs_76 q_11 q_1122 hd_Mod_leadSign ⟨_, rfl, rfl⟩ (by decide) m_v0 k_v0 ⟨by decide, by decide⟩ rfl rfl (Nat.le_of_ble_eq_true rfl) rfl dX11_member_80 ?_
        exact rx_iret C dX11_member_83 hm
      refine rx_aload_n C 1 dX11_member_63 rfl ?_
      refine gf_847 C m_v0 k_v0 dX11_member_64 hm (fun p_20 m_p_20 k_p_20 hm => ?_)
      refine rx_bipush (v := 36) C dX11_member_67 rfl ?_
      refine rx_iload_n C 3 dX11_member_69 rfl ?_
      refine rx_iadd C dX11_member_70 ?_
      refine rx_iald C m_p_20 k_p_20 dX11_member_71 hm (fun hm => ?_)
      refine rx_goto (tgt := 83) C dX11_member_72 (by decide) ?_
      exact rx_iret C dX11_member_83 hm
    refine rx_iconst (v := (-1)) C dX11_member_57 rfl ?_
    exact rx_iret C dX11_member_58 hm
  refine rx_iconst (v := (-1)) C dX11_member_32 rfl ?_
  exact rx_iret C dX11_member_33 hm
def l_Mod_modes_10 (fu : Nat) (N : Nat → Nat) (v0 : Nat) (v1 : Int32) (v2 : Int32) (σ : rr_M) : Nat → Int64 → Int32 → (Int64 → Option (Int32)) → Option (Int32)
  | 0, _, _, _ => none
  | n + 1, v3, v5, kk =>
    if v2 < v5 then (kk v3) else
    Option.bind (f_Mod_at N v0 v1 v5 σ) fun r_4 =>
    rr_jn (fun (t_6 : Int64) =>
    rr_lt (v5 + 1) fun v5_7 =>
    l_Mod_modes_10 fu N v0 v1 v2 σ n t_6 v5_7 kk) fun j39 =>
    if r_4 ≤ v3 then (j39 v3) else
    Option.bind (f_Mod_at N v0 v1 v5 σ) fun r_9 =>
    j39 r_9
theorem lw_Mod_modes_10 {X : rr_X} {G : rr_G} {l : Launch} {fu : Nat} (hG : G.2.2.1.Nodup) (hll : X.2.1 = l) (C : rr_C X G cX11_modes 7 "RootRowsModel" (some .int) 1 22) {r : Int32}  (σ : rr_M) (v0 : Nat) (m_v0 : v0 ∈ G.2.2.1) (k_v0 : G.2.2.2.1 v0 = 9) (v1 : Int32) (v2 : Int32) : ∀ (n : Nat) (v3 : Int64) (v5 : Int32) (K : Int64 → Option (Int32)), l_Mod_modes_10 fu G.2.2.2.2 v0 v1 v2 σ n v3 v5 K = some r → (∀ (w3 : Int64), K w3 = some r → rr_J X G 7 (rr_E X G σ (some (.int r))) σ 46 [(0, .ref v0), (1, .int v1), (2, .int v2), (3, .long w3)] []) → rr_J X G 7 (rr_E X G σ (some (.int r))) σ 10 [(0, .ref v0), (1, .int v1), (2, .int v2), (3, .long v3), (5, .int v5)] [] := by
  intro n
  induction n with
  | zero =>
    intro v3 v5 K hm
    cases hm
  | succ n ih =>
    intro v3 v5 K hm hk
    unfold l_Mod_modes_10 at hm
    refine rx_iload C 4 dX11_modes_10 rfl ?_
    refine rx_iload_n C 2 dX11_modes_12 rfl ?_
    refine rx_icmp_gt (tgt := 46) C dX11_modes_13 (by decide) hm (fun h_3 hm => ?_) (fun h_3 hm => ?_)
    · refine rx_lv [0, 1, 2, 3] rfl ?_
      exact hk _ hm
    refine rx_aload_n C 0 dX11_modes_16 rfl ?_
    refine rx_iload_n C 1 dX11_modes_17 rfl ?_
    refine rx_iload C 4 dX11_modes_18 rfl ?_
    obtain ⟨r_4, hc_5, hm⟩ := rr_b0_some hm
    refine rr_callV (rest := []) (st1 := [.long r_4]) C 9 hll (c_Mod_at l G hG v0 m_v0 k_v0 v1 v5 σ _ hc_5) q_950 q_952 qs_44 q_11 q_953 hd_Mod_at ⟨_, rfl, rfl⟩ (by decide) m_v0 k_v0 ⟨by decide, by decide⟩ rfl rfl (Nat.le_of_ble_eq_true rfl) rfl dX11_modes_20 ?_
    refine rx_lload_n C 3 dX11_modes_23 rfl ?_
    refine rr_jn1 hm (fun j39 ej39 hm => ?_)
    have hj39 : ∀ (t_6 : Int64), j39 t_6 = some r → rr_J X G 7 (rr_E X G σ (some (.int r))) σ 39 [(0, .ref v0), (1, .int v1), (2, .int v2), (3, .long v3), (5, .int v5)] [.long t_6] := by
      intro t_6 hm
      replace hm := ej39 _ hm
      refine rx_lstore_n (lv1 := [(3, .long t_6), (0, .ref v0), (1, .int v1), (2, .int v2), (5, .int v5)]) C dX11_modes_39 (by decide) rfl ?_
      refine rx_iinc (d := 1) (lv1 := fun v => [(5, .int v), (3, .long t_6), (0, .ref v0), (1, .int v1), (2, .int v2)]) C 4 dX11_modes_40 hm rfl rfl (by decide) (fun _ => rfl) (fun v5_7 hm => ?_)
      refine rx_goto (tgt := 10) C dX11_modes_43 (by decide) ?_
      refine rx_lv [2, 3, 4, 1, 0] rfl ?_
      exact ih _ _ _ hm hk
    refine rx_lcmp_le (tgt := 38) C dX11_modes_24 dX11_modes_25 (by decide) hm (fun h_8 hm => ?_) (fun h_8 hm => ?_)
    · refine rx_lload_n C 3 dX11_modes_38 rfl ?_
      refine rx_lv [0, 1, 2, 3, 4] rfl ?_
      exact hj39 _ hm
    refine rx_aload_n C 0 dX11_modes_28 rfl ?_
    refine rx_iload_n C 1 dX11_modes_29 rfl ?_
    refine rx_iload C 4 dX11_modes_30 rfl ?_
    obtain ⟨r_9, hc_10, hm⟩ := rr_b0_some hm
    refine rr_callV (rest := []) (st1 := [.long r_9]) C 9 hll (c_Mod_at l G hG v0 m_v0 k_v0 v1 v5 σ _ hc_10) q_950 q_952 qs_44 q_11 q_953 hd_Mod_at ⟨_, rfl, rfl⟩ (by decide) m_v0 k_v0 ⟨by decide, by decide⟩ rfl rfl (Nat.le_of_ble_eq_true rfl) rfl dX11_modes_32 ?_
    refine rx_goto (tgt := 39) C dX11_modes_35 (by decide) ?_
    refine rx_lv [0, 1, 2, 3, 4] rfl ?_
    exact hj39 _ hm
def l_Mod_modes_52 (fu : Nat) (N : Nat → Nat) (v0 : Nat) (v1 : Int32) (v2 : Int32) (v3 : Int64) (σ : rr_M) : Nat → Int32 → Int32 → (Int32 → Option (Int32)) → Option (Int32)
  | 0, _, _, _ => none
  | n + 1, v5, v6, kk =>
    if v2 < v6 then (kk v5) else
    Option.bind (f_Mod_at N v0 v1 v6 σ) fun r_13 =>
    rr_jn (fun (t_15 : Int32) =>
    rr_lt (v5 ||| t_15) fun v5_16 =>
    rr_lt (v6 + 1) fun v6_17 =>
    l_Mod_modes_52 fu N v0 v1 v2 v3 σ n v5_16 v6_17 kk) fun j80 =>
    if r_13 = v3 then (j80 (1 <<< (v6 &&& 31))) else
    j80 0
theorem lw_Mod_modes_52 {X : rr_X} {G : rr_G} {l : Launch} {fu : Nat} (hG : G.2.2.1.Nodup) (hll : X.2.1 = l) (C : rr_C X G cX11_modes 7 "RootRowsModel" (some .int) 1 22) {r : Int32}  (σ : rr_M) (v0 : Nat) (m_v0 : v0 ∈ G.2.2.1) (k_v0 : G.2.2.2.1 v0 = 9) (v1 : Int32) (v2 : Int32) (v3 : Int64) : ∀ (n : Nat) (v5 : Int32) (v6 : Int32) (K : Int32 → Option (Int32)), l_Mod_modes_52 fu G.2.2.2.2 v0 v1 v2 v3 σ n v5 v6 K = some r → (∀ (w5 : Int32), K w5 = some r → rr_J X G 7 (rr_E X G σ (some (.int r))) σ 89 [(5, .int w5)] []) → rr_J X G 7 (rr_E X G σ (some (.int r))) σ 52 [(0, .ref v0), (1, .int v1), (2, .int v2), (3, .long v3), (5, .int v5), (6, .int v6)] [] := by
  intro n
  induction n with
  | zero =>
    intro v5 v6 K hm
    cases hm
  | succ n ih =>
    intro v5 v6 K hm hk
    unfold l_Mod_modes_52 at hm
    refine rx_iload C 5 dX11_modes_52 rfl ?_
    refine rx_iload_n C 2 dX11_modes_54 rfl ?_
    refine rx_icmp_gt (tgt := 89) C dX11_modes_55 (by decide) hm (fun h_12 hm => ?_) (fun h_12 hm => ?_)
    · refine rx_lv [4] rfl ?_
      exact hk _ hm
    refine rx_iload C 4 dX11_modes_58 rfl ?_
    refine rx_aload_n C 0 dX11_modes_60 rfl ?_
    refine rx_iload_n C 1 dX11_modes_61 rfl ?_
    refine rx_iload C 5 dX11_modes_62 rfl ?_
    obtain ⟨r_13, hc_14, hm⟩ := rr_b0_some hm
    refine rr_callV (rest := [.int v5]) (st1 := [.long r_13, .int v5]) C 9 hll (c_Mod_at l G hG v0 m_v0 k_v0 v1 v6 σ _ hc_14) q_950 q_952 qs_44 q_11 q_953 hd_Mod_at ⟨_, rfl, rfl⟩ (by decide) m_v0 k_v0 ⟨by decide, by decide⟩ rfl rfl (Nat.le_of_ble_eq_true rfl) rfl dX11_modes_64 ?_
    refine rx_lload_n C 3 dX11_modes_67 rfl ?_
    refine rr_jn1 hm (fun j80 ej80 hm => ?_)
    have hj80 : ∀ (t_15 : Int32), j80 t_15 = some r → rr_J X G 7 (rr_E X G σ (some (.int r))) σ 80 [(0, .ref v0), (1, .int v1), (2, .int v2), (3, .long v3), (5, .int v5), (6, .int v6)] [.int t_15, .int v5] := by
      intro t_15 hm
      replace hm := ej80 _ hm
      refine rx_ior C dX11_modes_80 ?_
      refine rx_nmi hm (fun v5_16 ev5_16 hm => ?_)
      refine rx_istore (lv1 := [(5, .int v5_16), (0, .ref v0), (1, .int v1), (2, .int v2), (3, .long v3), (6, .int v6)]) C dX11_modes_81 (by decide) rfl ?_
      refine rx_iinc (d := 1) (lv1 := fun v => [(6, .int v), (5, .int v5_16), (0, .ref v0), (1, .int v1), (2, .int v2), (3, .long v3)]) C 5 dX11_modes_83 hm rfl rfl (by decide) (fun _ => rfl) (fun v6_17 hm => ?_)
      refine rx_goto (tgt := 52) C dX11_modes_86 (by decide) ?_
      refine rx_lv [2, 3, 4, 5, 1, 0] rfl ?_
      exact ih _ _ _ hm hk
    refine rx_lcmp_ne (tgt := 79) C dX11_modes_68 dX11_modes_69 (by decide) hm (fun h_18 hm => ?_) (fun h_18 hm => ?_)
    · refine rx_iconst (v := 0) C dX11_modes_79 rfl ?_
      refine rx_lv [0, 1, 2, 3, 4, 5] rfl ?_
      exact hj80 _ hm
    refine rx_iconst (v := 1) C dX11_modes_72 rfl ?_
    refine rx_iload C 5 dX11_modes_73 rfl ?_
    refine rx_ishl C dX11_modes_75 ?_
    refine rx_goto (tgt := 80) C dX11_modes_76 (by decide) ?_
    refine rx_lv [0, 1, 2, 3, 4, 5] rfl ?_
    exact hj80 _ hm
def f_Mod_modes (fu : Nat) (N : Nat → Nat) (v0 : Nat) (v1 : Int32) (v2 : Int32) (σ : rr_M) : Option (Int32) :=
    Option.bind (f_Mod_at N v0 v1 0 σ) fun r_1 =>
    l_Mod_modes_10 fu N v0 v1 v2 σ fu r_1 1 (fun v3_11 =>
    l_Mod_modes_52 fu N v0 v1 v2 v3_11 σ fu 0 0 (fun v5_19 =>
    some (v5_19)))
theorem c_Mod_modes (l : Launch) (G : rr_G) (hG : G.2.2.1.Nodup) (fu : Nat) (v0 : Nat) (m_v0 : v0 ∈ G.2.2.1) (k_v0 : G.2.2.2.1 v0 = 9) (v1 : Int32) (v2 : Int32) (σ : rr_M) (r : Int32) (hm : f_Mod_modes fu G.2.2.2.2 v0 v1 v2 σ = some r) : rr_Met l G yX11_modes cX11_modes 7 (some .int) 1 22 [.ref v0, .int v1, .int v2] σ σ (some (.int r)) := by
  refine rr_enter (lv0 := [(0, .ref v0), (1, .int v1), (2, .int v2)]) hp_Mod_modes hG (Nat.le_of_ble_eq_true rfl) rfl (fun X hll C => ?_)
  replace C : rr_C X G cX11_modes 7 "RootRowsModel" (some .int) 1 22 := C
  unfold f_Mod_modes at hm
  refine rx_aload_n C 0 dX11_modes_0 rfl ?_
  refine rx_iload_n C 1 dX11_modes_1 rfl ?_
  refine rx_iconst (v := 0) C dX11_modes_2 rfl ?_
  obtain ⟨r_1, hc_2, hm⟩ := rr_b0_some hm
  refine rr_callV (rest := []) (st1 := [.long r_1]) C 9 hll (c_Mod_at l G hG v0 m_v0 k_v0 v1 0 σ _ hc_2) q_950 q_952 qs_44 q_11 q_953 hd_Mod_at ⟨_, rfl, rfl⟩ (by decide) m_v0 k_v0 ⟨by decide, by decide⟩ rfl rfl (Nat.le_of_ble_eq_true rfl) rfl dX11_modes_3 ?_
  refine rx_lstore_n (lv1 := [(3, .long r_1), (0, .ref v0), (1, .int v1), (2, .int v2)]) C dX11_modes_6 (by decide) rfl ?_
  refine rx_iconst (v := 1) C dX11_modes_7 rfl ?_
  refine rx_istore (lv1 := [(5, .int 1), (3, .long r_1), (0, .ref v0), (1, .int v1), (2, .int v2)]) C dX11_modes_8 (by decide) rfl ?_
  refine rx_lv [2, 3, 4, 1, 0] rfl ?_
  refine lw_Mod_modes_10 hG hll C σ v0 m_v0 k_v0 v1 v2 _ _ _ _ hm (fun v3_11 hm => ?_)
  refine rx_iconst (v := 0) C dX11_modes_46 rfl ?_
  refine rx_istore (lv1 := [(5, .int 0), (0, .ref v0), (1, .int v1), (2, .int v2), (3, .long v3_11)]) C dX11_modes_47 (by decide) rfl ?_
  refine rx_iconst (v := 0) C dX11_modes_49 rfl ?_
  refine rx_istore (lv1 := [(6, .int 0), (5, .int 0), (0, .ref v0), (1, .int v1), (2, .int v2), (3, .long v3_11)]) C dX11_modes_50 (by decide) rfl ?_
  refine rx_lv [2, 3, 4, 5, 1, 0] rfl ?_
  refine lw_Mod_modes_52 hG hll C σ v0 m_v0 k_v0 v1 v2 v3_11 _ _ _ _ hm (fun v5_19 hm => ?_)
  refine rx_iload C 0 dX11_modes_89 rfl ?_
  exact rx_iretR C dX11_modes_91 hm
def l_Mod_moves_26 (fu : Nat) (N : Nat → Nat) (v0 : Nat) (v3 : Int32) : Nat → Int32 → rr_M → (rr_M → Option (Int32 × rr_M)) → Option (Int32 × rr_M)
  | 0, _, _, _ => none
  | n + 1, v4, σ, kk =>
    if v4 < v3 then (kk σ) else
    Option.bind (f_Mod_slot 36 (v4 + 1)) fun r_7 =>
    rr_bd (f_Mod_multiplies fu N v0 1 r_7 0 σ) fun _ σ_9 =>
    Option.bind (f_Mod_slot 36 v4) fun r_11 =>
    Option.bind (f_Mod_slot 36 v4) fun r_13 =>
    rr_bd (f_Mod_adds fu N v0 r_11 r_13 1 1 σ_9) fun _ σ_15 =>
    rr_lt (v4 + (-1)) fun v4_17 =>
    l_Mod_moves_26 fu N v0 v3 n v4_17 σ_15 kk
theorem lw_Mod_moves_26 {X : rr_X} {G : rr_G} {l : Launch} {fu : Nat} (hG : G.2.2.1.Nodup) (hll : X.2.1 = l) (C : rr_C X G cX11_moves 5 "RootRowsModel" (some .boolean) 3 79) {r : Int32} {σr : rr_M} (v0 : Nat) (m_v0 : v0 ∈ G.2.2.1) (k_v0 : G.2.2.2.1 v0 = 9) (v3 : Int32) : ∀ (n : Nat) (v4 : Int32) (σ : rr_M) (K : rr_M → Option (Int32 × rr_M)), l_Mod_moves_26 fu G.2.2.2.2 v0 v3 n v4 σ K = some (r, σr) → (∀ (σ1 : rr_M), K σ1 = some (r, σr) → rr_J X G 5 (rr_E X G σr (some (.int r))) σ1 73 [(0, .ref v0), (3, .int v3)] []) → rr_J X G 5 (rr_E X G σr (some (.int r))) σ 26 [(0, .ref v0), (3, .int v3), (4, .int v4)] [] := by
  intro n
  induction n with
  | zero =>
    intro v4 σ K hm
    cases hm
  | succ n ih =>
    intro v4 σ K hm hk
    unfold l_Mod_moves_26 at hm
    refine rx_iload C 2 dX11_moves_26 rfl ?_
    refine rx_iload_n C 1 dX11_moves_28 rfl ?_
    refine rx_icmp_lt (tgt := 73) C dX11_moves_29 (by decide) hm (fun h_6 hm => ?_) (fun h_6 hm => ?_)
    · refine rx_lv [0, 1] rfl ?_
      exact hk _ hm
    refine rx_aload_n C 0 dX11_moves_32 rfl ?_
    refine rx_iconst (v := 1) C dX11_moves_33 rfl ?_
    refine rx_bipush (v := 36) C dX11_moves_34 rfl ?_
    refine rx_iload C 2 dX11_moves_36 rfl ?_
    refine rx_iconst (v := 1) C dX11_moves_38 rfl ?_
    refine rx_iadd C dX11_moves_39 ?_
    obtain ⟨r_7, hc_8, hm⟩ := rr_b0_some hm
    refine rr_callS (rest := [.int 1, .ref v0]) (st1 := [.int r_7, .int 1, .ref v0]) C hll (c_Mod_slot l G hG 36 (v4 + 1) σ _ hc_8) q_989 q_990 q_11 q_991 hd_Mod_slot ⟨by decide, by decide⟩ rfl rfl (Nat.le_of_ble_eq_true rfl) rfl dX11_moves_40 ?_
    refine rx_iconst (v := 0) C dX11_moves_43 rfl ?_
    obtain ⟨_, σ_9, hc_10, hm⟩ := rr_bd_some hm
    refine rr_callV (rest := []) (st1 := []) C 9 hll (c_Mod_multiplies l G hG fu v0 m_v0 k_v0 1 r_7 0 σ _ hc_10) q_1001 q_1003 qs_51 q_11 q_1004 hd_Mod_multiplies ⟨_, rfl, rfl⟩ (by decide) m_v0 k_v0 ⟨by decide, by decide⟩ rfl rfl (Nat.le_of_ble_eq_true rfl) rfl dX11_moves_44 ?_
    refine rx_aload_n C 0 dX11_moves_47 rfl ?_
    refine rx_bipush (v := 36) C dX11_moves_48 rfl ?_
    refine rx_iload C 2 dX11_moves_50 rfl ?_
    obtain ⟨r_11, hc_12, hm⟩ := rr_b0_some hm
    refine rr_callS (rest := [.ref v0]) (st1 := [.int r_11, .ref v0]) C hll (c_Mod_slot l G hG 36 v4 σ_9 _ hc_12) q_989 q_990 q_11 q_991 hd_Mod_slot ⟨by decide, by decide⟩ rfl rfl (Nat.le_of_ble_eq_true rfl) rfl dX11_moves_52 ?_
    refine rx_bipush (v := 36) C dX11_moves_55 rfl ?_
    refine rx_iload C 2 dX11_moves_57 rfl ?_
    obtain ⟨r_13, hc_14, hm⟩ := rr_b0_some hm
    refine rr_callS (rest := [.int r_11, .ref v0]) (st1 := [.int r_13, .int r_11, .ref v0]) C hll (c_Mod_slot l G hG 36 v4 σ_9 _ hc_14) q_989 q_990 q_11 q_991 hd_Mod_slot ⟨by decide, by decide⟩ rfl rfl (Nat.le_of_ble_eq_true rfl) rfl dX11_moves_59 ?_
    refine rx_iconst (v := 1) C dX11_moves_62 rfl ?_
    refine rx_iconst (v := 1) C dX11_moves_63 rfl ?_
    obtain ⟨_, σ_15, hc_16, hm⟩ := rr_bd_some hm
    refine rr_callV (rest := []) (st1 := []) C 9 hll (c_Mod_adds l G hG fu v0 m_v0 k_v0 r_11 r_13 1 1 σ_9 _ hc_16) q_1013 q_1015 qs_54 q_11 q_1016 hd_Mod_adds ⟨_, rfl, rfl⟩ (by decide) m_v0 k_v0 ⟨by decide, by decide⟩ rfl rfl (Nat.le_of_ble_eq_true rfl) rfl dX11_moves_64 ?_
    refine rx_iinc (d := (-1)) (lv1 := fun v => [(4, .int v), (0, .ref v0), (3, .int v3)]) C 2 dX11_moves_67 hm rfl rfl (by decide) (fun _ => rfl) (fun v4_17 hm => ?_)
    refine rx_goto (tgt := 26) C dX11_moves_70 (by decide) ?_
    refine rx_lv [1, 2, 0] rfl ?_
    exact ih _ _ _ hm hk
def l_Mod_moves_16 (fu : Nat) (N : Nat → Nat) (v0 : Nat) : Nat → Int32 → rr_M → (rr_M → Option (Int32 × rr_M)) → Option (Int32 × rr_M)
  | 0, _, _, _ => none
  | n + 1, v3, σ, kk =>
    if 8 ≤ v3 then (kk σ) else
    l_Mod_moves_26 fu N v0 v3 fu 7 σ (fun σ_18 =>
    rr_lt (v3 + 1) fun v3_19 =>
    l_Mod_moves_16 fu N v0 n v3_19 σ_18 kk)
theorem lw_Mod_moves_16 {X : rr_X} {G : rr_G} {l : Launch} {fu : Nat} (hG : G.2.2.1.Nodup) (hll : X.2.1 = l) (C : rr_C X G cX11_moves 5 "RootRowsModel" (some .boolean) 3 79) {r : Int32} {σr : rr_M} (v0 : Nat) (m_v0 : v0 ∈ G.2.2.1) (k_v0 : G.2.2.2.1 v0 = 9) : ∀ (n : Nat) (v3 : Int32) (σ : rr_M) (K : rr_M → Option (Int32 × rr_M)), l_Mod_moves_16 fu G.2.2.2.2 v0 n v3 σ K = some (r, σr) → (∀ (σ1 : rr_M), K σ1 = some (r, σr) → rr_J X G 5 (rr_E X G σr (some (.int r))) σ1 79 [(0, .ref v0)] []) → rr_J X G 5 (rr_E X G σr (some (.int r))) σ 16 [(0, .ref v0), (3, .int v3)] [] := by
  intro n
  induction n with
  | zero =>
    intro v3 σ K hm
    cases hm
  | succ n ih =>
    intro v3 σ K hm hk
    unfold l_Mod_moves_16 at hm
    refine rx_iload_n C 1 dX11_moves_16 rfl ?_
    refine rx_bipush (v := 8) C dX11_moves_17 rfl ?_
    refine rx_icmp_ge (tgt := 79) C dX11_moves_19 (by decide) hm (fun h_5 hm => ?_) (fun h_5 hm => ?_)
    · refine rx_lv [0] rfl ?_
      exact hk _ hm
    refine rx_bipush (v := 7) C dX11_moves_22 rfl ?_
    refine rx_istore (lv1 := [(4, .int 7), (0, .ref v0), (3, .int v3)]) C dX11_moves_24 (by decide) rfl ?_
    refine rx_lv [1, 2, 0] rfl ?_
    refine lw_Mod_moves_26 hG hll C v0 m_v0 k_v0 v3 _ _ _ _ hm (fun σ_18 hm => ?_)
    refine rx_iinc (d := 1) (lv1 := fun v => [(3, .int v), (0, .ref v0)]) C 1 dX11_moves_73 hm rfl rfl (by decide) (fun _ => rfl) (fun v3_19 hm => ?_)
    refine rx_goto (tgt := 16) C dX11_moves_76 (by decide) ?_
    refine rx_lv [1, 0] rfl ?_
    exact ih _ _ _ hm hk
def l_Mod_moves_81 (fu : Nat) (N : Nat → Nat) (v0 : Nat) : Nat → Int32 → rr_M → (rr_M → Option (Int32 × rr_M)) → Option (Int32 × rr_M)
  | 0, _, _, _ => none
  | n + 1, v3, σ, kk =>
    if 9 ≤ v3 then (kk σ) else
    rr_lt (mg_r σ v0 2) fun p_22 =>
    Option.bind (f_Mod_slot 36 v3) fun r_23 =>
    (if rr_ix r_23 (N p_22) then
    if (mg_i σ p_22 (rr_n r_23)) ≤ 2 then (Option.bind (f_Mod_slot 36 v3) fun r_26 =>
    Option.bind (f_Mod_longOf fu N v0 r_26 σ) fun r_28 =>
    rr_bd (f_Mod_puts N v0 21 v3 r_28 σ) fun _ σ_30 =>
    rr_lt (v3 + 1) fun v3_32 =>
    l_Mod_moves_81 fu N v0 n v3_32 σ_30 kk) else
    if rr_b1 0 then some (0, σ) else none else none)
theorem lw_Mod_moves_81 {X : rr_X} {G : rr_G} {l : Launch} {fu : Nat} (hG : G.2.2.1.Nodup) (hll : X.2.1 = l) (C : rr_C X G cX11_moves 5 "RootRowsModel" (some .boolean) 3 79) {r : Int32} {σr : rr_M} (v0 : Nat) (m_v0 : v0 ∈ G.2.2.1) (k_v0 : G.2.2.2.1 v0 = 9) : ∀ (n : Nat) (v3 : Int32) (σ : rr_M) (K : rr_M → Option (Int32 × rr_M)), l_Mod_moves_81 fu G.2.2.2.2 v0 n v3 σ K = some (r, σr) → (∀ (σ1 : rr_M), K σ1 = some (r, σr) → rr_J X G 5 (rr_E X G σr (some (.int r))) σ1 127 [] []) → rr_J X G 5 (rr_E X G σr (some (.int r))) σ 81 [(0, .ref v0), (3, .int v3)] [] := by
  intro n
  induction n with
  | zero =>
    intro v3 σ K hm
    cases hm
  | succ n ih =>
    intro v3 σ K hm hk
    unfold l_Mod_moves_81 at hm
    refine rx_iload_n C 1 dX11_moves_81 rfl ?_
    refine rx_bipush (v := 9) C dX11_moves_82 rfl ?_
    refine rx_icmp_ge (tgt := 127) C dX11_moves_84 (by decide) hm (fun h_21 hm => ?_) (fun h_21 hm => ?_)
    · refine rx_lv [] rfl ?_
      exact hk _ hm
    refine rx_aload_n C 0 dX11_moves_87 rfl ?_
    refine gf_843 C m_v0 k_v0 dX11_moves_88 hm (fun p_22 m_p_22 k_p_22 hm => ?_)
    refine rx_bipush (v := 36) C dX11_moves_91 rfl ?_
    refine rx_iload_n C 1 dX11_moves_93 rfl ?_
    obtain ⟨r_23, hc_24, hm⟩ := rr_b0_some hm
    refine rr_callS (rest := [.ref p_22]) (st1 := [.int r_23, .ref p_22]) C hll (c_Mod_slot l G hG 36 v3 σ _ hc_24) q_989 q_990 q_11 q_991 hd_Mod_slot ⟨by decide, by decide⟩ rfl rfl (Nat.le_of_ble_eq_true rfl) rfl dX11_moves_94 ?_
    refine rx_iald C m_p_22 k_p_22 dX11_moves_97 hm (fun hm => ?_)
    refine rx_iconst (v := 2) C dX11_moves_98 rfl ?_
    refine rx_icmp_le (tgt := 104) C dX11_moves_99 (by decide) hm (fun h_25 hm => ?_) (fun h_25 hm => ?_)
    · refine rx_aload_n C 0 dX11_moves_104 rfl ?_
      refine rx_bipush (v := 21) C dX11_moves_105 rfl ?_
      refine rx_iload_n C 1 dX11_moves_107 rfl ?_
      refine rx_aload_n C 0 dX11_moves_108 rfl ?_
      refine rx_bipush (v := 36) C dX11_moves_109 rfl ?_
      refine rx_iload_n C 1 dX11_moves_111 rfl ?_
      obtain ⟨r_26, hc_27, hm⟩ := rr_b0_some hm
      refine rr_callS (rest := [.ref v0, .int v3, .int 21, .ref v0]) (st1 := [.int r_26, .ref v0, .int v3, .int 21, .ref v0]) C hll (c_Mod_slot l G hG 36 v3 σ _ hc_27) q_989 q_990 q_11 q_991 hd_Mod_slot ⟨by decide, by decide⟩ rfl rfl (Nat.le_of_ble_eq_true rfl) rfl dX11_moves_112 ?_
      obtain ⟨r_28, hc_29, hm⟩ := rr_b0_some hm
      refine rr_callV (rest := [.int v3, .int 21, .ref v0]) (st1 := [.long r_28, .int v3, .int 21, .ref v0]) C 9 hll (c_Mod_longOf l G hG fu v0 m_v0 k_v0 r_26 σ _ hc_29) q_1026 q_1028 qs_57 q_11 q_1029 hd_Mod_longOf ⟨_, rfl, rfl⟩ (by decide) m_v0 k_v0 ⟨by decide, by decide⟩ rfl rfl (Nat.le_of_ble_eq_true rfl) rfl dX11_moves_115 ?_
      obtain ⟨_, σ_30, hc_31, hm⟩ := rr_bd_some hm
      refine rr_callV (rest := []) (st1 := []) C 9 hll (c_Mod_puts l G hG v0 m_v0 k_v0 21 v3 r_28 σ _ hc_31) q_921 q_923 qs_38 q_11 q_924 hd_Mod_puts ⟨_, rfl, rfl⟩ (by decide) m_v0 k_v0 ⟨by decide, by decide⟩ rfl rfl (Nat.le_of_ble_eq_true rfl) rfl dX11_moves_118 ?_
      refine rx_iinc (d := 1) (lv1 := fun v => [(3, .int v), (0, .ref v0)]) C 1 dX11_moves_121 hm rfl rfl (by decide) (fun _ => rfl) (fun v3_32 hm => ?_)
      refine rx_goto (tgt := 81) C dX11_moves_124 (by decide) ?_
      refine rx_lv [1, 0] rfl ?_
      exact ih _ _ _ hm hk
    refine rx_iconst (v := 0) C dX11_moves_102 rfl ?_
    exact rx_zret C dX11_moves_103 hm
def f_Mod_moves (fu : Nat) (N : Nat → Nat) (v0 : Nat) (v1 : Int32) (v2 : Int32) (σ : rr_M) : Option (Int32 × rr_M) :=
    rr_bd (f_Mod_takes fu N v0 36 v1 σ) fun _ σ_1 =>
    rr_bd (f_Mod_sets fu N v0 0 v2.toInt64 σ_1) fun _ σ_3 =>
    l_Mod_moves_16 fu N v0 fu 0 σ_3 (fun σ_20 =>
    l_Mod_moves_81 fu N v0 fu 0 σ_20 (fun σ_33 =>
    if rr_b1 1 then some (1, σ_33) else none))
theorem c_Mod_moves (l : Launch) (G : rr_G) (hG : G.2.2.1.Nodup) (fu : Nat) (v0 : Nat) (m_v0 : v0 ∈ G.2.2.1) (k_v0 : G.2.2.2.1 v0 = 9) (v1 : Int32) (v2 : Int32) (σ : rr_M) (r : Int32) (σr : rr_M) (hm : f_Mod_moves fu G.2.2.2.2 v0 v1 v2 σ = some (r, σr)) : rr_Met l G yX11_moves cX11_moves 5 (some .boolean) 3 79 [.ref v0, .int v1, .int v2] σ σr (some (.int r)) := by
  refine rr_enter (lv0 := [(0, .ref v0), (1, .int v1), (2, .int v2)]) hp_Mod_moves hG (Nat.le_of_ble_eq_true rfl) rfl (fun X hll C => ?_)
  replace C : rr_C X G cX11_moves 5 "RootRowsModel" (some .boolean) 3 79 := C
  unfold f_Mod_moves at hm
  refine rx_aload_n C 0 dX11_moves_0 rfl ?_
  refine rx_bipush (v := 36) C dX11_moves_1 rfl ?_
  refine rx_iload_n C 1 dX11_moves_3 rfl ?_
  obtain ⟨_, σ_1, hc_2, hm⟩ := rr_bd_some hm
  refine rr_callV (rest := []) (st1 := []) C 9 hll (c_Mod_takes l G hG fu v0 m_v0 k_v0 36 v1 σ _ hc_2) q_985 q_987 qs_48 q_11 q_988 hd_Mod_takes ⟨_, rfl, rfl⟩ (by decide) m_v0 k_v0 ⟨by decide, by decide⟩ rfl rfl (Nat.le_of_ble_eq_true rfl) rfl dX11_moves_4 ?_
  refine rx_aload_n C 0 dX11_moves_7 rfl ?_
  refine rx_iconst (v := 0) C dX11_moves_8 rfl ?_
  refine rx_iload_n C 2 dX11_moves_9 rfl ?_
  refine rx_i2l C dX11_moves_10 ?_
  obtain ⟨_, σ_3, hc_4, hm⟩ := rr_bd_some hm
  refine rr_callV (rest := []) (st1 := []) C 9 hll (c_Mod_sets l G hG fu v0 m_v0 k_v0 0 v2.toInt64 σ_1 _ hc_4) q_992 q_994 qs_49 q_11 q_995 hd_Mod_sets ⟨_, rfl, rfl⟩ (by decide) m_v0 k_v0 ⟨by decide, by decide⟩ rfl rfl (Nat.le_of_ble_eq_true rfl) rfl dX11_moves_11 ?_
  refine rx_iconst (v := 0) C dX11_moves_14 rfl ?_
  refine rx_istore_n (lv1 := [(3, .int 0), (0, .ref v0), (1, .int v1), (2, .int v2)]) C dX11_moves_15 (by decide) rfl ?_
  refine rx_lv [1, 0] rfl ?_
  refine lw_Mod_moves_16 hG hll C v0 m_v0 k_v0 _ _ _ _ hm (fun σ_20 hm => ?_)
  refine rx_iconst (v := 0) C dX11_moves_79 rfl ?_
  refine rx_istore_n (lv1 := [(3, .int 0), (0, .ref v0)]) C dX11_moves_80 (by decide) rfl ?_
  refine rx_lv [1, 0] rfl ?_
  refine lw_Mod_moves_81 hG hll C v0 m_v0 k_v0 _ _ _ _ hm (fun σ_33 hm => ?_)
  refine rx_iconst (v := 1) C dX11_moves_127 rfl ?_
  exact rx_zret C dX11_moves_128 hm
def l_Mod_number_13 (fu : Nat) (N : Nat → Nat) (v0 : Nat) : Nat → Int64 → rr_M → (Int64 → rr_M → Option (Int64 × rr_M)) → Option (Int64 × rr_M)
  | 0, _, _, _ => none
  | n + 1, v4, σ, kk =>
    if (mg_i σ v0 16) ≤ (mg_i σ v0 17) then (kk v4 σ) else
    rr_lt (mg_r σ v0 13) fun p_6 =>
    (if rr_ix (mg_i σ v0 17) (N p_6) then
    Option.bind (f_Mod_isIn ((mg_i σ p_6 (rr_n (mg_i σ v0 17))).toInt64) 48 57) fun r_7 =>
    if r_7 = 0 then (kk v4 σ) else
    rr_jn (fun (t_10 : Int64) =>
    rr_lt (ms_i σ v0 17 ((mg_i σ v0 17) + 1)) fun σ_11 =>
    l_Mod_number_13 fu N v0 n t_10 σ_11 kk) fun j81 =>
    if v4 ≤ 100000000 then (rr_lt (mg_r σ v0 13) fun p_13 =>
    (if rr_ix (mg_i σ v0 17) (N p_13) then
    j81 (((10 * v4) + ((mg_i σ p_13 (rr_n (mg_i σ v0 17))).toInt64)) - 48) else none)) else
    j81 v4 else none)
theorem lw_Mod_number_13 {X : rr_X} {G : rr_G} {l : Launch} {fu : Nat} (hG : G.2.2.1.Nodup) (hll : X.2.1 = l) (C : rr_C X G cX11_number 6 "RootRowsModel" (some .long) 1 25) {r : Int64} {σr : rr_M} (v0 : Nat) (m_v0 : v0 ∈ G.2.2.1) (k_v0 : G.2.2.2.1 v0 = 9) (v1 : Int64) (v3 : Int32) : ∀ (n : Nat) (v4 : Int64) (σ : rr_M) (K : Int64 → rr_M → Option (Int64 × rr_M)), l_Mod_number_13 fu G.2.2.2.2 v0 n v4 σ K = some (r, σr) → (∀ (w4 : Int64) (σ1 : rr_M), K w4 σ1 = some (r, σr) → rr_J X G 6 (rr_E X G σr (some (.long r))) σ1 96 [(0, .ref v0), (1, .long v1), (3, .int v3), (4, .long w4)] []) → rr_J X G 6 (rr_E X G σr (some (.long r))) σ 13 [(0, .ref v0), (1, .long v1), (3, .int v3), (4, .long v4)] [] := by
  intro n
  induction n with
  | zero =>
    intro v4 σ K hm
    cases hm
  | succ n ih =>
    intro v4 σ K hm hk
    unfold l_Mod_number_13 at hm
    refine rx_aload_n C 0 dX11_number_13 rfl ?_
    refine gf_858 C m_v0 k_v0 dX11_number_14 ?_
    refine rx_aload_n C 0 dX11_number_17 rfl ?_
    refine gf_857 C m_v0 k_v0 dX11_number_18 ?_
    refine rx_icmp_ge (tgt := 96) C dX11_number_21 (by decide) hm (fun h_5 hm => ?_) (fun h_5 hm => ?_)
    · refine rx_lv [0, 1, 2, 3] rfl ?_
      exact hk _ _ hm
    refine rx_aload_n C 0 dX11_number_24 rfl ?_
    refine gf_854 C m_v0 k_v0 dX11_number_25 hm (fun p_6 m_p_6 k_p_6 hm => ?_)
    refine rx_aload_n C 0 dX11_number_28 rfl ?_
    refine gf_858 C m_v0 k_v0 dX11_number_29 ?_
    refine rx_bald C m_p_6 k_p_6 dX11_number_32 hm (fun hm => ?_)
    refine rx_i2l C dX11_number_33 ?_
    refine rx_ldc2 C q_937 dX11_number_34 ?_
    refine rx_ldc2 C q_938 dX11_number_37 ?_
    obtain ⟨r_7, hc_8, hm⟩ := rr_b0_some hm
    refine rr_callS (rest := []) (st1 := [.int r_7]) C hll (c_Mod_isIn l G hG ((mg_i σ p_6 (rr_n (mg_i σ v0 17))).toInt64) 48 57 σ _ hc_8) q_909 q_910 q_11 q_911 hd_Mod_isIn ⟨by decide, by decide⟩ rfl rfl (Nat.le_of_ble_eq_true rfl) rfl dX11_number_40 ?_
    refine rx_if_eq (tgt := 96) C dX11_number_43 (by decide) hm (fun h_9 hm => ?_) (fun h_9 hm => ?_)
    · refine rx_lv [0, 1, 2, 3] rfl ?_
      exact hk _ _ hm
    refine rx_lload C 3 dX11_number_46 rfl ?_
    refine rx_ldc2 C q_943 dX11_number_48 ?_
    refine rr_jn1 hm (fun j81 ej81 hm => ?_)
    have hj81 : ∀ (t_10 : Int64), j81 t_10 = some (r, σr) → rr_J X G 6 (rr_E X G σr (some (.long r))) σ 81 [(0, .ref v0), (1, .long v1), (3, .int v3), (4, .long v4)] [.long t_10] := by
      intro t_10 hm
      replace hm := ej81 _ hm
      refine rx_lstore (lv1 := [(4, .long t_10), (0, .ref v0), (1, .long v1), (3, .int v3)]) C dX11_number_81 (by decide) rfl ?_
      refine rx_aload_n C 1 dX11_number_83 rfl ?_
      refine rx_dup C dX11_number_84 rfl ?_
      refine gf_858 C m_v0 k_v0 dX11_number_85 ?_
      refine rx_iconst (v := 1) C dX11_number_88 rfl ?_
      refine rx_iadd C dX11_number_89 ?_
      refine pf_858 C m_v0 k_v0 dX11_number_90 hm (fun σ_11 hm => ?_)
      refine rx_goto (tgt := 13) C dX11_number_93 (by decide) ?_
      refine rx_lv [1, 2, 3, 0] rfl ?_
      exact ih _ _ _ hm hk
    refine rx_lcmp_le (tgt := 60) C dX11_number_51 dX11_number_52 (by decide) hm (fun h_12 hm => ?_) (fun h_12 hm => ?_)
    · refine rx_ldc2 C q_948 dX11_number_60 ?_
      refine rx_lload C 3 dX11_number_63 rfl ?_
      refine rx_lmul C dX11_number_65 ?_
      refine rx_aload_n C 0 dX11_number_66 rfl ?_
      refine gf_854 C m_v0 k_v0 dX11_number_67 hm (fun p_13 m_p_13 k_p_13 hm => ?_)
      refine rx_aload_n C 0 dX11_number_70 rfl ?_
      refine gf_858 C m_v0 k_v0 dX11_number_71 ?_
      refine rx_bald C m_p_13 k_p_13 dX11_number_74 hm (fun hm => ?_)
      refine rx_i2l C dX11_number_75 ?_
      refine rx_ladd C dX11_number_76 ?_
      refine rx_ldc2 C q_937 dX11_number_77 ?_
      refine rx_lsub C dX11_number_80 ?_
      refine rx_lv [0, 1, 2, 3] rfl ?_
      exact hj81 _ hm
    refine rx_lload C 3 dX11_number_55 rfl ?_
    refine rx_goto (tgt := 81) C dX11_number_57 (by decide) ?_
    refine rx_lv [0, 1, 2, 3] rfl ?_
    exact hj81 _ hm
def f_Mod_number (fu : Nat) (N : Nat → Nat) (v0 : Nat) (v1 : Int64) (σ : rr_M) : Option (Int64 × rr_M) :=
    rr_bd (f_Mod_here fu N v0 σ) fun r_1 σ_2 =>
    rr_lt (mg_i σ_2 v0 17) fun v3_4 =>
    l_Mod_number_13 fu N v0 fu 0 σ_2 (fun v4_14 σ_15 =>
    if v4_14 ≤ v1 then (some (v4_14, σ_15)) else
    rr_bd (f_Mod_fails v0 2 v3_4 σ_15) fun _ σ_17 =>
    some (v4_14, σ_17))
theorem c_Mod_number (l : Launch) (G : rr_G) (hG : G.2.2.1.Nodup) (fu : Nat) (v0 : Nat) (m_v0 : v0 ∈ G.2.2.1) (k_v0 : G.2.2.2.1 v0 = 9) (v1 : Int64) (σ : rr_M) (r : Int64) (σr : rr_M) (hm : f_Mod_number fu G.2.2.2.2 v0 v1 σ = some (r, σr)) : rr_Met l G yX11_number cX11_number 6 (some .long) 1 25 [.ref v0, .long v1] σ σr (some (.long r)) := by
  refine rr_enter (lv0 := [(0, .ref v0), (1, .long v1)]) hp_Mod_number hG (Nat.le_of_ble_eq_true rfl) rfl (fun X hll C => ?_)
  replace C : rr_C X G cX11_number 6 "RootRowsModel" (some .long) 1 25 := C
  unfold f_Mod_number at hm
  refine rx_aload_n C 0 dX11_number_0 rfl ?_
  obtain ⟨r_1, σ_2, hc_3, hm⟩ := rr_bd_some hm
  refine rr_callV (rest := []) (st1 := [.int r_1]) C 9 hll (c_Mod_here l G hG fu v0 m_v0 k_v0 σ _ _ hc_3) q_925 q_927 qs_39 q_11 q_928 hd_Mod_here ⟨_, rfl, rfl⟩ (by decide) m_v0 k_v0 ⟨by decide, by decide⟩ rfl rfl (Nat.le_of_ble_eq_true rfl) rfl dX11_number_1 ?_
  refine rx_pop C dX11_number_4 rfl ?_
  refine rx_aload_n C 0 dX11_number_5 rfl ?_
  refine gf_858 C m_v0 k_v0 dX11_number_6 ?_
  refine rx_nmi hm (fun v3_4 ev3_4 hm => ?_)
  refine rx_istore_n (lv1 := [(3, .int v3_4), (0, .ref v0), (1, .long v1)]) C dX11_number_9 (by decide) rfl ?_
  refine rx_lconst (v := 0) C dX11_number_10 rfl ?_
  refine rx_lstore (lv1 := [(4, .long 0), (3, .int v3_4), (0, .ref v0), (1, .long v1)]) C dX11_number_11 (by decide) rfl ?_
  refine rx_lv [2, 3, 1, 0] rfl ?_
  refine lw_Mod_number_13 hG hll C v0 m_v0 k_v0 v1 v3_4 _ _ _ _ hm (fun v4_14 σ_15 hm => ?_)
  refine rx_lload C 3 dX11_number_96 rfl ?_
  refine rx_lload_n C 1 dX11_number_98 rfl ?_
  refine rx_lcmp_le (tgt := 109) C dX11_number_99 dX11_number_100 (by decide) hm (fun h_16 hm => ?_) (fun h_16 hm => ?_)
  · refine rx_lload C 3 dX11_number_109 rfl ?_
    exact rx_lret C dX11_number_111 hm
  refine rx_aload_n C 0 dX11_number_103 rfl ?_
  refine rx_iconst (v := 2) C dX11_number_104 rfl ?_
  refine rx_iload_n C 2 dX11_number_105 rfl ?_
  obtain ⟨_, σ_17, hc_18, hm⟩ := rr_bd_some hm
  refine rr_callV (rest := []) (st1 := []) C 9 hll (c_Mod_fails l G hG v0 m_v0 k_v0 2 v3_4 σ_15 _ hc_18) q_939 q_941 qs_42 q_11 q_942 hd_Mod_fails ⟨_, rfl, rfl⟩ (by decide) m_v0 k_v0 ⟨by decide, by decide⟩ rfl rfl (Nat.le_of_ble_eq_true rfl) rfl dX11_number_106 ?_
  refine rx_lload C 3 dX11_number_109 rfl ?_
  exact rx_lret C dX11_number_111 hm
def f_Mod_number_ (N : Nat → Nat) (v0 : Nat) (v1 : Int32) (v2 : Int32) (σ : rr_M) : Option (Int64 × rr_M) :=
    rr_lt (ms_i σ v0 0 0) fun σ_1 =>
    Option.bind (f_Mod_isTray v0 v1) fun r_2 =>
    if r_2 = 0 then (some ((-1000000000000000000), σ_1)) else
    Option.bind (f_Mod_isIn v2.toInt64 0 8) fun r_5 =>
    if r_5 = 0 then (some ((-1000000000000000000), σ_1)) else
    Option.bind (f_Mod_at N v0 v1 v2 σ_1) fun r_8 =>
    some (r_8, σ_1)
theorem c_Mod_number_ (l : Launch) (G : rr_G) (hG : G.2.2.1.Nodup) (v0 : Nat) (m_v0 : v0 ∈ G.2.2.1) (k_v0 : G.2.2.2.1 v0 = 9) (v1 : Int32) (v2 : Int32) (σ : rr_M) (r : Int64) (σr : rr_M) (hm : f_Mod_number_ G.2.2.2.2 v0 v1 v2 σ = some (r, σr)) : rr_Met l G yX11_number_ cX11_number_ 3 (some .long) 2 46 [.ref v0, .int v1, .int v2] σ σr (some (.long r)) := by
  refine rr_enter (lv0 := [(0, .ref v0), (1, .int v1), (2, .int v2)]) hp_Mod_number_ hG (Nat.le_of_ble_eq_true rfl) rfl (fun X hll C => ?_)
  replace C : rr_C X G cX11_number_ 3 "RootRowsModel" (some .long) 2 46 := C
  unfold f_Mod_number_ at hm
  refine rx_aload_n C 0 dX11_number__0 rfl ?_
  refine rx_iconst (v := 0) C dX11_number__1 rfl ?_
  refine pf_841 C m_v0 k_v0 dX11_number__2 hm (fun σ_1 hm => ?_)
  refine rx_aload_n C 0 dX11_number__5 rfl ?_
  refine rx_iload_n C 1 dX11_number__6 rfl ?_
  obtain ⟨r_2, hc_3, hm⟩ := rr_b0_some hm
  refine rr_callV (rest := []) (st1 := [.int r_2]) C 9 hll (c_Mod_isTray l G hG v0 m_v0 k_v0 v1 σ_1 _ hc_3) q_916 q_918 qs_37 q_11 q_919 hd_Mod_isTray ⟨_, rfl, rfl⟩ (by decide) m_v0 k_v0 ⟨by decide, by decide⟩ rfl rfl (Nat.le_of_ble_eq_true rfl) rfl dX11_number__7 ?_
  refine rx_if_eq (tgt := 34) C dX11_number__10 (by decide) hm (fun h_4 hm => ?_) (fun h_4 hm => ?_)
  · refine rx_ldc2 C q_1054 dX11_number__34 ?_
    exact rx_lret C dX11_number__37 hm
  refine rx_iload_n C 2 dX11_number__13 rfl ?_
  refine rx_i2l C dX11_number__14 ?_
  refine rx_lconst (v := 0) C dX11_number__15 rfl ?_
  refine rx_ldc2 C q_949 dX11_number__16 ?_
  obtain ⟨r_5, hc_6, hm⟩ := rr_b0_some hm
  refine rr_callS (rest := []) (st1 := [.int r_5]) C hll (c_Mod_isIn l G hG v2.toInt64 0 8 σ_1 _ hc_6) q_909 q_910 q_11 q_911 hd_Mod_isIn ⟨by decide, by decide⟩ rfl rfl (Nat.le_of_ble_eq_true rfl) rfl dX11_number__19 ?_
  refine rx_if_eq (tgt := 34) C dX11_number__22 (by decide) hm (fun h_7 hm => ?_) (fun h_7 hm => ?_)
  · refine rx_ldc2 C q_1054 dX11_number__34 ?_
    exact rx_lret C dX11_number__37 hm
  refine rx_aload_n C 0 dX11_number__25 rfl ?_
  refine rx_iload_n C 1 dX11_number__26 rfl ?_
  refine rx_iload_n C 2 dX11_number__27 rfl ?_
  obtain ⟨r_8, hc_9, hm⟩ := rr_b0_some hm
  refine rr_callV (rest := []) (st1 := [.long r_8]) C 9 hll (c_Mod_at l G hG v0 m_v0 k_v0 v1 v2 σ_1 _ hc_9) q_950 q_952 qs_44 q_11 q_953 hd_Mod_at ⟨_, rfl, rfl⟩ (by decide) m_v0 k_v0 ⟨by decide, by decide⟩ rfl rfl (Nat.le_of_ble_eq_true rfl) rfl dX11_number__28 ?_
  refine rx_goto (tgt := 37) C dX11_number__31 (by decide) ?_
  exact rx_lret C dX11_number__37 hm
def l_Mod_oftenOf_31 (fu : Nat) (N : Nat → Nat) (v0 : Nat) (v1 : Int32) : Nat → Int32 → Int32 → Int32 → rr_M → (Int32 → rr_M → Option (Int32 × rr_M)) → Option (Int32 × rr_M)
  | 0, _, _, _, _, _ => none
  | n + 1, v2, v3, v4, σ, kk =>
    if (v4 - v3) ≤ 1 then (kk v2 σ) else
    rr_bd (f_Mod_adds fu N v0 454 452 453 1 σ) fun _ σ_8 =>
    rr_bd (f_Mod_adds fu N v0 452 452 452 1 σ_8) fun _ σ_10 =>
    rr_bd (f_Mod_adds fu N v0 453 453 453 1 σ_10) fun _ σ_12 =>
    rr_lt (v2 + 1) fun v2_14 =>
    rr_bd (f_Mod_copies fu N v0 15 454 σ_12) fun _ σ_15 =>
    rr_bd (f_Mod_countOf fu N v0 0 v2_14 σ_15) fun r_17 σ_18 =>
    rr_jn (fun (v3_20 : Int32) (v4_21 : Int32) (σ_22 : rr_M) =>
    l_Mod_oftenOf_31 fu N v0 v1 n v2_14 v3_20 v4_21 σ_22 kk) fun j137 =>
    if v1 < r_17 then (rr_bd (f_Mod_copies fu N v0 453 454 σ_18) fun _ σ_24 =>
    j137 v3 r_17 σ_24) else
    rr_bd (f_Mod_copies fu N v0 452 454 σ_18) fun _ σ_26 =>
    j137 r_17 v4 σ_26
theorem lw_Mod_oftenOf_31 {X : rr_X} {G : rr_G} {l : Launch} {fu : Nat} (hG : G.2.2.1.Nodup) (hll : X.2.1 = l) (C : rr_C X G cX11_oftenOf 7 "RootRowsModel" (some .int) 6 151) {r : Int32} {σr : rr_M} (v0 : Nat) (m_v0 : v0 ∈ G.2.2.1) (k_v0 : G.2.2.2.1 v0 = 9) (v1 : Int32) : ∀ (n : Nat) (v2 : Int32) (v3 : Int32) (v4 : Int32) (σ : rr_M) (K : Int32 → rr_M → Option (Int32 × rr_M)), l_Mod_oftenOf_31 fu G.2.2.2.2 v0 v1 n v2 v3 v4 σ K = some (r, σr) → (∀ (w2 : Int32) (σ1 : rr_M), K w2 σ1 = some (r, σr) → rr_J X G 7 (rr_E X G σr (some (.int r))) σ1 140 [(0, .ref v0), (2, .int w2)] []) → rr_J X G 7 (rr_E X G σr (some (.int r))) σ 31 [(0, .ref v0), (1, .int v1), (2, .int v2), (3, .int v3), (4, .int v4)] [] := by
  intro n
  induction n with
  | zero =>
    intro v2 v3 v4 σ K hm
    cases hm
  | succ n ih =>
    intro v2 v3 v4 σ K hm hk
    unfold l_Mod_oftenOf_31 at hm
    refine rx_iload C 4 dX11_oftenOf_31 rfl ?_
    refine rx_iload_n C 3 dX11_oftenOf_33 rfl ?_
    refine rx_isub C dX11_oftenOf_34 ?_
    refine rx_iconst (v := 1) C dX11_oftenOf_35 rfl ?_
    refine rx_icmp_le (tgt := 140) C dX11_oftenOf_36 (by decide) hm (fun h_7 hm => ?_) (fun h_7 hm => ?_)
    · refine rx_lv [0, 2] rfl ?_
      exact hk _ _ hm
    refine rx_aload_n C 0 dX11_oftenOf_39 rfl ?_
    refine rx_sipush (v := 454) C dX11_oftenOf_40 rfl ?_
    refine rx_sipush (v := 452) C dX11_oftenOf_43 rfl ?_
    refine rx_sipush (v := 453) C dX11_oftenOf_46 rfl ?_
    refine rx_iconst (v := 1) C dX11_oftenOf_49 rfl ?_
    obtain ⟨_, σ_8, hc_9, hm⟩ := rr_bd_some hm
    refine rr_callV (rest := []) (st1 := []) C 9 hll (c_Mod_adds l G hG fu v0 m_v0 k_v0 454 452 453 1 σ _ hc_9) q_1013 q_1015 qs_54 q_11 q_1016 hd_Mod_adds ⟨_, rfl, rfl⟩ (by decide) m_v0 k_v0 ⟨by decide, by decide⟩ rfl rfl (Nat.le_of_ble_eq_true rfl) rfl dX11_oftenOf_50 ?_
    refine rx_aload_n C 0 dX11_oftenOf_53 rfl ?_
    refine rx_sipush (v := 452) C dX11_oftenOf_54 rfl ?_
    refine rx_sipush (v := 452) C dX11_oftenOf_57 rfl ?_
    refine rx_sipush (v := 452) C dX11_oftenOf_60 rfl ?_
    refine rx_iconst (v := 1) C dX11_oftenOf_63 rfl ?_
    obtain ⟨_, σ_10, hc_11, hm⟩ := rr_bd_some hm
    refine rr_callV (rest := []) (st1 := []) C 9 hll (c_Mod_adds l G hG fu v0 m_v0 k_v0 452 452 452 1 σ_8 _ hc_11) q_1013 q_1015 qs_54 q_11 q_1016 hd_Mod_adds ⟨_, rfl, rfl⟩ (by decide) m_v0 k_v0 ⟨by decide, by decide⟩ rfl rfl (Nat.le_of_ble_eq_true rfl) rfl dX11_oftenOf_64 ?_
    refine rx_aload_n C 0 dX11_oftenOf_67 rfl ?_
    refine rx_sipush (v := 453) C dX11_oftenOf_68 rfl ?_
    refine rx_sipush (v := 453) C dX11_oftenOf_71 rfl ?_
    refine rx_sipush (v := 453) C dX11_oftenOf_74 rfl ?_
    refine rx_iconst (v := 1) C dX11_oftenOf_77 rfl ?_
    obtain ⟨_, σ_12, hc_13, hm⟩ := rr_bd_some hm
    refine rr_callV (rest := []) (st1 := []) C 9 hll (c_Mod_adds l G hG fu v0 m_v0 k_v0 453 453 453 1 σ_10 _ hc_13) q_1013 q_1015 qs_54 q_11 q_1016 hd_Mod_adds ⟨_, rfl, rfl⟩ (by decide) m_v0 k_v0 ⟨by decide, by decide⟩ rfl rfl (Nat.le_of_ble_eq_true rfl) rfl dX11_oftenOf_78 ?_
    refine rx_iinc (d := 1) (lv1 := fun v => [(2, .int v), (0, .ref v0), (1, .int v1), (3, .int v3), (4, .int v4)]) C 2 dX11_oftenOf_81 hm rfl rfl (by decide) (fun _ => rfl) (fun v2_14 hm => ?_)
    refine rx_aload_n C 1 dX11_oftenOf_84 rfl ?_
    refine rx_bipush (v := 15) C dX11_oftenOf_85 rfl ?_
    refine rx_sipush (v := 454) C dX11_oftenOf_87 rfl ?_
    obtain ⟨_, σ_15, hc_16, hm⟩ := rr_bd_some hm
    refine rr_callV (rest := []) (st1 := []) C 9 hll (c_Mod_copies l G hG fu v0 m_v0 k_v0 15 454 σ_12 _ hc_16) q_1017 q_1019 qs_55 q_11 q_1020 hd_Mod_copies ⟨_, rfl, rfl⟩ (by decide) m_v0 k_v0 ⟨by decide, by decide⟩ rfl rfl (Nat.le_of_ble_eq_true rfl) rfl dX11_oftenOf_90 ?_
    refine rx_aload_n C 1 dX11_oftenOf_93 rfl ?_
    refine rx_iconst (v := 0) C dX11_oftenOf_94 rfl ?_
    refine rx_iload_n C 0 dX11_oftenOf_95 rfl ?_
    obtain ⟨r_17, σ_18, hc_19, hm⟩ := rr_bd_some hm
    refine rr_callV (rest := []) (st1 := [.int r_17]) C 9 hll (c_Mod_countOf l G hG fu v0 m_v0 k_v0 0 v2_14 σ_15 _ _ hc_19) q_1157 q_1159 qs_84 q_11 q_1160 hd_Mod_countOf ⟨_, rfl, rfl⟩ (by decide) m_v0 k_v0 ⟨by decide, by decide⟩ rfl rfl (Nat.le_of_ble_eq_true rfl) rfl dX11_oftenOf_96 ?_
    refine rx_istore (lv1 := [(5, .int r_17), (2, .int v2_14), (0, .ref v0), (1, .int v1), (3, .int v3), (4, .int v4)]) C dX11_oftenOf_99 (by decide) rfl ?_
    refine rx_iload C 0 dX11_oftenOf_101 rfl ?_
    refine rx_iload_n C 3 dX11_oftenOf_103 rfl ?_
    refine rr_jn3 hm (fun j137 ej137 hm => ?_)
    have hj137 : ∀ (v3_20 : Int32) (v4_21 : Int32) (σ_22 : rr_M), j137 v3_20 v4_21 σ_22 = some (r, σr) → rr_J X G 7 (rr_E X G σr (some (.int r))) σ_22 137 [(0, .ref v0), (1, .int v1), (2, .int v2_14), (3, .int v3_20), (4, .int v4_21)] [] := by
      intro v3_20 v4_21 σ_22 hm
      replace hm := ej137 _ _ _ hm
      refine rx_goto (tgt := 31) C dX11_oftenOf_137 (by decide) ?_
      refine rx_lv [0, 1, 2, 3, 4] rfl ?_
      exact ih _ _ _ _ _ hm hk
    refine rx_icmp_gt (tgt := 123) C dX11_oftenOf_104 (by decide) hm (fun h_23 hm => ?_) (fun h_23 hm => ?_)
    · refine rx_aload_n C 2 dX11_oftenOf_123 rfl ?_
      refine rx_sipush (v := 453) C dX11_oftenOf_124 rfl ?_
      refine rx_sipush (v := 454) C dX11_oftenOf_127 rfl ?_
      obtain ⟨_, σ_24, hc_25, hm⟩ := rr_bd_some hm
      refine rr_callV (rest := []) (st1 := []) C 9 hll (c_Mod_copies l G hG fu v0 m_v0 k_v0 453 454 σ_18 _ hc_25) q_1017 q_1019 qs_55 q_11 q_1020 hd_Mod_copies ⟨_, rfl, rfl⟩ (by decide) m_v0 k_v0 ⟨by decide, by decide⟩ rfl rfl (Nat.le_of_ble_eq_true rfl) rfl dX11_oftenOf_130 ?_
      refine rx_iload C 0 dX11_oftenOf_133 rfl ?_
      refine rx_istore (lv1 := [(4, .int r_17), (5, .int r_17), (2, .int v2_14), (0, .ref v0), (1, .int v1), (3, .int v3)]) C dX11_oftenOf_135 (by decide) rfl ?_
      refine rx_lv [3, 4, 2, 5, 0] rfl ?_
      exact hj137 _ _ _ hm
    refine rx_aload_n C 2 dX11_oftenOf_107 rfl ?_
    refine rx_sipush (v := 452) C dX11_oftenOf_108 rfl ?_
    refine rx_sipush (v := 454) C dX11_oftenOf_111 rfl ?_
    obtain ⟨_, σ_26, hc_27, hm⟩ := rr_bd_some hm
    refine rr_callV (rest := []) (st1 := []) C 9 hll (c_Mod_copies l G hG fu v0 m_v0 k_v0 452 454 σ_18 _ hc_27) q_1017 q_1019 qs_55 q_11 q_1020 hd_Mod_copies ⟨_, rfl, rfl⟩ (by decide) m_v0 k_v0 ⟨by decide, by decide⟩ rfl rfl (Nat.le_of_ble_eq_true rfl) rfl dX11_oftenOf_114 ?_
    refine rx_iload C 0 dX11_oftenOf_117 rfl ?_
    refine rx_istore_n (lv1 := [(3, .int r_17), (5, .int r_17), (2, .int v2_14), (0, .ref v0), (1, .int v1), (4, .int v4)]) C dX11_oftenOf_119 (by decide) rfl ?_
    refine rx_goto (tgt := 137) C dX11_oftenOf_120 (by decide) ?_
    refine rx_lv [3, 4, 2, 0, 5] rfl ?_
    exact hj137 _ _ _ hm
def l_Mod_oftenOf_155 (fu : Nat) (N : Nat → Nat) (v0 : Nat) (v2 : Int32) : Nat → Int32 → Int32 → rr_M → (Int32 → rr_M → Option (Int32 × rr_M)) → Option (Int32 × rr_M)
  | 0, _, _, _, _ => none
  | n + 1, v5, v6, σ, kk =>
    if (mg_i σ v0 11) ≤ v6 then (kk v5 σ) else
    rr_bd (f_Mod_countOf fu N v0 v6 v2 σ) fun r_33 σ_34 =>
    rr_lt (v5 + r_33) fun v5_36 =>
    rr_lt (v6 + 1) fun v6_37 =>
    l_Mod_oftenOf_155 fu N v0 v2 n v5_36 v6_37 σ_34 kk
theorem lw_Mod_oftenOf_155 {X : rr_X} {G : rr_G} {l : Launch} {fu : Nat} (hG : G.2.2.1.Nodup) (hll : X.2.1 = l) (C : rr_C X G cX11_oftenOf 7 "RootRowsModel" (some .int) 6 151) {r : Int32} {σr : rr_M} (v0 : Nat) (m_v0 : v0 ∈ G.2.2.1) (k_v0 : G.2.2.2.1 v0 = 9) (v2 : Int32) : ∀ (n : Nat) (v5 : Int32) (v6 : Int32) (σ : rr_M) (K : Int32 → rr_M → Option (Int32 × rr_M)), l_Mod_oftenOf_155 fu G.2.2.2.2 v0 v2 n v5 v6 σ K = some (r, σr) → (∀ (w5 : Int32) (σ1 : rr_M), K w5 σ1 = some (r, σr) → rr_J X G 7 (rr_E X G σr (some (.int r))) σ1 182 [(0, .ref v0), (2, .int v2), (5, .int w5)] []) → rr_J X G 7 (rr_E X G σr (some (.int r))) σ 155 [(0, .ref v0), (2, .int v2), (5, .int v5), (6, .int v6)] [] := by
  intro n
  induction n with
  | zero =>
    intro v5 v6 σ K hm
    cases hm
  | succ n ih =>
    intro v5 v6 σ K hm hk
    unfold l_Mod_oftenOf_155 at hm
    refine rx_iload C 3 dX11_oftenOf_155 rfl ?_
    refine rx_aload_n C 0 dX11_oftenOf_157 rfl ?_
    refine gf_852 C m_v0 k_v0 dX11_oftenOf_158 ?_
    refine rx_icmp_ge (tgt := 182) C dX11_oftenOf_161 (by decide) hm (fun h_32 hm => ?_) (fun h_32 hm => ?_)
    · refine rx_lv [0, 1, 2] rfl ?_
      exact hk _ _ hm
    refine rx_iload C 2 dX11_oftenOf_164 rfl ?_
    refine rx_aload_n C 0 dX11_oftenOf_166 rfl ?_
    refine rx_iload C 3 dX11_oftenOf_167 rfl ?_
    refine rx_iload_n C 1 dX11_oftenOf_169 rfl ?_
    obtain ⟨r_33, σ_34, hc_35, hm⟩ := rr_bd_some hm
    refine rr_callV (rest := [.int v5]) (st1 := [.int r_33, .int v5]) C 9 hll (c_Mod_countOf l G hG fu v0 m_v0 k_v0 v6 v2 σ _ _ hc_35) q_1157 q_1159 qs_84 q_11 q_1160 hd_Mod_countOf ⟨_, rfl, rfl⟩ (by decide) m_v0 k_v0 ⟨by decide, by decide⟩ rfl rfl (Nat.le_of_ble_eq_true rfl) rfl dX11_oftenOf_170 ?_
    refine rx_iadd C dX11_oftenOf_173 ?_
    refine rx_nmi hm (fun v5_36 ev5_36 hm => ?_)
    refine rx_istore (lv1 := [(5, .int v5_36), (0, .ref v0), (2, .int v2), (6, .int v6)]) C dX11_oftenOf_174 (by decide) rfl ?_
    refine rx_iinc (d := 1) (lv1 := fun v => [(6, .int v), (5, .int v5_36), (0, .ref v0), (2, .int v2)]) C 3 dX11_oftenOf_176 hm rfl rfl (by decide) (fun _ => rfl) (fun v6_37 hm => ?_)
    refine rx_goto (tgt := 155) C dX11_oftenOf_179 (by decide) ?_
    refine rx_lv [2, 3, 1, 0] rfl ?_
    exact ih _ _ _ _ hm hk
def l_Mod_oftenOf_194 (fu : Nat) (N : Nat → Nat) (v0 : Nat) (v2 : Int32) : Nat → Int32 → Int32 → rr_M → (Int32 → rr_M → Option (Int32 × rr_M)) → Option (Int32 × rr_M)
  | 0, _, _, _, _ => none
  | n + 1, v5, v6, σ, kk =>
    if (mg_i σ v0 11) ≤ v6 then (kk v5 σ) else
    rr_bd (f_Mod_countOf fu N v0 v6 v2 σ) fun r_43 σ_44 =>
    rr_lt (v5 - r_43) fun v5_46 =>
    rr_lt (v6 + 1) fun v6_47 =>
    l_Mod_oftenOf_194 fu N v0 v2 n v5_46 v6_47 σ_44 kk
theorem lw_Mod_oftenOf_194 {X : rr_X} {G : rr_G} {l : Launch} {fu : Nat} (hG : G.2.2.1.Nodup) (hll : X.2.1 = l) (C : rr_C X G cX11_oftenOf 7 "RootRowsModel" (some .int) 6 151) {r : Int32} {σr : rr_M} (v0 : Nat) (m_v0 : v0 ∈ G.2.2.1) (k_v0 : G.2.2.2.1 v0 = 9) (v2 : Int32) : ∀ (n : Nat) (v5 : Int32) (v6 : Int32) (σ : rr_M) (K : Int32 → rr_M → Option (Int32 × rr_M)), l_Mod_oftenOf_194 fu G.2.2.2.2 v0 v2 n v5 v6 σ K = some (r, σr) → (∀ (w5 : Int32) (σ1 : rr_M), K w5 σ1 = some (r, σr) → rr_J X G 7 (rr_E X G σr (some (.int r))) σ1 221 [(5, .int w5)] []) → rr_J X G 7 (rr_E X G σr (some (.int r))) σ 194 [(0, .ref v0), (2, .int v2), (5, .int v5), (6, .int v6)] [] := by
  intro n
  induction n with
  | zero =>
    intro v5 v6 σ K hm
    cases hm
  | succ n ih =>
    intro v5 v6 σ K hm hk
    unfold l_Mod_oftenOf_194 at hm
    refine rx_iload C 3 dX11_oftenOf_194 rfl ?_
    refine rx_aload_n C 0 dX11_oftenOf_196 rfl ?_
    refine gf_852 C m_v0 k_v0 dX11_oftenOf_197 ?_
    refine rx_icmp_ge (tgt := 221) C dX11_oftenOf_200 (by decide) hm (fun h_42 hm => ?_) (fun h_42 hm => ?_)
    · refine rx_lv [2] rfl ?_
      exact hk _ _ hm
    refine rx_iload C 2 dX11_oftenOf_203 rfl ?_
    refine rx_aload_n C 0 dX11_oftenOf_205 rfl ?_
    refine rx_iload C 3 dX11_oftenOf_206 rfl ?_
    refine rx_iload_n C 1 dX11_oftenOf_208 rfl ?_
    obtain ⟨r_43, σ_44, hc_45, hm⟩ := rr_bd_some hm
    refine rr_callV (rest := [.int v5]) (st1 := [.int r_43, .int v5]) C 9 hll (c_Mod_countOf l G hG fu v0 m_v0 k_v0 v6 v2 σ _ _ hc_45) q_1157 q_1159 qs_84 q_11 q_1160 hd_Mod_countOf ⟨_, rfl, rfl⟩ (by decide) m_v0 k_v0 ⟨by decide, by decide⟩ rfl rfl (Nat.le_of_ble_eq_true rfl) rfl dX11_oftenOf_209 ?_
    refine rx_isub C dX11_oftenOf_212 ?_
    refine rx_nmi hm (fun v5_46 ev5_46 hm => ?_)
    refine rx_istore (lv1 := [(5, .int v5_46), (0, .ref v0), (2, .int v2), (6, .int v6)]) C dX11_oftenOf_213 (by decide) rfl ?_
    refine rx_iinc (d := 1) (lv1 := fun v => [(6, .int v), (5, .int v5_46), (0, .ref v0), (2, .int v2)]) C 3 dX11_oftenOf_215 hm rfl rfl (by decide) (fun _ => rfl) (fun v6_47 hm => ?_)
    refine rx_goto (tgt := 194) C dX11_oftenOf_218 (by decide) ?_
    refine rx_lv [2, 3, 1, 0] rfl ?_
    exact ih _ _ _ _ hm hk
def f_Mod_oftenOf (fu : Nat) (N : Nat → Nat) (v0 : Nat) (v1 : Int32) (σ : rr_M) : Option (Int32 × rr_M) :=
    rr_bd (f_Mod_sets fu N v0 452 (-268435456) σ) fun _ σ_1 =>
    rr_bd (f_Mod_sets fu N v0 453 268435456 σ_1) fun _ σ_3 =>
    Option.bind (f_Mod_realRoots fu N v0 0 σ_3) fun r_5 =>
    l_Mod_oftenOf_31 fu N v0 v1 fu 0 0 r_5 σ_3 (fun v2_28 σ_29 =>
    rr_bd (f_Mod_copies fu N v0 15 453 σ_29) fun _ σ_30 =>
    l_Mod_oftenOf_155 fu N v0 v2_28 fu 0 0 σ_30 (fun v5_38 σ_39 =>
    rr_bd (f_Mod_copies fu N v0 15 452 σ_39) fun _ σ_40 =>
    l_Mod_oftenOf_194 fu N v0 v2_28 fu v5_38 0 σ_40 (fun v5_48 σ_49 =>
    some (v5_48, σ_49))))
theorem c_Mod_oftenOf (l : Launch) (G : rr_G) (hG : G.2.2.1.Nodup) (fu : Nat) (v0 : Nat) (m_v0 : v0 ∈ G.2.2.1) (k_v0 : G.2.2.2.1 v0 = 9) (v1 : Int32) (σ : rr_M) (r : Int32) (σr : rr_M) (hm : f_Mod_oftenOf fu G.2.2.2.2 v0 v1 σ = some (r, σr)) : rr_Met l G yX11_oftenOf cX11_oftenOf 7 (some .int) 6 151 [.ref v0, .int v1] σ σr (some (.int r)) := by
  refine rr_enter (lv0 := [(0, .ref v0), (1, .int v1)]) hp_Mod_oftenOf hG (Nat.le_of_ble_eq_true rfl) rfl (fun X hll C => ?_)
  replace C : rr_C X G cX11_oftenOf 7 "RootRowsModel" (some .int) 6 151 := C
  unfold f_Mod_oftenOf at hm
  refine rx_aload_n C 0 dX11_oftenOf_0 rfl ?_
  refine rx_sipush (v := 452) C dX11_oftenOf_1 rfl ?_
  refine rx_ldc2 C q_1181 dX11_oftenOf_4 ?_
  obtain ⟨_, σ_1, hc_2, hm⟩ := rr_bd_some hm
  refine rr_callV (rest := []) (st1 := []) C 9 hll (c_Mod_sets l G hG fu v0 m_v0 k_v0 452 (-268435456) σ _ hc_2) q_992 q_994 qs_49 q_11 q_995 hd_Mod_sets ⟨_, rfl, rfl⟩ (by decide) m_v0 k_v0 ⟨by decide, by decide⟩ rfl rfl (Nat.le_of_ble_eq_true rfl) rfl dX11_oftenOf_7 ?_
  refine rx_aload_n C 0 dX11_oftenOf_10 rfl ?_
  refine rx_sipush (v := 453) C dX11_oftenOf_11 rfl ?_
  refine rx_ldc2 C q_1182 dX11_oftenOf_14 ?_
  obtain ⟨_, σ_3, hc_4, hm⟩ := rr_bd_some hm
  refine rr_callV (rest := []) (st1 := []) C 9 hll (c_Mod_sets l G hG fu v0 m_v0 k_v0 453 268435456 σ_1 _ hc_4) q_992 q_994 qs_49 q_11 q_995 hd_Mod_sets ⟨_, rfl, rfl⟩ (by decide) m_v0 k_v0 ⟨by decide, by decide⟩ rfl rfl (Nat.le_of_ble_eq_true rfl) rfl dX11_oftenOf_17 ?_
  refine rx_iconst (v := 0) C dX11_oftenOf_20 rfl ?_
  refine rx_istore_n (lv1 := [(2, .int 0), (0, .ref v0), (1, .int v1)]) C dX11_oftenOf_21 (by decide) rfl ?_
  refine rx_iconst (v := 0) C dX11_oftenOf_22 rfl ?_
  refine rx_istore_n (lv1 := [(3, .int 0), (2, .int 0), (0, .ref v0), (1, .int v1)]) C dX11_oftenOf_23 (by decide) rfl ?_
  refine rx_aload_n C 2 dX11_oftenOf_24 rfl ?_
  refine rx_iconst (v := 0) C dX11_oftenOf_25 rfl ?_
  obtain ⟨r_5, hc_6, hm⟩ := rr_b0_some hm
  refine rr_callV (rest := []) (st1 := [.int r_5]) C 9 hll (c_Mod_realRoots l G hG fu v0 m_v0 k_v0 0 σ_3 _ hc_6) q_1111 q_1113 qs_74 q_11 q_1114 hd_Mod_realRoots ⟨_, rfl, rfl⟩ (by decide) m_v0 k_v0 ⟨by decide, by decide⟩ rfl rfl (Nat.le_of_ble_eq_true rfl) rfl dX11_oftenOf_26 ?_
  refine rx_istore (lv1 := [(4, .int r_5), (3, .int 0), (2, .int 0), (0, .ref v0), (1, .int v1)]) C dX11_oftenOf_29 (by decide) rfl ?_
  refine rx_lv [3, 4, 2, 1, 0] rfl ?_
  refine lw_Mod_oftenOf_31 hG hll C v0 m_v0 k_v0 v1 _ _ _ _ _ _ hm (fun v2_28 σ_29 hm => ?_)
  refine rx_iconst (v := 0) C dX11_oftenOf_140 rfl ?_
  refine rx_istore (lv1 := [(5, .int 0), (0, .ref v0), (2, .int v2_28)]) C dX11_oftenOf_141 (by decide) rfl ?_
  refine rx_aload_n C 1 dX11_oftenOf_143 rfl ?_
  refine rx_bipush (v := 15) C dX11_oftenOf_144 rfl ?_
  refine rx_sipush (v := 453) C dX11_oftenOf_146 rfl ?_
  obtain ⟨_, σ_30, hc_31, hm⟩ := rr_bd_some hm
  refine rr_callV (rest := []) (st1 := []) C 9 hll (c_Mod_copies l G hG fu v0 m_v0 k_v0 15 453 σ_29 _ hc_31) q_1017 q_1019 qs_55 q_11 q_1020 hd_Mod_copies ⟨_, rfl, rfl⟩ (by decide) m_v0 k_v0 ⟨by decide, by decide⟩ rfl rfl (Nat.le_of_ble_eq_true rfl) rfl dX11_oftenOf_149 ?_
  refine rx_iconst (v := 0) C dX11_oftenOf_152 rfl ?_
  refine rx_istore (lv1 := [(6, .int 0), (5, .int 0), (0, .ref v0), (2, .int v2_28)]) C dX11_oftenOf_153 (by decide) rfl ?_
  refine rx_lv [2, 3, 1, 0] rfl ?_
  refine lw_Mod_oftenOf_155 hG hll C v0 m_v0 k_v0 v2_28 _ _ _ _ _ hm (fun v5_38 σ_39 hm => ?_)
  refine rx_aload_n C 0 dX11_oftenOf_182 rfl ?_
  refine rx_bipush (v := 15) C dX11_oftenOf_183 rfl ?_
  refine rx_sipush (v := 452) C dX11_oftenOf_185 rfl ?_
  obtain ⟨_, σ_40, hc_41, hm⟩ := rr_bd_some hm
  refine rr_callV (rest := []) (st1 := []) C 9 hll (c_Mod_copies l G hG fu v0 m_v0 k_v0 15 452 σ_39 _ hc_41) q_1017 q_1019 qs_55 q_11 q_1020 hd_Mod_copies ⟨_, rfl, rfl⟩ (by decide) m_v0 k_v0 ⟨by decide, by decide⟩ rfl rfl (Nat.le_of_ble_eq_true rfl) rfl dX11_oftenOf_188 ?_
  refine rx_iconst (v := 0) C dX11_oftenOf_191 rfl ?_
  refine rx_istore (lv1 := [(6, .int 0), (0, .ref v0), (2, .int v2_28), (5, .int v5_38)]) C dX11_oftenOf_192 (by decide) rfl ?_
  refine rx_lv [1, 2, 3, 0] rfl ?_
  refine lw_Mod_oftenOf_194 hG hll C v0 m_v0 k_v0 v2_28 _ _ _ _ _ hm (fun v5_48 σ_49 hm => ?_)
  refine rx_iload C 0 dX11_oftenOf_221 rfl ?_
  exact rx_iret C dX11_oftenOf_223 hm
def l_Mod_often_21 (fu : Nat) (N : Nat → Nat) (v0 : Nat) (v2 : Int32) : Nat → Int32 → Int32 → rr_M → (rr_M → Option (Int32 × rr_M)) → Option (Int32 × rr_M)
  | 0, _, _, _, _ => none
  | n + 1, v3, v4, σ, kk =>
    Option.bind (f_Mod_realRoots fu N v0 0 σ) fun r_6 =>
    if r_6 ≤ v4 then (kk σ) else
    rr_bd (f_Mod_oftenOf fu N v0 v4 σ) fun r_9 σ_10 =>
    if (v3 + r_9) ≤ v2 then (rr_lt (v3 + r_9) fun v3_13 =>
    rr_lt (v4 + 1) fun v4_14 =>
    l_Mod_often_21 fu N v0 v2 n v3_13 v4_14 σ_10 kk) else
    some (r_9, σ_10)
theorem lw_Mod_often_21 {X : rr_X} {G : rr_G} {l : Launch} {fu : Nat} (hG : G.2.2.1.Nodup) (hll : X.2.1 = l) (C : rr_C X G cX11_often 6 "RootRowsModel" (some .int) 8 203) {r : Int32} {σr : rr_M} (v0 : Nat) (m_v0 : v0 ∈ G.2.2.1) (k_v0 : G.2.2.2.1 v0 = 9) (v2 : Int32) : ∀ (n : Nat) (v3 : Int32) (v4 : Int32) (σ : rr_M) (K : rr_M → Option (Int32 × rr_M)), l_Mod_often_21 fu G.2.2.2.2 v0 v2 n v3 v4 σ K = some (r, σr) → (∀ (σ1 : rr_M), K σ1 = some (r, σr) → rr_J X G 6 (rr_E X G σr (some (.int r))) σ1 61 [] []) → rr_J X G 6 (rr_E X G σr (some (.int r))) σ 21 [(0, .ref v0), (2, .int v2), (3, .int v3), (4, .int v4)] [] := by
  intro n
  induction n with
  | zero =>
    intro v3 v4 σ K hm
    cases hm
  | succ n ih =>
    intro v3 v4 σ K hm hk
    unfold l_Mod_often_21 at hm
    refine rx_iload C 3 dX11_often_21 rfl ?_
    refine rx_aload_n C 0 dX11_often_23 rfl ?_
    refine rx_iconst (v := 0) C dX11_often_24 rfl ?_
    obtain ⟨r_6, hc_7, hm⟩ := rr_b0_some hm
    refine rr_callV (rest := [.int v4]) (st1 := [.int r_6, .int v4]) C 9 hll (c_Mod_realRoots l G hG fu v0 m_v0 k_v0 0 σ _ hc_7) q_1111 q_1113 qs_74 q_11 q_1114 hd_Mod_realRoots ⟨_, rfl, rfl⟩ (by decide) m_v0 k_v0 ⟨by decide, by decide⟩ rfl rfl (Nat.le_of_ble_eq_true rfl) rfl dX11_often_25 ?_
    refine rx_icmp_ge (tgt := 61) C dX11_often_28 (by decide) hm (fun h_8 hm => ?_) (fun h_8 hm => ?_)
    · refine rx_lv [] rfl ?_
      exact hk _ hm
    refine rx_aload_n C 0 dX11_often_31 rfl ?_
    refine rx_iload C 3 dX11_often_32 rfl ?_
    obtain ⟨r_9, σ_10, hc_11, hm⟩ := rr_bd_some hm
    refine rr_callV (rest := []) (st1 := [.int r_9]) C 9 hll (c_Mod_oftenOf l G hG fu v0 m_v0 k_v0 v4 σ _ _ hc_11) q_1177 q_1179 qs_88 q_11 q_1180 hd_Mod_oftenOf ⟨_, rfl, rfl⟩ (by decide) m_v0 k_v0 ⟨by decide, by decide⟩ rfl rfl (Nat.le_of_ble_eq_true rfl) rfl dX11_often_34 ?_
    refine rx_istore (lv1 := [(5, .int r_9), (0, .ref v0), (2, .int v2), (3, .int v3), (4, .int v4)]) C dX11_often_37 (by decide) rfl ?_
    refine rx_iload_n C 3 dX11_often_39 rfl ?_
    refine rx_iload C 0 dX11_often_40 rfl ?_
    refine rx_iadd C dX11_often_42 ?_
    refine rx_iload_n C 2 dX11_often_43 rfl ?_
    refine rx_icmp_le (tgt := 50) C dX11_often_44 (by decide) hm (fun h_12 hm => ?_) (fun h_12 hm => ?_)
    · refine rx_iload_n C 3 dX11_often_50 rfl ?_
      refine rx_iload C 0 dX11_often_51 rfl ?_
      refine rx_iadd C dX11_often_53 ?_
      refine rx_nmi hm (fun v3_13 ev3_13 hm => ?_)
      refine rx_istore_n (lv1 := [(3, .int v3_13), (5, .int r_9), (0, .ref v0), (2, .int v2), (4, .int v4)]) C dX11_often_54 (by decide) rfl ?_
      refine rx_iinc (d := 1) (lv1 := fun v => [(4, .int v), (3, .int v3_13), (5, .int r_9), (0, .ref v0), (2, .int v2)]) C 4 dX11_often_55 hm rfl rfl (by decide) (fun _ => rfl) (fun v4_14 hm => ?_)
      refine rx_goto (tgt := 21) C dX11_often_58 (by decide) ?_
      refine rx_lv [3, 4, 1, 0] rfl ?_
      exact ih _ _ _ _ hm hk
    refine rx_iload C 0 dX11_often_47 rfl ?_
    exact rx_iret C dX11_often_49 hm
def f_Mod_often (fu : Nat) (N : Nat → Nat) (v0 : Nat) (v1 : Int32) (v2 : Int32) (σ : rr_M) : Option (Int32 × rr_M) :=
    rr_lt (ms_i σ v0 0 0) fun σ_1 =>
    rr_bd (f_Mod_isRoot fu N v0 v1 v2 σ_1) fun r_2 σ_3 =>
    if r_2 = 0 then (some ((-1), σ_3)) else
    l_Mod_often_21 fu N v0 v2 fu 0 0 σ_3 (fun σ_15 =>
    some ((-1), σ_15))
theorem c_Mod_often (l : Launch) (G : rr_G) (hG : G.2.2.1.Nodup) (fu : Nat) (v0 : Nat) (m_v0 : v0 ∈ G.2.2.1) (k_v0 : G.2.2.2.1 v0 = 9) (v1 : Int32) (v2 : Int32) (σ : rr_M) (r : Int32) (σr : rr_M) (hm : f_Mod_often fu G.2.2.2.2 v0 v1 v2 σ = some (r, σr)) : rr_Met l G yX11_often cX11_often 6 (some .int) 8 203 [.ref v0, .int v1, .int v2] σ σr (some (.int r)) := by
  refine rr_enter (lv0 := [(0, .ref v0), (1, .int v1), (2, .int v2)]) hp_Mod_often hG (Nat.le_of_ble_eq_true rfl) rfl (fun X hll C => ?_)
  replace C : rr_C X G cX11_often 6 "RootRowsModel" (some .int) 8 203 := C
  unfold f_Mod_often at hm
  refine rx_aload_n C 0 dX11_often_0 rfl ?_
  refine rx_iconst (v := 0) C dX11_often_1 rfl ?_
  refine pf_841 C m_v0 k_v0 dX11_often_2 hm (fun σ_1 hm => ?_)
  refine rx_aload_n C 0 dX11_often_5 rfl ?_
  refine rx_iload_n C 1 dX11_often_6 rfl ?_
  refine rx_iload_n C 2 dX11_often_7 rfl ?_
  obtain ⟨r_2, σ_3, hc_4, hm⟩ := rr_bd_some hm
  refine rr_callV (rest := []) (st1 := [.int r_2]) C 9 hll (c_Mod_isRoot l G hG fu v0 m_v0 k_v0 v1 v2 σ_1 _ _ hc_4) q_1140 q_1142 qs_80 q_11 q_1143 hd_Mod_isRoot ⟨_, rfl, rfl⟩ (by decide) m_v0 k_v0 ⟨by decide, by decide⟩ rfl rfl (Nat.le_of_ble_eq_true rfl) rfl dX11_often_8 ?_
  refine rx_if_ne (tgt := 16) C dX11_often_11 (by decide) hm (fun h_5 hm => ?_) (fun h_5 hm => ?_)
  · refine rx_iconst (v := 0) C dX11_often_16 rfl ?_
    refine rx_istore_n (lv1 := [(3, .int 0), (0, .ref v0), (1, .int v1), (2, .int v2)]) C dX11_often_17 (by decide) rfl ?_
    refine rx_iconst (v := 0) C dX11_often_18 rfl ?_
    refine rx_istore (lv1 := [(4, .int 0), (3, .int 0), (0, .ref v0), (1, .int v1), (2, .int v2)]) C dX11_often_19 (by decide) rfl ?_
    refine rx_lv [2, 4, 1, 0] rfl ?_
    refine lw_Mod_often_21 hG hll C v0 m_v0 k_v0 v2 _ _ _ _ _ hm (fun σ_15 hm => ?_)
    refine rx_iconst (v := (-1)) C dX11_often_61 rfl ?_
    exact rx_iret C dX11_often_62 hm
  refine rx_iconst (v := (-1)) C dX11_often_14 rfl ?_
  exact rx_iret C dX11_often_15 hm
def l_Mod_scaled_11 (fu : Nat) (N : Nat → Nat) (v2 : Int32) (v3 : Int32) (σ : rr_M) : Nat → Int64 → Int32 → (Int64 → Option (Int64)) → Option (Int64)
  | 0, _, _, _ => none
  | n + 1, v4, v6, kk =>
    if v2 ≤ v6 then (kk v4) else
    Option.bind (f_Mod_size v4) fun r_4 =>
    if 100000000 < r_4 then (kk v4) else
    rr_lt (v4 * v3.toInt64) fun v4_7 =>
    rr_lt (v6 + 1) fun v6_8 =>
    l_Mod_scaled_11 fu N v2 v3 σ n v4_7 v6_8 kk
theorem lw_Mod_scaled_11 {X : rr_X} {G : rr_G} {l : Launch} {fu : Nat} (hG : G.2.2.1.Nodup) (hll : X.2.1 = l) (C : rr_C X G cX11_scaled 7 "RootRowsModel" (some .long) 1 22) {r : Int64}  (σ : rr_M) (v2 : Int32) (v3 : Int32) : ∀ (n : Nat) (v4 : Int64) (v6 : Int32) (K : Int64 → Option (Int64)), l_Mod_scaled_11 fu G.2.2.2.2 v2 v3 σ n v4 v6 K = some r → (∀ (w4 : Int64), K w4 = some r → rr_J X G 7 (rr_E X G σ (some (.long r))) σ 42 [(4, .long w4)] []) → rr_J X G 7 (rr_E X G σ (some (.long r))) σ 11 [(2, .int v2), (3, .int v3), (4, .long v4), (6, .int v6)] [] := by
  intro n
  induction n with
  | zero =>
    intro v4 v6 K hm
    cases hm
  | succ n ih =>
    intro v4 v6 K hm hk
    unfold l_Mod_scaled_11 at hm
    refine rx_iload C 3 dX11_scaled_11 rfl ?_
    refine rx_iload_n C 0 dX11_scaled_13 rfl ?_
    refine rx_icmp_ge (tgt := 42) C dX11_scaled_14 (by decide) hm (fun h_3 hm => ?_) (fun h_3 hm => ?_)
    · refine rx_lv [2] rfl ?_
      exact hk _ hm
    refine rx_lload C 2 dX11_scaled_17 rfl ?_
    obtain ⟨r_4, hc_5, hm⟩ := rr_b0_some hm
    refine rr_callS (rest := []) (st1 := [.long r_4]) C hll (c_Mod_size l G hG v4 σ _ hc_5) q_958 q_959 q_11 q_960 hd_Mod_size ⟨by decide, by decide⟩ rfl rfl (Nat.le_of_ble_eq_true rfl) rfl dX11_scaled_19 ?_
    refine rx_ldc2 C q_943 dX11_scaled_22 ?_
    refine rx_lcmp_gt (tgt := 42) C dX11_scaled_25 dX11_scaled_26 (by decide) hm (fun h_6 hm => ?_) (fun h_6 hm => ?_)
    · refine rx_lv [2] rfl ?_
      exact hk _ hm
    refine rx_lload C 2 dX11_scaled_29 rfl ?_
    refine rx_iload_n C 1 dX11_scaled_31 rfl ?_
    refine rx_i2l C dX11_scaled_32 ?_
    refine rx_lmul C dX11_scaled_33 ?_
    refine rx_nml hm (fun v4_7 ev4_7 hm => ?_)
    refine rx_lstore (lv1 := [(4, .long v4_7), (2, .int v2), (3, .int v3), (6, .int v6)]) C dX11_scaled_34 (by decide) rfl ?_
    refine rx_iinc (d := 1) (lv1 := fun v => [(6, .int v), (4, .long v4_7), (2, .int v2), (3, .int v3)]) C 3 dX11_scaled_36 hm rfl rfl (by decide) (fun _ => rfl) (fun v6_8 hm => ?_)
    refine rx_goto (tgt := 11) C dX11_scaled_39 (by decide) ?_
    refine rx_lv [2, 3, 1, 0] rfl ?_
    exact ih _ _ _ hm hk
def f_Mod_scaled (fu : Nat) (N : Nat → Nat) (v0 : Nat) (v1 : Int32) (v2 : Int32) (v3 : Int32) (σ : rr_M) : Option (Int64) :=
    Option.bind (f_Mod_at N v0 v1 v2 σ) fun r_1 =>
    l_Mod_scaled_11 fu N v2 v3 σ fu r_1 0 (fun v4_9 =>
    some (v4_9))
theorem c_Mod_scaled (l : Launch) (G : rr_G) (hG : G.2.2.1.Nodup) (fu : Nat) (v0 : Nat) (m_v0 : v0 ∈ G.2.2.1) (k_v0 : G.2.2.2.1 v0 = 9) (v1 : Int32) (v2 : Int32) (v3 : Int32) (σ : rr_M) (r : Int64) (hm : f_Mod_scaled fu G.2.2.2.2 v0 v1 v2 v3 σ = some r) : rr_Met l G yX11_scaled cX11_scaled 7 (some .long) 1 22 [.ref v0, .int v1, .int v2, .int v3] σ σ (some (.long r)) := by
  refine rr_enter (lv0 := [(0, .ref v0), (1, .int v1), (2, .int v2), (3, .int v3)]) hp_Mod_scaled hG (Nat.le_of_ble_eq_true rfl) rfl (fun X hll C => ?_)
  replace C : rr_C X G cX11_scaled 7 "RootRowsModel" (some .long) 1 22 := C
  unfold f_Mod_scaled at hm
  refine rx_aload_n C 0 dX11_scaled_0 rfl ?_
  refine rx_iload_n C 1 dX11_scaled_1 rfl ?_
  refine rx_iload_n C 2 dX11_scaled_2 rfl ?_
  obtain ⟨r_1, hc_2, hm⟩ := rr_b0_some hm
  refine rr_callV (rest := []) (st1 := [.long r_1]) C 9 hll (c_Mod_at l G hG v0 m_v0 k_v0 v1 v2 σ _ hc_2) q_950 q_952 qs_44 q_11 q_953 hd_Mod_at ⟨_, rfl, rfl⟩ (by decide) m_v0 k_v0 ⟨by decide, by decide⟩ rfl rfl (Nat.le_of_ble_eq_true rfl) rfl dX11_scaled_3 ?_
  refine rx_lstore (lv1 := [(4, .long r_1), (0, .ref v0), (1, .int v1), (2, .int v2), (3, .int v3)]) C dX11_scaled_6 (by decide) rfl ?_
  refine rx_iconst (v := 0) C dX11_scaled_8 rfl ?_
  refine rx_istore (lv1 := [(6, .int 0), (4, .long r_1), (0, .ref v0), (1, .int v1), (2, .int v2), (3, .int v3)]) C dX11_scaled_9 (by decide) rfl ?_
  refine rx_lv [4, 5, 1, 0] rfl ?_
  refine lw_Mod_scaled_11 hG hll C σ v2 v3 _ _ _ _ hm (fun v4_9 hm => ?_)
  refine rx_lload C 0 dX11_scaled_42 rfl ?_
  exact rx_lretR C dX11_scaled_44 hm
def l_Mod_operate_121 (fu : Nat) (N : Nat → Nat) (v3 : Int32) (v5 : Int32) (σ : rr_M) : Nat → Int64 → Int32 → (Int64 → Option (Int32 × rr_M)) → Option (Int32 × rr_M)
  | 0, _, _, _ => none
  | n + 1, v6, v8, kk =>
    if v5 < v8 then (kk v6) else
    if v3 = 9 then (rr_lt (v6 * v8.toInt64) fun v6_21 =>
    rr_lt (v8 + 1) fun v8_22 =>
    l_Mod_operate_121 fu N v3 v5 σ n v6_21 v8_22 kk) else
    kk v6
theorem lw_Mod_operate_121 {X : rr_X} {G : rr_G} {l : Launch} {fu : Nat} (hG : G.2.2.1.Nodup) (hll : X.2.1 = l) (C : rr_C X G cX11_operate 9 "RootRowsModel" (some .boolean) 4 103) {r : Int32} {σr : rr_M} (σ : rr_M) (v0 : Nat) (m_v0 : v0 ∈ G.2.2.1) (k_v0 : G.2.2.2.1 v0 = 9) (v1 : Int32) (v2 : Int32) (v3 : Int32) (v4 : Int32) (v5 : Int32) : ∀ (n : Nat) (v6 : Int64) (v8 : Int32) (K : Int64 → Option (Int32 × rr_M)), l_Mod_operate_121 fu G.2.2.2.2 v3 v5 σ n v6 v8 K = some (r, σr) → (∀ (w6 : Int64), K w6 = some (r, σr) → rr_J X G 9 (rr_E X G σr (some (.int r))) σ 148 [(0, .ref v0), (1, .int v1), (2, .int v2), (3, .int v3), (4, .int v4), (5, .int v5), (6, .long w6)] []) → rr_J X G 9 (rr_E X G σr (some (.int r))) σ 121 [(0, .ref v0), (1, .int v1), (2, .int v2), (3, .int v3), (4, .int v4), (5, .int v5), (6, .long v6), (8, .int v8)] [] := by
  intro n
  induction n with
  | zero =>
    intro v6 v8 K hm
    cases hm
  | succ n ih =>
    intro v6 v8 K hm hk
    unfold l_Mod_operate_121 at hm
    refine rx_iload C 7 dX11_operate_121 rfl ?_
    refine rx_iload C 5 dX11_operate_123 rfl ?_
    refine rx_icmp_gt (tgt := 148) C dX11_operate_125 (by decide) hm (fun h_19 hm => ?_) (fun h_19 hm => ?_)
    · refine rx_lv [0, 1, 2, 3, 4, 5, 6] rfl ?_
      exact hk _ hm
    refine rx_iload_n C 3 dX11_operate_128 rfl ?_
    refine rx_bipush (v := 9) C dX11_operate_129 rfl ?_
    refine rx_icmp_ne (tgt := 148) C dX11_operate_131 (by decide) hm (fun h_20 hm => ?_) (fun h_20 hm => ?_)
    · refine rx_lv [0, 1, 2, 3, 4, 5, 6] rfl ?_
      exact hk _ hm
    refine rx_lload C 6 dX11_operate_134 rfl ?_
    refine rx_iload C 7 dX11_operate_136 rfl ?_
    refine rx_i2l C dX11_operate_138 ?_
    refine rx_lmul C dX11_operate_139 ?_
    refine rx_nml hm (fun v6_21 ev6_21 hm => ?_)
    refine rx_lstore (lv1 := [(6, .long v6_21), (0, .ref v0), (1, .int v1), (2, .int v2), (3, .int v3), (4, .int v4), (5, .int v5), (8, .int v8)]) C dX11_operate_140 (by decide) rfl ?_
    refine rx_iinc (d := 1) (lv1 := fun v => [(8, .int v), (6, .long v6_21), (0, .ref v0), (1, .int v1), (2, .int v2), (3, .int v3), (4, .int v4), (5, .int v5)]) C 7 dX11_operate_142 hm rfl rfl (by decide) (fun _ => rfl) (fun v8_22 hm => ?_)
    refine rx_goto (tgt := 121) C dX11_operate_145 (by decide) ?_
    refine rx_lv [2, 3, 4, 5, 6, 7, 1, 0] rfl ?_
    exact ih _ _ _ hm hk
def l_Mod_operate_82 (fu : Nat) (N : Nat → Nat) (v0 : Nat) (v2 : Int32) (v3 : Int32) (v4 : Int32) : Nat → Int32 → rr_M → (rr_M → Option (Int32 × rr_M)) → Option (Int32 × rr_M)
  | 0, _, _, _ => none
  | n + 1, v5, σ, kk =>
    if 9 ≤ v5 then (kk σ) else
    Option.bind (f_Mod_made fu N v0 v2 v3 v4 v5 σ) fun r_16 =>
    rr_jn (fun (v6_18 : Int64) =>
    l_Mod_operate_121 fu N v3 v5 σ fu v6_18 2 (fun v6_23 =>
    rr_bd (f_Mod_puts N v0 21 v5 v6_23 σ) fun _ σ_24 =>
    rr_lt (v5 + 1) fun v5_26 =>
    l_Mod_operate_82 fu N v0 v2 v3 v4 n v5_26 σ_24 kk)) fun j118 =>
    if v3 = 6 then (Option.bind (f_Mod_scaled fu N v0 v2 v5 v4 σ) fun r_28 =>
    j118 r_28) else
    j118 r_16
theorem lw_Mod_operate_82 {X : rr_X} {G : rr_G} {l : Launch} {fu : Nat} (hG : G.2.2.1.Nodup) (hll : X.2.1 = l) (C : rr_C X G cX11_operate 9 "RootRowsModel" (some .boolean) 4 103) {r : Int32} {σr : rr_M} (v0 : Nat) (m_v0 : v0 ∈ G.2.2.1) (k_v0 : G.2.2.2.1 v0 = 9) (v1 : Int32) (v2 : Int32) (v3 : Int32) (v4 : Int32) : ∀ (n : Nat) (v5 : Int32) (σ : rr_M) (K : rr_M → Option (Int32 × rr_M)), l_Mod_operate_82 fu G.2.2.2.2 v0 v2 v3 v4 n v5 σ K = some (r, σr) → (∀ (σ1 : rr_M), K σ1 = some (r, σr) → rr_J X G 9 (rr_E X G σr (some (.int r))) σ1 164 [(0, .ref v0), (1, .int v1), (2, .int v2), (3, .int v3), (4, .int v4)] []) → rr_J X G 9 (rr_E X G σr (some (.int r))) σ 82 [(0, .ref v0), (1, .int v1), (2, .int v2), (3, .int v3), (4, .int v4), (5, .int v5)] [] := by
  intro n
  induction n with
  | zero =>
    intro v5 σ K hm
    cases hm
  | succ n ih =>
    intro v5 σ K hm hk
    unfold l_Mod_operate_82 at hm
    refine rx_iload C 5 dX11_operate_82 rfl ?_
    refine rx_bipush (v := 9) C dX11_operate_84 rfl ?_
    refine rx_icmp_ge (tgt := 164) C dX11_operate_86 (by decide) hm (fun h_15 hm => ?_) (fun h_15 hm => ?_)
    · refine rx_lv [0, 1, 2, 3, 4] rfl ?_
      exact hk _ hm
    refine rx_aload_n C 0 dX11_operate_89 rfl ?_
    refine rx_iload_n C 2 dX11_operate_90 rfl ?_
    refine rx_iload_n C 3 dX11_operate_91 rfl ?_
    refine rx_iload C 4 dX11_operate_92 rfl ?_
    refine rx_iload C 5 dX11_operate_94 rfl ?_
    obtain ⟨r_16, hc_17, hm⟩ := rr_b0_some hm
    refine rr_callV (rest := []) (st1 := [.long r_16]) C 9 hll (c_Mod_made l G hG fu v0 m_v0 k_v0 v2 v3 v4 v5 σ _ hc_17) q_1030 q_1032 qs_58 q_11 q_1033 hd_Mod_made ⟨_, rfl, rfl⟩ (by decide) m_v0 k_v0 ⟨by decide, by decide⟩ rfl rfl (Nat.le_of_ble_eq_true rfl) rfl dX11_operate_96 ?_
    refine rx_lstore (lv1 := [(6, .long r_16), (0, .ref v0), (1, .int v1), (2, .int v2), (3, .int v3), (4, .int v4), (5, .int v5)]) C dX11_operate_99 (by decide) rfl ?_
    refine rx_iload_n C 4 dX11_operate_101 rfl ?_
    refine rx_bipush (v := 6) C dX11_operate_102 rfl ?_
    refine rr_jn1 hm (fun j118 ej118 hm => ?_)
    have hj118 : ∀ (v6_18 : Int64), j118 v6_18 = some (r, σr) → rr_J X G 9 (rr_E X G σr (some (.int r))) σ 118 [(0, .ref v0), (1, .int v1), (2, .int v2), (3, .int v3), (4, .int v4), (5, .int v5), (6, .long v6_18)] [] := by
      intro v6_18 hm
      replace hm := ej118 _ hm
      refine rx_iconst (v := 2) C dX11_operate_118 rfl ?_
      refine rx_istore (lv1 := [(8, .int 2), (0, .ref v0), (1, .int v1), (2, .int v2), (3, .int v3), (4, .int v4), (5, .int v5), (6, .long v6_18)]) C dX11_operate_119 (by decide) rfl ?_
      refine rx_lv [1, 2, 3, 4, 5, 6, 7, 0] rfl ?_
      refine lw_Mod_operate_121 hG hll C σ v0 m_v0 k_v0 v1 v2 v3 v4 v5 _ _ _ _ hm (fun v6_23 hm => ?_)
      refine rx_aload_n C 0 dX11_operate_148 rfl ?_
      refine rx_bipush (v := 21) C dX11_operate_149 rfl ?_
      refine rx_iload C 5 dX11_operate_151 rfl ?_
      refine rx_lload C 6 dX11_operate_153 rfl ?_
      obtain ⟨_, σ_24, hc_25, hm⟩ := rr_bd_some hm
      refine rr_callV (rest := []) (st1 := []) C 9 hll (c_Mod_puts l G hG v0 m_v0 k_v0 21 v5 v6_23 σ _ hc_25) q_921 q_923 qs_38 q_11 q_924 hd_Mod_puts ⟨_, rfl, rfl⟩ (by decide) m_v0 k_v0 ⟨by decide, by decide⟩ rfl rfl (Nat.le_of_ble_eq_true rfl) rfl dX11_operate_155 ?_
      refine rx_iinc (d := 1) (lv1 := fun v => [(5, .int v), (0, .ref v0), (1, .int v1), (2, .int v2), (3, .int v3), (4, .int v4), (6, .long v6_23)]) C 5 dX11_operate_158 hm rfl rfl (by decide) (fun _ => rfl) (fun v5_26 hm => ?_)
      refine rx_goto (tgt := 82) C dX11_operate_161 (by decide) ?_
      refine rx_lv [1, 2, 3, 4, 5, 0] rfl ?_
      exact ih _ _ _ hm hk
    refine rx_icmp_ne (tgt := 118) C dX11_operate_104 (by decide) hm (fun h_27 hm => ?_) (fun h_27 hm => ?_)
    · refine rx_lv [1, 2, 3, 4, 5, 6, 0] rfl ?_
      exact hj118 _ hm
    refine rx_aload_n C 1 dX11_operate_107 rfl ?_
    refine rx_iload_n C 3 dX11_operate_108 rfl ?_
    refine rx_iload C 6 dX11_operate_109 rfl ?_
    refine rx_iload C 5 dX11_operate_111 rfl ?_
    obtain ⟨r_28, hc_29, hm⟩ := rr_b0_some hm
    refine rr_callV (rest := []) (st1 := [.long r_28]) C 9 hll (c_Mod_scaled l G hG fu v0 m_v0 k_v0 v2 v5 v4 σ _ hc_29) q_1038 q_1040 qs_60 q_11 q_1041 hd_Mod_scaled ⟨_, rfl, rfl⟩ (by decide) m_v0 k_v0 ⟨by decide, by decide⟩ rfl rfl (Nat.le_of_ble_eq_true rfl) rfl dX11_operate_113 ?_
    refine rx_lstore (lv1 := [(6, .long r_28), (0, .ref v0), (1, .int v1), (2, .int v2), (3, .int v3), (4, .int v4), (5, .int v5)]) C dX11_operate_116 (by decide) rfl ?_
    refine rx_lv [1, 2, 3, 4, 5, 6, 0] rfl ?_
    exact hj118 _ hm
def f_Mod_operate (fu : Nat) (N : Nat → Nat) (v0 : Nat) (v1 : Int32) (v2 : Int32) (v3 : Int32) (v4 : Int32) (σ : rr_M) : Option (Int32 × rr_M) :=
    rr_lt (ms_i σ v0 0 0) fun σ_1 =>
    Option.bind (f_Mod_isTray v0 v1) fun r_2 =>
    if r_2 = 0 then (if rr_b1 0 then some (0, σ_1) else none) else
    Option.bind (f_Mod_isTray v0 v2) fun r_5 =>
    if r_5 = 0 then (if rr_b1 0 then some (0, σ_1) else none) else
    Option.bind (f_Mod_isIn v3.toInt64 0 9) fun r_8 =>
    if r_8 = 0 then (if rr_b1 0 then some (0, σ_1) else none) else
    Option.bind (f_Mod_isIn v4.toInt64 (-1000) 1000) fun r_11 =>
    if r_11 = 0 then (if rr_b1 0 then some (0, σ_1) else none) else
    if v3 = 4 then (rr_bd (f_Mod_moves fu N v0 v2 v4 σ_1) fun r_40 σ_41 =>
    if r_40 = 0 then (if rr_b1 0 then some (0, σ_41) else none) else
    rr_bd (f_Mod_comes fu N v0 v1 σ_41) fun r_44 σ_45 =>
    if r_44 = 0 then (if rr_b1 0 then some (0, σ_45) else none) else
    if rr_b1 1 then some (1, σ_45) else none) else
    l_Mod_operate_82 fu N v0 v2 v3 v4 fu 0 σ_1 (fun σ_30 =>
    rr_jn (fun (_ : Unit) =>
    rr_bd (f_Mod_comes fu N v0 v1 σ_30) fun r_31 σ_32 =>
    if rr_b1 r_31 then some (r_31, σ_32) else none) fun j198 =>
    if v3 = 5 then (j198 ()) else
    if v3 = 6 then (j198 ()) else
    if v3 = 9 then (j198 ()) else
    Option.bind (f_Mod_made fu N v0 v2 v3 v4 9 σ_30) fun r_37 =>
    if r_37 = 0 then (j198 ()) else
    if rr_b1 0 then some (0, σ_30) else none)
theorem c_Mod_operate (l : Launch) (G : rr_G) (hG : G.2.2.1.Nodup) (fu : Nat) (v0 : Nat) (m_v0 : v0 ∈ G.2.2.1) (k_v0 : G.2.2.2.1 v0 = 9) (v1 : Int32) (v2 : Int32) (v3 : Int32) (v4 : Int32) (σ : rr_M) (r : Int32) (σr : rr_M) (hm : f_Mod_operate fu G.2.2.2.2 v0 v1 v2 v3 v4 σ = some (r, σr)) : rr_Met l G yX11_operate cX11_operate 9 (some .boolean) 4 103 [.ref v0, .int v1, .int v2, .int v3, .int v4] σ σr (some (.int r)) := by
  refine rr_enter (lv0 := [(0, .ref v0), (1, .int v1), (2, .int v2), (3, .int v3), (4, .int v4)]) hp_Mod_operate hG (Nat.le_of_ble_eq_true rfl) rfl (fun X hll C => ?_)
  replace C : rr_C X G cX11_operate 9 "RootRowsModel" (some .boolean) 4 103 := C
  unfold f_Mod_operate at hm
  refine rx_aload_n C 0 dX11_operate_0 rfl ?_
  refine rx_iconst (v := 0) C dX11_operate_1 rfl ?_
  refine pf_841 C m_v0 k_v0 dX11_operate_2 hm (fun σ_1 hm => ?_)
  refine rx_aload_n C 0 dX11_operate_5 rfl ?_
  refine rx_iload_n C 1 dX11_operate_6 rfl ?_
  obtain ⟨r_2, hc_3, hm⟩ := rr_b0_some hm
  refine rr_callV (rest := []) (st1 := [.int r_2]) C 9 hll (c_Mod_isTray l G hG v0 m_v0 k_v0 v1 σ_1 _ hc_3) q_916 q_918 qs_37 q_11 q_919 hd_Mod_isTray ⟨_, rfl, rfl⟩ (by decide) m_v0 k_v0 ⟨by decide, by decide⟩ rfl rfl (Nat.le_of_ble_eq_true rfl) rfl dX11_operate_7 ?_
  refine rx_if_eq (tgt := 48) C dX11_operate_10 (by decide) hm (fun h_4 hm => ?_) (fun h_4 hm => ?_)
  · refine rx_iconst (v := 0) C dX11_operate_48 rfl ?_
    exact rx_zret C dX11_operate_49 hm
  refine rx_aload_n C 0 dX11_operate_13 rfl ?_
  refine rx_iload_n C 2 dX11_operate_14 rfl ?_
  obtain ⟨r_5, hc_6, hm⟩ := rr_b0_some hm
  refine rr_callV (rest := []) (st1 := [.int r_5]) C 9 hll (c_Mod_isTray l G hG v0 m_v0 k_v0 v2 σ_1 _ hc_6) q_916 q_918 qs_37 q_11 q_919 hd_Mod_isTray ⟨_, rfl, rfl⟩ (by decide) m_v0 k_v0 ⟨by decide, by decide⟩ rfl rfl (Nat.le_of_ble_eq_true rfl) rfl dX11_operate_15 ?_
  refine rx_if_eq (tgt := 48) C dX11_operate_18 (by decide) hm (fun h_7 hm => ?_) (fun h_7 hm => ?_)
  · refine rx_iconst (v := 0) C dX11_operate_48 rfl ?_
    exact rx_zret C dX11_operate_49 hm
  refine rx_iload_n C 3 dX11_operate_21 rfl ?_
  refine rx_i2l C dX11_operate_22 ?_
  refine rx_lconst (v := 0) C dX11_operate_23 rfl ?_
  refine rx_ldc2 C q_978 dX11_operate_24 ?_
  obtain ⟨r_8, hc_9, hm⟩ := rr_b0_some hm
  refine rr_callS (rest := []) (st1 := [.int r_8]) C hll (c_Mod_isIn l G hG v3.toInt64 0 9 σ_1 _ hc_9) q_909 q_910 q_11 q_911 hd_Mod_isIn ⟨by decide, by decide⟩ rfl rfl (Nat.le_of_ble_eq_true rfl) rfl dX11_operate_27 ?_
  refine rx_if_eq (tgt := 48) C dX11_operate_30 (by decide) hm (fun h_10 hm => ?_) (fun h_10 hm => ?_)
  · refine rx_iconst (v := 0) C dX11_operate_48 rfl ?_
    exact rx_zret C dX11_operate_49 hm
  refine rx_iload C 4 dX11_operate_33 rfl ?_
  refine rx_i2l C dX11_operate_35 ?_
  refine rx_ldc2 C q_979 dX11_operate_36 ?_
  refine rx_ldc2 C q_980 dX11_operate_39 ?_
  obtain ⟨r_11, hc_12, hm⟩ := rr_b0_some hm
  refine rr_callS (rest := []) (st1 := [.int r_11]) C hll (c_Mod_isIn l G hG v4.toInt64 (-1000) 1000 σ_1 _ hc_12) q_909 q_910 q_11 q_911 hd_Mod_isIn ⟨by decide, by decide⟩ rfl rfl (Nat.le_of_ble_eq_true rfl) rfl dX11_operate_42 ?_
  refine rx_if_ne (tgt := 50) C dX11_operate_45 (by decide) hm (fun h_13 hm => ?_) (fun h_13 hm => ?_)
  · refine rx_iload_n C 3 dX11_operate_50 rfl ?_
    refine rx_iconst (v := 4) C dX11_operate_51 rfl ?_
    refine rx_icmp_ne (tgt := 79) C dX11_operate_52 (by decide) hm (fun h_14 hm => ?_) (fun h_14 hm => ?_)
    · refine rx_iconst (v := 0) C dX11_operate_79 rfl ?_
      refine rx_istore (lv1 := [(5, .int 0), (0, .ref v0), (1, .int v1), (2, .int v2), (3, .int v3), (4, .int v4)]) C dX11_operate_80 (by decide) rfl ?_
      refine rx_lv [1, 2, 3, 4, 5, 0] rfl ?_
      refine lw_Mod_operate_82 hG hll C v0 m_v0 k_v0 v1 v2 v3 v4 _ _ _ _ hm (fun σ_30 hm => ?_)
      refine rx_iload_n C 3 dX11_operate_164 rfl ?_
      refine rx_iconst (v := 5) C dX11_operate_165 rfl ?_
      refine rr_jn1 hm (fun j198 ej198 hm => ?_)
      have hj198 : ∀ (uu : Unit), j198 uu = some (r, σr) → rr_J X G 9 (rr_E X G σr (some (.int r))) σ_30 198 [(0, .ref v0), (1, .int v1)] [] := by
        intro uu hm
        replace hm := ej198 _ hm
        refine rx_aload_n C 0 dX11_operate_198 rfl ?_
        refine rx_iload_n C 1 dX11_operate_199 rfl ?_
        obtain ⟨r_31, σ_32, hc_33, hm⟩ := rr_bd_some hm
        refine rr_callV (rest := []) (st1 := [.int r_31]) C 9 hll (c_Mod_comes l G hG fu v0 m_v0 k_v0 v1 σ_30 _ _ hc_33) q_961 q_963 qs_46 q_11 q_964 hd_Mod_comes ⟨_, rfl, rfl⟩ (by decide) m_v0 k_v0 ⟨by decide, by decide⟩ rfl rfl (Nat.le_of_ble_eq_true rfl) rfl dX11_operate_200 ?_
        exact rx_zret C dX11_operate_203 hm
      refine rx_icmp_eq (tgt := 198) C dX11_operate_166 (by decide) hm (fun h_34 hm => ?_) (fun h_34 hm => ?_)
      · refine rx_lv [0, 1] rfl ?_
        exact hj198 () hm
      refine rx_iload_n C 3 dX11_operate_169 rfl ?_
      refine rx_bipush (v := 6) C dX11_operate_170 rfl ?_
      refine rx_icmp_eq (tgt := 198) C dX11_operate_172 (by decide) hm (fun h_35 hm => ?_) (fun h_35 hm => ?_)
      · refine rx_lv [0, 1] rfl ?_
        exact hj198 () hm
      refine rx_iload_n C 3 dX11_operate_175 rfl ?_
      refine rx_bipush (v := 9) C dX11_operate_176 rfl ?_
      refine rx_icmp_eq (tgt := 198) C dX11_operate_178 (by decide) hm (fun h_36 hm => ?_) (fun h_36 hm => ?_)
      · refine rx_lv [0, 1] rfl ?_
        exact hj198 () hm
      refine rx_aload_n C 0 dX11_operate_181 rfl ?_
      refine rx_iload_n C 2 dX11_operate_182 rfl ?_
      refine rx_iload_n C 3 dX11_operate_183 rfl ?_
      refine rx_iload C 4 dX11_operate_184 rfl ?_
      refine rx_bipush (v := 9) C dX11_operate_186 rfl ?_
      obtain ⟨r_37, hc_38, hm⟩ := rr_b0_some hm
      refine rr_callV (rest := []) (st1 := [.long r_37]) C 9 hll (c_Mod_made l G hG fu v0 m_v0 k_v0 v2 v3 v4 9 σ_30 _ hc_38) q_1030 q_1032 qs_58 q_11 q_1033 hd_Mod_made ⟨_, rfl, rfl⟩ (by decide) m_v0 k_v0 ⟨by decide, by decide⟩ rfl rfl (Nat.le_of_ble_eq_true rfl) rfl dX11_operate_188 ?_
      refine rx_lconst (v := 0) C dX11_operate_191 rfl ?_
      refine rx_lcmp_eq (tgt := 198) C dX11_operate_192 dX11_operate_193 (by decide) hm (fun h_39 hm => ?_) (fun h_39 hm => ?_)
      · refine rx_lv [0, 1] rfl ?_
        exact hj198 () hm
      refine rx_iconst (v := 0) C dX11_operate_196 rfl ?_
      exact rx_zret C dX11_operate_197 hm
    refine rx_aload_n C 0 dX11_operate_55 rfl ?_
    refine rx_iload_n C 2 dX11_operate_56 rfl ?_
    refine rx_iload C 4 dX11_operate_57 rfl ?_
    obtain ⟨r_40, σ_41, hc_42, hm⟩ := rr_bd_some hm
    refine rr_callV (rest := []) (st1 := [.int r_40]) C 9 hll (c_Mod_moves l G hG fu v0 m_v0 k_v0 v2 v4 σ_1 _ _ hc_42) q_981 q_983 qs_47 q_11 q_984 hd_Mod_moves ⟨_, rfl, rfl⟩ (by decide) m_v0 k_v0 ⟨by decide, by decide⟩ rfl rfl (Nat.le_of_ble_eq_true rfl) rfl dX11_operate_59 ?_
    refine rx_if_eq (tgt := 77) C dX11_operate_62 (by decide) hm (fun h_43 hm => ?_) (fun h_43 hm => ?_)
    · refine rx_iconst (v := 0) C dX11_operate_77 rfl ?_
      exact rx_zret C dX11_operate_78 hm
    refine rx_aload_n C 0 dX11_operate_65 rfl ?_
    refine rx_iload_n C 1 dX11_operate_66 rfl ?_
    obtain ⟨r_44, σ_45, hc_46, hm⟩ := rr_bd_some hm
    refine rr_callV (rest := []) (st1 := [.int r_44]) C 9 hll (c_Mod_comes l G hG fu v0 m_v0 k_v0 v1 σ_41 _ _ hc_46) q_961 q_963 qs_46 q_11 q_964 hd_Mod_comes ⟨_, rfl, rfl⟩ (by decide) m_v0 k_v0 ⟨by decide, by decide⟩ rfl rfl (Nat.le_of_ble_eq_true rfl) rfl dX11_operate_67 ?_
    refine rx_if_eq (tgt := 77) C dX11_operate_70 (by decide) hm (fun h_47 hm => ?_) (fun h_47 hm => ?_)
    · refine rx_iconst (v := 0) C dX11_operate_77 rfl ?_
      exact rx_zret C dX11_operate_78 hm
    refine rx_iconst (v := 1) C dX11_operate_73 rfl ?_
    refine rx_goto (tgt := 78) C dX11_operate_74 (by decide) ?_
    exact rx_zret C dX11_operate_78 hm
  refine rx_iconst (v := 0) C dX11_operate_48 rfl ?_
  exact rx_zret C dX11_operate_49 hm
def f_Mod_put_ (N : Nat → Nat) (v0 : Nat) (v1 : Int32) (v2 : Int32) (v3 : Int32) (σ : rr_M) : Option (Int32 × rr_M) :=
    rr_lt (ms_i σ v0 0 0) fun σ_1 =>
    Option.bind (f_Mod_isTray v0 v1) fun r_2 =>
    if r_2 = 0 then (if rr_b1 0 then some (0, σ_1) else none) else
    Option.bind (f_Mod_isIn v2.toInt64 0 8) fun r_5 =>
    if r_5 = 0 then (if rr_b1 0 then some (0, σ_1) else none) else
    Option.bind (f_Mod_isIn v3.toInt64 (-100000000) 100000000) fun r_8 =>
    if r_8 = 0 then (if rr_b1 0 then some (0, σ_1) else none) else
    rr_bd (f_Mod_puts N v0 v1 v2 v3.toInt64 σ_1) fun _ σ_11 =>
    if rr_b1 1 then some (1, σ_11) else none
theorem c_Mod_put_ (l : Launch) (G : rr_G) (hG : G.2.2.1.Nodup) (v0 : Nat) (m_v0 : v0 ∈ G.2.2.1) (k_v0 : G.2.2.2.1 v0 = 9) (v1 : Int32) (v2 : Int32) (v3 : Int32) (σ : rr_M) (r : Int32) (σr : rr_M) (hm : f_Mod_put_ G.2.2.2.2 v0 v1 v2 v3 σ = some (r, σr)) : rr_Met l G yX11_put_ cX11_put_ 4 (some .boolean) 2 46 [.ref v0, .int v1, .int v2, .int v3] σ σr (some (.int r)) := by
  refine rr_enter (lv0 := [(0, .ref v0), (1, .int v1), (2, .int v2), (3, .int v3)]) hp_Mod_put_ hG (Nat.le_of_ble_eq_true rfl) rfl (fun X hll C => ?_)
  replace C : rr_C X G cX11_put_ 4 "RootRowsModel" (some .boolean) 2 46 := C
  unfold f_Mod_put_ at hm
  refine rx_aload_n C 0 dX11_put__0 rfl ?_
  refine rx_iconst (v := 0) C dX11_put__1 rfl ?_
  refine pf_841 C m_v0 k_v0 dX11_put__2 hm (fun σ_1 hm => ?_)
  refine rx_aload_n C 0 dX11_put__5 rfl ?_
  refine rx_iload_n C 1 dX11_put__6 rfl ?_
  obtain ⟨r_2, hc_3, hm⟩ := rr_b0_some hm
  refine rr_callV (rest := []) (st1 := [.int r_2]) C 9 hll (c_Mod_isTray l G hG v0 m_v0 k_v0 v1 σ_1 _ hc_3) q_916 q_918 qs_37 q_11 q_919 hd_Mod_isTray ⟨_, rfl, rfl⟩ (by decide) m_v0 k_v0 ⟨by decide, by decide⟩ rfl rfl (Nat.le_of_ble_eq_true rfl) rfl dX11_put__7 ?_
  refine rx_if_eq (tgt := 39) C dX11_put__10 (by decide) hm (fun h_4 hm => ?_) (fun h_4 hm => ?_)
  · refine rx_iconst (v := 0) C dX11_put__39 rfl ?_
    exact rx_zret C dX11_put__40 hm
  refine rx_iload_n C 2 dX11_put__13 rfl ?_
  refine rx_i2l C dX11_put__14 ?_
  refine rx_lconst (v := 0) C dX11_put__15 rfl ?_
  refine rx_ldc2 C q_949 dX11_put__16 ?_
  obtain ⟨r_5, hc_6, hm⟩ := rr_b0_some hm
  refine rr_callS (rest := []) (st1 := [.int r_5]) C hll (c_Mod_isIn l G hG v2.toInt64 0 8 σ_1 _ hc_6) q_909 q_910 q_11 q_911 hd_Mod_isIn ⟨by decide, by decide⟩ rfl rfl (Nat.le_of_ble_eq_true rfl) rfl dX11_put__19 ?_
  refine rx_if_eq (tgt := 39) C dX11_put__22 (by decide) hm (fun h_7 hm => ?_) (fun h_7 hm => ?_)
  · refine rx_iconst (v := 0) C dX11_put__39 rfl ?_
    exact rx_zret C dX11_put__40 hm
  refine rx_iload_n C 3 dX11_put__25 rfl ?_
  refine rx_i2l C dX11_put__26 ?_
  refine rx_ldc2 C q_973 dX11_put__27 ?_
  refine rx_ldc2 C q_943 dX11_put__30 ?_
  obtain ⟨r_8, hc_9, hm⟩ := rr_b0_some hm
  refine rr_callS (rest := []) (st1 := [.int r_8]) C hll (c_Mod_isIn l G hG v3.toInt64 (-100000000) 100000000 σ_1 _ hc_9) q_909 q_910 q_11 q_911 hd_Mod_isIn ⟨by decide, by decide⟩ rfl rfl (Nat.le_of_ble_eq_true rfl) rfl dX11_put__33 ?_
  refine rx_if_ne (tgt := 41) C dX11_put__36 (by decide) hm (fun h_10 hm => ?_) (fun h_10 hm => ?_)
  · refine rx_aload_n C 0 dX11_put__41 rfl ?_
    refine rx_iload_n C 1 dX11_put__42 rfl ?_
    refine rx_iload_n C 2 dX11_put__43 rfl ?_
    refine rx_iload_n C 3 dX11_put__44 rfl ?_
    refine rx_i2l C dX11_put__45 ?_
    obtain ⟨_, σ_11, hc_12, hm⟩ := rr_bd_some hm
    refine rr_callV (rest := []) (st1 := []) C 9 hll (c_Mod_puts l G hG v0 m_v0 k_v0 v1 v2 v3.toInt64 σ_1 _ hc_12) q_921 q_923 qs_38 q_11 q_924 hd_Mod_puts ⟨_, rfl, rfl⟩ (by decide) m_v0 k_v0 ⟨by decide, by decide⟩ rfl rfl (Nat.le_of_ble_eq_true rfl) rfl dX11_put__46 ?_
    refine rx_iconst (v := 1) C dX11_put__49 rfl ?_
    exact rx_zret C dX11_put__50 hm
  refine rx_iconst (v := 0) C dX11_put__39 rfl ?_
  exact rx_zret C dX11_put__40 hm
def f_Mod_term (fu : Nat) (N : Nat → Nat) (v0 : Nat) (v1 : Int32) (σ : rr_M) : Option (Unit × rr_M) :=
    rr_bd (f_Mod_isDigit fu N v0 σ) fun r_1 σ_2 =>
    rr_jn (fun (σ_4 : rr_M) =>
    rr_bd (f_Mod_isDigit fu N v0 σ_4) fun r_5 σ_6 =>
    rr_jn (fun (t_8 : Int64) (σ_9 : rr_M) =>
    rr_jn (fun (v4_10 : Int32) (σ_11 : rr_M) =>
    if (mg_i σ_11 v0 15) = 0 then (Option.bind (f_Mod_at N v0 21 v4_10 σ_11) fun r_13 =>
    rr_jn (fun (t_15 : Int64) =>
    rr_bd (f_Mod_puts N v0 21 v4_10 (r_13 + t_15) σ_11) fun _ σ_16 =>
    some ((), σ_16)) fun j152 =>
    if v1 = 0 then (j152 t_8) else
    j152 (-t_8)) else
    some ((), σ_11)) fun j122 =>
    if (mg_i σ_9 v0 15) = 0 then (rr_bd (f_Mod_here fu N v0 σ_9) fun r_20 σ_21 =>
    if r_20 = 120 then (rr_lt (ms_i σ_21 v0 17 ((mg_i σ_21 v0 17) + 1)) fun σ_24 =>
    rr_bd (f_Mod_here fu N v0 σ_24) fun r_25 σ_26 =>
    if r_25 = 94 then (rr_lt (ms_i σ_26 v0 17 ((mg_i σ_26 v0 17) + 1)) fun σ_29 =>
    rr_bd (f_Mod_isDigit fu N v0 σ_29) fun r_30 σ_31 =>
    rr_jn (fun (σ_33 : rr_M) =>
    rr_bd (f_Mod_number fu N v0 8 σ_33) fun r_34 σ_35 =>
    j122 r_34.toInt32 σ_35) fun j112 =>
    if r_30 = 0 then (rr_bd (f_Mod_fails v0 1 (mg_i σ_31 v0 17) σ_31) fun _ σ_38 =>
    j112 σ_38) else
    j112 σ_31) else
    j122 1 σ_26) else
    j122 0 σ_21) else
    j122 0 σ_9) fun j44 =>
    if r_5 = 0 then (j44 1 σ_6) else
    rr_bd (f_Mod_number fu N v0 100000000 σ_6) fun r_41 σ_42 =>
    j44 r_41 σ_42) fun j26 =>
    if r_1 = 0 then (rr_bd (f_Mod_here fu N v0 σ_2) fun r_45 σ_46 =>
    if r_45 = 120 then (j26 σ_46) else
    rr_bd (f_Mod_fails v0 1 (mg_i σ_46 v0 17) σ_46) fun _ σ_49 =>
    some ((), σ_49)) else
    j26 σ_2
theorem c_Mod_term (l : Launch) (G : rr_G) (hG : G.2.2.1.Nodup) (fu : Nat) (v0 : Nat) (m_v0 : v0 ∈ G.2.2.1) (k_v0 : G.2.2.2.1 v0 = 9) (v1 : Int32) (σ : rr_M) (σr : rr_M) (hm : f_Mod_term fu G.2.2.2.2 v0 v1 σ = some ((), σr)) : rr_Met l G yX11_term cX11_term 5 none 2 50 [.ref v0, .int v1] σ σr none := by
  refine rr_enter (lv0 := [(0, .ref v0), (1, .int v1)]) hp_Mod_term hG (Nat.le_of_ble_eq_true rfl) rfl (fun X hll C => ?_)
  replace C : rr_C X G cX11_term 5 "RootRowsModel" none 2 50 := C
  unfold f_Mod_term at hm
  refine rx_aload_n C 0 dX11_term_0 rfl ?_
  obtain ⟨r_1, σ_2, hc_3, hm⟩ := rr_bd_some hm
  refine rr_callV (rest := []) (st1 := [.int r_1]) C 9 hll (c_Mod_isDigit l G hG fu v0 m_v0 k_v0 σ _ _ hc_3) q_933 q_935 qs_41 q_11 q_936 hd_Mod_isDigit ⟨_, rfl, rfl⟩ (by decide) m_v0 k_v0 ⟨by decide, by decide⟩ rfl rfl (Nat.le_of_ble_eq_true rfl) rfl dX11_term_1 ?_
  refine rr_jn1 hm (fun j26 ej26 hm => ?_)
  have hj26 : ∀ (σ_4 : rr_M), j26 σ_4 = some ((), σr) → rr_J X G 5 (rr_E X G σr none) σ_4 26 [(0, .ref v0), (1, .int v1)] [] := by
    intro σ_4 hm
    replace hm := ej26 _ hm
    refine rx_aload_n C 0 dX11_term_26 rfl ?_
    obtain ⟨r_5, σ_6, hc_7, hm⟩ := rr_bd_some hm
    refine rr_callV (rest := []) (st1 := [.int r_5]) C 9 hll (c_Mod_isDigit l G hG fu v0 m_v0 k_v0 σ_4 _ _ hc_7) q_933 q_935 qs_41 q_11 q_936 hd_Mod_isDigit ⟨_, rfl, rfl⟩ (by decide) m_v0 k_v0 ⟨by decide, by decide⟩ rfl rfl (Nat.le_of_ble_eq_true rfl) rfl dX11_term_27 ?_
    refine rr_jn2 hm (fun j44 ej44 hm => ?_)
    have hj44 : ∀ (t_8 : Int64) (σ_9 : rr_M), j44 t_8 σ_9 = some ((), σr) → rr_J X G 5 (rr_E X G σr none) σ_9 44 [(0, .ref v0), (1, .int v1)] [.long t_8] := by
      intro t_8 σ_9 hm
      replace hm := ej44 _ _ hm
      refine rx_lstore_n (lv1 := [(2, .long t_8), (0, .ref v0), (1, .int v1)]) C dX11_term_44 (by decide) rfl ?_
      refine rx_iconst (v := 0) C dX11_term_45 rfl ?_
      refine rx_istore (lv1 := [(4, .int 0), (2, .long t_8), (0, .ref v0), (1, .int v1)]) C dX11_term_46 (by decide) rfl ?_
      refine rx_aload_n C 2 dX11_term_48 rfl ?_
      refine gf_856 C m_v0 k_v0 dX11_term_49 ?_
      refine rr_jn2 hm (fun j122 ej122 hm => ?_)
      have hj122 : ∀ (v4_10 : Int32) (σ_11 : rr_M), j122 v4_10 σ_11 = some ((), σr) → rr_J X G 5 (rr_E X G σr none) σ_11 122 [(0, .ref v0), (1, .int v1), (2, .long t_8), (4, .int v4_10)] [] := by
        intro v4_10 σ_11 hm
        replace hm := ej122 _ _ hm
        refine rx_aload_n C 0 dX11_term_122 rfl ?_
        refine gf_856 C m_v0 k_v0 dX11_term_123 ?_
        refine rx_if_ne (tgt := 156) C dX11_term_126 (by decide) hm (fun h_12 hm => ?_) (fun h_12 hm => ?_)
        · exact rx_vret C dX11_term_156 hm
        refine rx_aload_n C 0 dX11_term_129 rfl ?_
        refine rx_bipush (v := 21) C dX11_term_130 rfl ?_
        refine rx_iload C 3 dX11_term_132 rfl ?_
        refine rx_aload_n C 0 dX11_term_134 rfl ?_
        refine rx_bipush (v := 21) C dX11_term_135 rfl ?_
        refine rx_iload C 3 dX11_term_137 rfl ?_
        obtain ⟨r_13, hc_14, hm⟩ := rr_b0_some hm
        refine rr_callV (rest := [.int v4_10, .int 21, .ref v0]) (st1 := [.long r_13, .int v4_10, .int 21, .ref v0]) C 9 hll (c_Mod_at l G hG v0 m_v0 k_v0 21 v4_10 σ_11 _ hc_14) q_950 q_952 qs_44 q_11 q_953 hd_Mod_at ⟨_, rfl, rfl⟩ (by decide) m_v0 k_v0 ⟨by decide, by decide⟩ rfl rfl (Nat.le_of_ble_eq_true rfl) rfl dX11_term_139 ?_
        refine rx_iload_n C 1 dX11_term_142 rfl ?_
        refine rr_jn1 hm (fun j152 ej152 hm => ?_)
        have hj152 : ∀ (t_15 : Int64), j152 t_15 = some ((), σr) → rr_J X G 5 (rr_E X G σr none) σ_11 152 [] [.long t_15, .long r_13, .int v4_10, .int 21, .ref v0] := by
          intro t_15 hm
          replace hm := ej152 _ hm
          refine rx_ladd C dX11_term_152 ?_
          obtain ⟨_, σ_16, hc_17, hm⟩ := rr_bd_some hm
          refine rr_callV (rest := []) (st1 := []) C 9 hll (c_Mod_puts l G hG v0 m_v0 k_v0 21 v4_10 (r_13 + t_15) σ_11 _ hc_17) q_921 q_923 qs_38 q_11 q_924 hd_Mod_puts ⟨_, rfl, rfl⟩ (by decide) m_v0 k_v0 ⟨by decide, by decide⟩ rfl rfl (Nat.le_of_ble_eq_true rfl) rfl dX11_term_153 ?_
          exact rx_vret C dX11_term_156 hm
        refine rx_if_eq (tgt := 151) C dX11_term_143 (by decide) hm (fun h_18 hm => ?_) (fun h_18 hm => ?_)
        · refine rx_lload_n C 2 dX11_term_151 rfl ?_
          refine rx_lv [] rfl ?_
          exact hj152 _ hm
        refine rx_lload_n C 2 dX11_term_146 rfl ?_
        refine rx_lneg C dX11_term_147 ?_
        refine rx_goto (tgt := 152) C dX11_term_148 (by decide) ?_
        refine rx_lv [] rfl ?_
        exact hj152 _ hm
      refine rx_if_ne (tgt := 122) C dX11_term_52 (by decide) hm (fun h_19 hm => ?_) (fun h_19 hm => ?_)
      · refine rx_lv [2, 3, 1, 0] rfl ?_
        exact hj122 _ _ hm
      refine rx_aload_n C 2 dX11_term_55 rfl ?_
      obtain ⟨r_20, σ_21, hc_22, hm⟩ := rr_bd_some hm
      refine rr_callV (rest := []) (st1 := [.int r_20]) C 9 hll (c_Mod_here l G hG fu v0 m_v0 k_v0 σ_9 _ _ hc_22) q_925 q_927 qs_39 q_11 q_928 hd_Mod_here ⟨_, rfl, rfl⟩ (by decide) m_v0 k_v0 ⟨by decide, by decide⟩ rfl rfl (Nat.le_of_ble_eq_true rfl) rfl dX11_term_56 ?_
      refine rx_bipush (v := 120) C dX11_term_59 rfl ?_
      refine rx_icmp_ne (tgt := 122) C dX11_term_61 (by decide) hm (fun h_23 hm => ?_) (fun h_23 hm => ?_)
      · refine rx_lv [2, 3, 1, 0] rfl ?_
        exact hj122 _ _ hm
      refine rx_aload_n C 2 dX11_term_64 rfl ?_
      refine rx_dup C dX11_term_65 rfl ?_
      refine gf_858 C m_v0 k_v0 dX11_term_66 ?_
      refine rx_iconst (v := 1) C dX11_term_69 rfl ?_
      refine rx_iadd C dX11_term_70 ?_
      refine pf_858 C m_v0 k_v0 dX11_term_71 hm (fun σ_24 hm => ?_)
      refine rx_iconst (v := 1) C dX11_term_74 rfl ?_
      refine rx_istore (lv1 := [(4, .int 1), (2, .long t_8), (0, .ref v0), (1, .int v1)]) C dX11_term_75 (by decide) rfl ?_
      refine rx_aload_n C 2 dX11_term_77 rfl ?_
      obtain ⟨r_25, σ_26, hc_27, hm⟩ := rr_bd_some hm
      refine rr_callV (rest := []) (st1 := [.int r_25]) C 9 hll (c_Mod_here l G hG fu v0 m_v0 k_v0 σ_24 _ _ hc_27) q_925 q_927 qs_39 q_11 q_928 hd_Mod_here ⟨_, rfl, rfl⟩ (by decide) m_v0 k_v0 ⟨by decide, by decide⟩ rfl rfl (Nat.le_of_ble_eq_true rfl) rfl dX11_term_78 ?_
      refine rx_bipush (v := 94) C dX11_term_81 rfl ?_
      refine rx_icmp_ne (tgt := 122) C dX11_term_83 (by decide) hm (fun h_28 hm => ?_) (fun h_28 hm => ?_)
      · refine rx_lv [2, 3, 1, 0] rfl ?_
        exact hj122 _ _ hm
      refine rx_aload_n C 2 dX11_term_86 rfl ?_
      refine rx_dup C dX11_term_87 rfl ?_
      refine gf_858 C m_v0 k_v0 dX11_term_88 ?_
      refine rx_iconst (v := 1) C dX11_term_91 rfl ?_
      refine rx_iadd C dX11_term_92 ?_
      refine pf_858 C m_v0 k_v0 dX11_term_93 hm (fun σ_29 hm => ?_)
      refine rx_aload_n C 2 dX11_term_96 rfl ?_
      obtain ⟨r_30, σ_31, hc_32, hm⟩ := rr_bd_some hm
      refine rr_callV (rest := []) (st1 := [.int r_30]) C 9 hll (c_Mod_isDigit l G hG fu v0 m_v0 k_v0 σ_29 _ _ hc_32) q_933 q_935 qs_41 q_11 q_936 hd_Mod_isDigit ⟨_, rfl, rfl⟩ (by decide) m_v0 k_v0 ⟨by decide, by decide⟩ rfl rfl (Nat.le_of_ble_eq_true rfl) rfl dX11_term_97 ?_
      refine rr_jn1 hm (fun j112 ej112 hm => ?_)
      have hj112 : ∀ (σ_33 : rr_M), j112 σ_33 = some ((), σr) → rr_J X G 5 (rr_E X G σr none) σ_33 112 [(0, .ref v0), (1, .int v1), (2, .long t_8)] [] := by
        intro σ_33 hm
        replace hm := ej112 _ hm
        refine rx_aload_n C 0 dX11_term_112 rfl ?_
        refine rx_ldc2 C q_949 dX11_term_113 ?_
        obtain ⟨r_34, σ_35, hc_36, hm⟩ := rr_bd_some hm
        refine rr_callV (rest := []) (st1 := [.long r_34]) C 9 hll (c_Mod_number l G hG fu v0 m_v0 k_v0 8 σ_33 _ _ hc_36) q_944 q_946 qs_43 q_11 q_947 hd_Mod_number ⟨_, rfl, rfl⟩ (by decide) m_v0 k_v0 ⟨by decide, by decide⟩ rfl rfl (Nat.le_of_ble_eq_true rfl) rfl dX11_term_116 ?_
        refine rx_l2i C dX11_term_119 ?_
        refine rx_istore (lv1 := [(4, .int r_34.toInt32), (0, .ref v0), (1, .int v1), (2, .long t_8)]) C dX11_term_120 (by decide) rfl ?_
        refine rx_lv [1, 2, 3, 0] rfl ?_
        exact hj122 _ _ hm
      refine rx_if_ne (tgt := 112) C dX11_term_100 (by decide) hm (fun h_37 hm => ?_) (fun h_37 hm => ?_)
      · refine rx_lv [2, 3, 1] rfl ?_
        exact hj112 _ hm
      refine rx_aload_n C 2 dX11_term_103 rfl ?_
      refine rx_iconst (v := 1) C dX11_term_104 rfl ?_
      refine rx_aload_n C 2 dX11_term_105 rfl ?_
      refine gf_858 C m_v0 k_v0 dX11_term_106 ?_
      obtain ⟨_, σ_38, hc_39, hm⟩ := rr_bd_some hm
      refine rr_callV (rest := []) (st1 := []) C 9 hll (c_Mod_fails l G hG v0 m_v0 k_v0 1 (mg_i σ_31 v0 17) σ_31 _ hc_39) q_939 q_941 qs_42 q_11 q_942 hd_Mod_fails ⟨_, rfl, rfl⟩ (by decide) m_v0 k_v0 ⟨by decide, by decide⟩ rfl rfl (Nat.le_of_ble_eq_true rfl) rfl dX11_term_109 ?_
      refine rx_lv [2, 3, 1] rfl ?_
      exact hj112 _ hm
    refine rx_if_eq (tgt := 43) C dX11_term_30 (by decide) hm (fun h_40 hm => ?_) (fun h_40 hm => ?_)
    · refine rx_lconst (v := 1) C dX11_term_43 rfl ?_
      refine rx_lv [0, 1] rfl ?_
      exact hj44 _ _ hm
    refine rx_aload_n C 0 dX11_term_33 rfl ?_
    refine rx_ldc2 C q_943 dX11_term_34 ?_
    obtain ⟨r_41, σ_42, hc_43, hm⟩ := rr_bd_some hm
    refine rr_callV (rest := []) (st1 := [.long r_41]) C 9 hll (c_Mod_number l G hG fu v0 m_v0 k_v0 100000000 σ_6 _ _ hc_43) q_944 q_946 qs_43 q_11 q_947 hd_Mod_number ⟨_, rfl, rfl⟩ (by decide) m_v0 k_v0 ⟨by decide, by decide⟩ rfl rfl (Nat.le_of_ble_eq_true rfl) rfl dX11_term_37 ?_
    refine rx_goto (tgt := 44) C dX11_term_40 (by decide) ?_
    refine rx_lv [0, 1] rfl ?_
    exact hj44 _ _ hm
  refine rx_if_ne (tgt := 26) C dX11_term_4 (by decide) hm (fun h_44 hm => ?_) (fun h_44 hm => ?_)
  · refine rx_lv [0, 1] rfl ?_
    exact hj26 _ hm
  refine rx_aload_n C 0 dX11_term_7 rfl ?_
  obtain ⟨r_45, σ_46, hc_47, hm⟩ := rr_bd_some hm
  refine rr_callV (rest := []) (st1 := [.int r_45]) C 9 hll (c_Mod_here l G hG fu v0 m_v0 k_v0 σ_2 _ _ hc_47) q_925 q_927 qs_39 q_11 q_928 hd_Mod_here ⟨_, rfl, rfl⟩ (by decide) m_v0 k_v0 ⟨by decide, by decide⟩ rfl rfl (Nat.le_of_ble_eq_true rfl) rfl dX11_term_8 ?_
  refine rx_bipush (v := 120) C dX11_term_11 rfl ?_
  refine rx_icmp_eq (tgt := 26) C dX11_term_13 (by decide) hm (fun h_48 hm => ?_) (fun h_48 hm => ?_)
  · refine rx_lv [0, 1] rfl ?_
    exact hj26 _ hm
  refine rx_aload_n C 0 dX11_term_16 rfl ?_
  refine rx_iconst (v := 1) C dX11_term_17 rfl ?_
  refine rx_aload_n C 0 dX11_term_18 rfl ?_
  refine gf_858 C m_v0 k_v0 dX11_term_19 ?_
  obtain ⟨_, σ_49, hc_50, hm⟩ := rr_bd_some hm
  refine rr_callV (rest := []) (st1 := []) C 9 hll (c_Mod_fails l G hG v0 m_v0 k_v0 1 (mg_i σ_46 v0 17) σ_46 _ hc_50) q_939 q_941 qs_42 q_11 q_942 hd_Mod_fails ⟨_, rfl, rfl⟩ (by decide) m_v0 k_v0 ⟨by decide, by decide⟩ rfl rfl (Nat.le_of_ble_eq_true rfl) rfl dX11_term_22 ?_
  exact rx_vret C dX11_term_25 hm
def l_Mod_read_40 (fu : Nat) (N : Nat → Nat) (v0 : Nat) : Nat → Int32 → rr_M → (rr_M → Option (Int32 × rr_M)) → Option (Int32 × rr_M)
  | 0, _, _, _ => none
  | n + 1, v2, σ, kk =>
    if 9 ≤ v2 then (kk σ) else
    rr_bd (f_Mod_puts N v0 21 v2 0 σ) fun _ σ_10 =>
    rr_lt (v2 + 1) fun v2_12 =>
    l_Mod_read_40 fu N v0 n v2_12 σ_10 kk
theorem lw_Mod_read_40 {X : rr_X} {G : rr_G} {l : Launch} {fu : Nat} (hG : G.2.2.1.Nodup) (hll : X.2.1 = l) (C : rr_C X G cX11_read 3 "RootRowsModel" (some .boolean) 3 74) {r : Int32} {σr : rr_M} (v0 : Nat) (m_v0 : v0 ∈ G.2.2.1) (k_v0 : G.2.2.2.1 v0 = 9) (v1 : Int32) : ∀ (n : Nat) (v2 : Int32) (σ : rr_M) (K : rr_M → Option (Int32 × rr_M)), l_Mod_read_40 fu G.2.2.2.2 v0 n v2 σ K = some (r, σr) → (∀ (σ1 : rr_M), K σ1 = some (r, σr) → rr_J X G 3 (rr_E X G σr (some (.int r))) σ1 60 [(0, .ref v0), (1, .int v1)] []) → rr_J X G 3 (rr_E X G σr (some (.int r))) σ 40 [(0, .ref v0), (1, .int v1), (2, .int v2)] [] := by
  intro n
  induction n with
  | zero =>
    intro v2 σ K hm
    cases hm
  | succ n ih =>
    intro v2 σ K hm hk
    unfold l_Mod_read_40 at hm
    refine rx_iload_n C 2 dX11_read_40 rfl ?_
    refine rx_bipush (v := 9) C dX11_read_41 rfl ?_
    refine rx_icmp_ge (tgt := 60) C dX11_read_43 (by decide) hm (fun h_9 hm => ?_) (fun h_9 hm => ?_)
    · refine rx_lv [0, 1] rfl ?_
      exact hk _ hm
    refine rx_aload_n C 0 dX11_read_46 rfl ?_
    refine rx_bipush (v := 21) C dX11_read_47 rfl ?_
    refine rx_iload_n C 2 dX11_read_49 rfl ?_
    refine rx_lconst (v := 0) C dX11_read_50 rfl ?_
    obtain ⟨_, σ_10, hc_11, hm⟩ := rr_bd_some hm
    refine rr_callV (rest := []) (st1 := []) C 9 hll (c_Mod_puts l G hG v0 m_v0 k_v0 21 v2 0 σ _ hc_11) q_921 q_923 qs_38 q_11 q_924 hd_Mod_puts ⟨_, rfl, rfl⟩ (by decide) m_v0 k_v0 ⟨by decide, by decide⟩ rfl rfl (Nat.le_of_ble_eq_true rfl) rfl dX11_read_51 ?_
    refine rx_iinc (d := 1) (lv1 := fun v => [(2, .int v), (0, .ref v0), (1, .int v1)]) C 2 dX11_read_54 hm rfl rfl (by decide) (fun _ => rfl) (fun v2_12 hm => ?_)
    refine rx_goto (tgt := 40) C dX11_read_57 (by decide) ?_
    refine rx_lv [1, 2, 0] rfl ?_
    exact ih _ _ _ hm hk
def l_Mod_read_98 (fu : Nat) (N : Nat → Nat) (v0 : Nat) : Nat → rr_M → (rr_M → Option (Int32 × rr_M)) → Option (Int32 × rr_M)
  | 0, _, _ => none
  | n + 1, σ, kk =>
    if (mg_i σ v0 15) = 0 then (rr_bd (f_Mod_here fu N v0 σ) fun r_23 σ_24 =>
    rr_jn (fun (σ_26 : rr_M) =>
    rr_bd (f_Mod_here fu N v0 σ_26) fun r_27 σ_28 =>
    rr_jn (fun (t_30 : Int32) =>
    rr_lt (ms_i σ_28 v0 17 ((mg_i σ_28 v0 17) + 1)) fun σ_31 =>
    rr_bd (f_Mod_term fu N v0 t_30 σ_31) fun _ σ_32 =>
    l_Mod_read_98 fu N v0 n σ_32 kk) fun j137 =>
    if r_27 = 45 then (j137 1) else
    j137 0) fun j123 =>
    if r_23 = 43 then (j123 σ_24) else
    rr_bd (f_Mod_here fu N v0 σ_24) fun r_36 σ_37 =>
    if r_36 = 45 then (j123 σ_37) else
    kk σ_37) else
    kk σ
theorem lw_Mod_read_98 {X : rr_X} {G : rr_G} {l : Launch} {fu : Nat} (hG : G.2.2.1.Nodup) (hll : X.2.1 = l) (C : rr_C X G cX11_read 3 "RootRowsModel" (some .boolean) 3 74) {r : Int32} {σr : rr_M} (v0 : Nat) (m_v0 : v0 ∈ G.2.2.1) (k_v0 : G.2.2.2.1 v0 = 9) (v1 : Int32) : ∀ (n : Nat) (σ : rr_M) (K : rr_M → Option (Int32 × rr_M)), l_Mod_read_98 fu G.2.2.2.2 v0 n σ K = some (r, σr) → (∀ (σ1 : rr_M), K σ1 = some (r, σr) → rr_J X G 3 (rr_E X G σr (some (.int r))) σ1 156 [(0, .ref v0), (1, .int v1)] []) → rr_J X G 3 (rr_E X G σr (some (.int r))) σ 98 [(0, .ref v0), (1, .int v1)] [] := by
  intro n
  induction n with
  | zero =>
    intro σ K hm
    cases hm
  | succ n ih =>
    intro σ K hm hk
    unfold l_Mod_read_98 at hm
    refine rx_aload_n C 0 dX11_read_98 rfl ?_
    refine gf_856 C m_v0 k_v0 dX11_read_99 ?_
    refine rx_if_ne (tgt := 156) C dX11_read_102 (by decide) hm (fun h_22 hm => ?_) (fun h_22 hm => ?_)
    · refine rx_lv [0, 1] rfl ?_
      exact hk _ hm
    refine rx_aload_n C 0 dX11_read_105 rfl ?_
    obtain ⟨r_23, σ_24, hc_25, hm⟩ := rr_bd_some hm
    refine rr_callV (rest := []) (st1 := [.int r_23]) C 9 hll (c_Mod_here l G hG fu v0 m_v0 k_v0 σ _ _ hc_25) q_925 q_927 qs_39 q_11 q_928 hd_Mod_here ⟨_, rfl, rfl⟩ (by decide) m_v0 k_v0 ⟨by decide, by decide⟩ rfl rfl (Nat.le_of_ble_eq_true rfl) rfl dX11_read_106 ?_
    refine rx_bipush (v := 43) C dX11_read_109 rfl ?_
    refine rr_jn1 hm (fun j123 ej123 hm => ?_)
    have hj123 : ∀ (σ_26 : rr_M), j123 σ_26 = some (r, σr) → rr_J X G 3 (rr_E X G σr (some (.int r))) σ_26 123 [(0, .ref v0), (1, .int v1)] [] := by
      intro σ_26 hm
      replace hm := ej123 _ hm
      refine rx_aload_n C 0 dX11_read_123 rfl ?_
      obtain ⟨r_27, σ_28, hc_29, hm⟩ := rr_bd_some hm
      refine rr_callV (rest := []) (st1 := [.int r_27]) C 9 hll (c_Mod_here l G hG fu v0 m_v0 k_v0 σ_26 _ _ hc_29) q_925 q_927 qs_39 q_11 q_928 hd_Mod_here ⟨_, rfl, rfl⟩ (by decide) m_v0 k_v0 ⟨by decide, by decide⟩ rfl rfl (Nat.le_of_ble_eq_true rfl) rfl dX11_read_124 ?_
      refine rx_bipush (v := 45) C dX11_read_127 rfl ?_
      refine rr_jn1 hm (fun j137 ej137 hm => ?_)
      have hj137 : ∀ (t_30 : Int32), j137 t_30 = some (r, σr) → rr_J X G 3 (rr_E X G σr (some (.int r))) σ_28 137 [(0, .ref v0), (1, .int v1)] [.int t_30] := by
        intro t_30 hm
        replace hm := ej137 _ hm
        refine rx_istore_n (lv1 := [(2, .int t_30), (0, .ref v0), (1, .int v1)]) C dX11_read_137 (by decide) rfl ?_
        refine rx_aload_n C 1 dX11_read_138 rfl ?_
        refine rx_dup C dX11_read_139 rfl ?_
        refine gf_858 C m_v0 k_v0 dX11_read_140 ?_
        refine rx_iconst (v := 1) C dX11_read_143 rfl ?_
        refine rx_iadd C dX11_read_144 ?_
        refine pf_858 C m_v0 k_v0 dX11_read_145 hm (fun σ_31 hm => ?_)
        refine rx_aload_n C 1 dX11_read_148 rfl ?_
        refine rx_iload_n C 0 dX11_read_149 rfl ?_
        obtain ⟨_, σ_32, hc_33, hm⟩ := rr_bd_some hm
        refine rr_callV (rest := []) (st1 := []) C 9 hll (c_Mod_term l G hG fu v0 m_v0 k_v0 t_30 σ_31 _ hc_33) q_929 q_931 qs_40 q_11 q_932 hd_Mod_term ⟨_, rfl, rfl⟩ (by decide) m_v0 k_v0 ⟨by decide, by decide⟩ rfl rfl (Nat.le_of_ble_eq_true rfl) rfl dX11_read_150 ?_
        refine rx_goto (tgt := 98) C dX11_read_153 (by decide) ?_
        refine rx_lv [1, 2] rfl ?_
        exact ih _ _ hm hk
      refine rx_icmp_ne (tgt := 136) C dX11_read_129 (by decide) hm (fun h_34 hm => ?_) (fun h_34 hm => ?_)
      · refine rx_iconst (v := 0) C dX11_read_136 rfl ?_
        refine rx_lv [0, 1] rfl ?_
        exact hj137 _ hm
      refine rx_iconst (v := 1) C dX11_read_132 rfl ?_
      refine rx_goto (tgt := 137) C dX11_read_133 (by decide) ?_
      refine rx_lv [0, 1] rfl ?_
      exact hj137 _ hm
    refine rx_icmp_eq (tgt := 123) C dX11_read_111 (by decide) hm (fun h_35 hm => ?_) (fun h_35 hm => ?_)
    · refine rx_lv [0, 1] rfl ?_
      exact hj123 _ hm
    refine rx_aload_n C 0 dX11_read_114 rfl ?_
    obtain ⟨r_36, σ_37, hc_38, hm⟩ := rr_bd_some hm
    refine rr_callV (rest := []) (st1 := [.int r_36]) C 9 hll (c_Mod_here l G hG fu v0 m_v0 k_v0 σ_24 _ _ hc_38) q_925 q_927 qs_39 q_11 q_928 hd_Mod_here ⟨_, rfl, rfl⟩ (by decide) m_v0 k_v0 ⟨by decide, by decide⟩ rfl rfl (Nat.le_of_ble_eq_true rfl) rfl dX11_read_115 ?_
    refine rx_bipush (v := 45) C dX11_read_118 rfl ?_
    refine rx_icmp_ne (tgt := 156) C dX11_read_120 (by decide) hm (fun h_39 hm => ?_) (fun h_39 hm => ?_)
    · refine rx_lv [0, 1] rfl ?_
      exact hk _ hm
    refine rx_lv [0, 1] rfl ?_
    exact hj123 _ hm
def f_Mod_read (fu : Nat) (N : Nat → Nat) (v0 : Nat) (v1 : Int32) (σ : rr_M) : Option (Int32 × rr_M) :=
    rr_lt (ms_i σ v0 0 0) fun σ_1 =>
    Option.bind (f_Mod_isTray v0 v1) fun r_2 =>
    if r_2 = 0 then (if rr_b1 0 then some (0, σ_1) else none) else
    rr_lt (ms_i σ_1 v0 16 (mg_i σ_1 v0 14)) fun σ_5 =>
    rr_lt (ms_i σ_5 v0 14 0) fun σ_6 =>
    rr_lt (ms_i σ_6 v0 15 0) fun σ_7 =>
    rr_lt (ms_i σ_7 v0 17 0) fun σ_8 =>
    l_Mod_read_40 fu N v0 fu 0 σ_8 (fun σ_13 =>
    rr_bd (f_Mod_here fu N v0 σ_13) fun r_14 σ_15 =>
    rr_jn (fun (t_17 : Int32) =>
    rr_jn (fun (t_18 : Int32) =>
    rr_lt (ms_i σ_15 v0 17 ((mg_i σ_15 v0 17) + t_18)) fun σ_19 =>
    rr_bd (f_Mod_term fu N v0 t_17 σ_19) fun _ σ_20 =>
    l_Mod_read_98 fu N v0 fu σ_20 (fun σ_40 =>
    rr_jn (fun (σ_41 : rr_M) =>
    rr_jn (fun (σ_42 : rr_M) =>
    if (mg_i σ_42 v0 15) = 0 then (rr_bd (f_Mod_comes fu N v0 v1 σ_42) fun r_44 σ_45 =>
    if r_44 = 0 then (if rr_b1 0 then some (0, σ_45) else none) else
    if rr_b1 1 then some (1, σ_45) else none) else
    if rr_b1 0 then some (0, σ_42) else none) fun j205 =>
    if (mg_i σ_41 v0 15) = 0 then (Option.bind (f_Mod_isPoly fu N v0 21 σ_41) fun r_49 =>
    if r_49 = 0 then (rr_bd (f_Mod_fails v0 3 (mg_i σ_41 v0 16) σ_41) fun _ σ_52 =>
    j205 σ_52) else
    j205 σ_41) else
    j205 σ_41) fun j180 =>
    if (mg_i σ_40 v0 15) = 0 then (rr_bd (f_Mod_here fu N v0 σ_40) fun r_55 σ_56 =>
    if r_55 = (-1) then (j180 σ_56) else
    rr_bd (f_Mod_fails v0 1 (mg_i σ_56 v0 17) σ_56) fun _ σ_59 =>
    j180 σ_59) else
    j180 σ_40)) fun j89 =>
    if t_17 = 0 then (j89 0) else
    j89 1) fun j74 =>
    if r_14 = 45 then (j74 1) else
    j74 0)
theorem c_Mod_read (l : Launch) (G : rr_G) (hG : G.2.2.1.Nodup) (fu : Nat) (v0 : Nat) (m_v0 : v0 ∈ G.2.2.1) (k_v0 : G.2.2.2.1 v0 = 9) (v1 : Int32) (σ : rr_M) (r : Int32) (σr : rr_M) (hm : f_Mod_read fu G.2.2.2.2 v0 v1 σ = some (r, σr)) : rr_Met l G yX11_read cX11_read 3 (some .boolean) 3 74 [.ref v0, .int v1] σ σr (some (.int r)) := by
  refine rr_enter (lv0 := [(0, .ref v0), (1, .int v1)]) hp_Mod_read hG (Nat.le_of_ble_eq_true rfl) rfl (fun X hll C => ?_)
  replace C : rr_C X G cX11_read 3 "RootRowsModel" (some .boolean) 3 74 := C
  unfold f_Mod_read at hm
  refine rx_aload_n C 0 dX11_read_0 rfl ?_
  refine rx_iconst (v := 0) C dX11_read_1 rfl ?_
  refine pf_841 C m_v0 k_v0 dX11_read_2 hm (fun σ_1 hm => ?_)
  refine rx_aload_n C 0 dX11_read_5 rfl ?_
  refine rx_iload_n C 1 dX11_read_6 rfl ?_
  obtain ⟨r_2, hc_3, hm⟩ := rr_b0_some hm
  refine rr_callV (rest := []) (st1 := [.int r_2]) C 9 hll (c_Mod_isTray l G hG v0 m_v0 k_v0 v1 σ_1 _ hc_3) q_916 q_918 qs_37 q_11 q_919 hd_Mod_isTray ⟨_, rfl, rfl⟩ (by decide) m_v0 k_v0 ⟨by decide, by decide⟩ rfl rfl (Nat.le_of_ble_eq_true rfl) rfl dX11_read_7 ?_
  refine rx_if_ne (tgt := 15) C dX11_read_10 (by decide) hm (fun h_4 hm => ?_) (fun h_4 hm => ?_)
  · refine rx_aload_n C 0 dX11_read_15 rfl ?_
    refine rx_aload_n C 0 dX11_read_16 rfl ?_
    refine gf_855 C m_v0 k_v0 dX11_read_17 ?_
    refine pf_857 C m_v0 k_v0 dX11_read_20 hm (fun σ_5 hm => ?_)
    refine rx_aload_n C 0 dX11_read_23 rfl ?_
    refine rx_iconst (v := 0) C dX11_read_24 rfl ?_
    refine pf_855 C m_v0 k_v0 dX11_read_25 hm (fun σ_6 hm => ?_)
    refine rx_aload_n C 0 dX11_read_28 rfl ?_
    refine rx_iconst (v := 0) C dX11_read_29 rfl ?_
    refine pf_856 C m_v0 k_v0 dX11_read_30 hm (fun σ_7 hm => ?_)
    refine rx_aload_n C 0 dX11_read_33 rfl ?_
    refine rx_iconst (v := 0) C dX11_read_34 rfl ?_
    refine pf_858 C m_v0 k_v0 dX11_read_35 hm (fun σ_8 hm => ?_)
    refine rx_iconst (v := 0) C dX11_read_38 rfl ?_
    refine rx_istore_n (lv1 := [(2, .int 0), (0, .ref v0), (1, .int v1)]) C dX11_read_39 (by decide) rfl ?_
    refine rx_lv [1, 2, 0] rfl ?_
    refine lw_Mod_read_40 hG hll C v0 m_v0 k_v0 v1 _ _ _ _ hm (fun σ_13 hm => ?_)
    refine rx_aload_n C 0 dX11_read_60 rfl ?_
    obtain ⟨r_14, σ_15, hc_16, hm⟩ := rr_bd_some hm
    refine rr_callV (rest := []) (st1 := [.int r_14]) C 9 hll (c_Mod_here l G hG fu v0 m_v0 k_v0 σ_13 _ _ hc_16) q_925 q_927 qs_39 q_11 q_928 hd_Mod_here ⟨_, rfl, rfl⟩ (by decide) m_v0 k_v0 ⟨by decide, by decide⟩ rfl rfl (Nat.le_of_ble_eq_true rfl) rfl dX11_read_61 ?_
    refine rx_bipush (v := 45) C dX11_read_64 rfl ?_
    refine rr_jn1 hm (fun j74 ej74 hm => ?_)
    have hj74 : ∀ (t_17 : Int32), j74 t_17 = some (r, σr) → rr_J X G 3 (rr_E X G σr (some (.int r))) σ_15 74 [(0, .ref v0), (1, .int v1)] [.int t_17] := by
      intro t_17 hm
      replace hm := ej74 _ hm
      refine rx_istore_n (lv1 := [(2, .int t_17), (0, .ref v0), (1, .int v1)]) C dX11_read_74 (by decide) rfl ?_
      refine rx_aload_n C 1 dX11_read_75 rfl ?_
      refine rx_dup C dX11_read_76 rfl ?_
      refine gf_858 C m_v0 k_v0 dX11_read_77 ?_
      refine rx_iload_n C 0 dX11_read_80 rfl ?_
      refine rr_jn1 hm (fun j89 ej89 hm => ?_)
      have hj89 : ∀ (t_18 : Int32), j89 t_18 = some (r, σr) → rr_J X G 3 (rr_E X G σr (some (.int r))) σ_15 89 [(0, .ref v0), (1, .int v1), (2, .int t_17)] [.int t_18, .int (mg_i σ_15 v0 17), .ref v0] := by
        intro t_18 hm
        replace hm := ej89 _ hm
        refine rx_iadd C dX11_read_89 ?_
        refine pf_858 C m_v0 k_v0 dX11_read_90 hm (fun σ_19 hm => ?_)
        refine rx_aload_n C 0 dX11_read_93 rfl ?_
        refine rx_iload_n C 2 dX11_read_94 rfl ?_
        obtain ⟨_, σ_20, hc_21, hm⟩ := rr_bd_some hm
        refine rr_callV (rest := []) (st1 := []) C 9 hll (c_Mod_term l G hG fu v0 m_v0 k_v0 t_17 σ_19 _ hc_21) q_929 q_931 qs_40 q_11 q_932 hd_Mod_term ⟨_, rfl, rfl⟩ (by decide) m_v0 k_v0 ⟨by decide, by decide⟩ rfl rfl (Nat.le_of_ble_eq_true rfl) rfl dX11_read_95 ?_
        refine rx_lv [0, 1] rfl ?_
        refine lw_Mod_read_98 hG hll C v0 m_v0 k_v0 v1 _ _ _ hm (fun σ_40 hm => ?_)
        refine rx_aload_n C 0 dX11_read_156 rfl ?_
        refine gf_856 C m_v0 k_v0 dX11_read_157 ?_
        refine rr_jn1 hm (fun j180 ej180 hm => ?_)
        have hj180 : ∀ (σ_41 : rr_M), j180 σ_41 = some (r, σr) → rr_J X G 3 (rr_E X G σr (some (.int r))) σ_41 180 [(0, .ref v0), (1, .int v1)] [] := by
          intro σ_41 hm
          replace hm := ej180 _ hm
          refine rx_aload_n C 0 dX11_read_180 rfl ?_
          refine gf_856 C m_v0 k_v0 dX11_read_181 ?_
          refine rr_jn1 hm (fun j205 ej205 hm => ?_)
          have hj205 : ∀ (σ_42 : rr_M), j205 σ_42 = some (r, σr) → rr_J X G 3 (rr_E X G σr (some (.int r))) σ_42 205 [(0, .ref v0), (1, .int v1)] [] := by
            intro σ_42 hm
            replace hm := ej205 _ hm
            refine rx_aload_n C 0 dX11_read_205 rfl ?_
            refine gf_856 C m_v0 k_v0 dX11_read_206 ?_
            refine rx_if_ne (tgt := 224) C dX11_read_209 (by decide) hm (fun h_43 hm => ?_) (fun h_43 hm => ?_)
            · refine rx_iconst (v := 0) C dX11_read_224 rfl ?_
              exact rx_zret C dX11_read_225 hm
            refine rx_aload_n C 0 dX11_read_212 rfl ?_
            refine rx_iload_n C 1 dX11_read_213 rfl ?_
            obtain ⟨r_44, σ_45, hc_46, hm⟩ := rr_bd_some hm
            refine rr_callV (rest := []) (st1 := [.int r_44]) C 9 hll (c_Mod_comes l G hG fu v0 m_v0 k_v0 v1 σ_42 _ _ hc_46) q_961 q_963 qs_46 q_11 q_964 hd_Mod_comes ⟨_, rfl, rfl⟩ (by decide) m_v0 k_v0 ⟨by decide, by decide⟩ rfl rfl (Nat.le_of_ble_eq_true rfl) rfl dX11_read_214 ?_
            refine rx_if_eq (tgt := 224) C dX11_read_217 (by decide) hm (fun h_47 hm => ?_) (fun h_47 hm => ?_)
            · refine rx_iconst (v := 0) C dX11_read_224 rfl ?_
              exact rx_zret C dX11_read_225 hm
            refine rx_iconst (v := 1) C dX11_read_220 rfl ?_
            refine rx_goto (tgt := 225) C dX11_read_221 (by decide) ?_
            exact rx_zret C dX11_read_225 hm
          refine rx_if_ne (tgt := 205) C dX11_read_184 (by decide) hm (fun h_48 hm => ?_) (fun h_48 hm => ?_)
          · refine rx_lv [0, 1] rfl ?_
            exact hj205 _ hm
          refine rx_aload_n C 0 dX11_read_187 rfl ?_
          refine rx_bipush (v := 21) C dX11_read_188 rfl ?_
          obtain ⟨r_49, hc_50, hm⟩ := rr_b0_some hm
          refine rr_callV (rest := []) (st1 := [.int r_49]) C 9 hll (c_Mod_isPoly l G hG fu v0 m_v0 k_v0 21 σ_41 _ hc_50) q_954 q_956 qs_45 q_11 q_957 hd_Mod_isPoly ⟨_, rfl, rfl⟩ (by decide) m_v0 k_v0 ⟨by decide, by decide⟩ rfl rfl (Nat.le_of_ble_eq_true rfl) rfl dX11_read_190 ?_
          refine rx_if_ne (tgt := 205) C dX11_read_193 (by decide) hm (fun h_51 hm => ?_) (fun h_51 hm => ?_)
          · refine rx_lv [0, 1] rfl ?_
            exact hj205 _ hm
          refine rx_aload_n C 0 dX11_read_196 rfl ?_
          refine rx_iconst (v := 3) C dX11_read_197 rfl ?_
          refine rx_aload_n C 0 dX11_read_198 rfl ?_
          refine gf_857 C m_v0 k_v0 dX11_read_199 ?_
          obtain ⟨_, σ_52, hc_53, hm⟩ := rr_bd_some hm
          refine rr_callV (rest := []) (st1 := []) C 9 hll (c_Mod_fails l G hG v0 m_v0 k_v0 3 (mg_i σ_41 v0 16) σ_41 _ hc_53) q_939 q_941 qs_42 q_11 q_942 hd_Mod_fails ⟨_, rfl, rfl⟩ (by decide) m_v0 k_v0 ⟨by decide, by decide⟩ rfl rfl (Nat.le_of_ble_eq_true rfl) rfl dX11_read_202 ?_
          refine rx_lv [0, 1] rfl ?_
          exact hj205 _ hm
        refine rx_if_ne (tgt := 180) C dX11_read_160 (by decide) hm (fun h_54 hm => ?_) (fun h_54 hm => ?_)
        · refine rx_lv [0, 1] rfl ?_
          exact hj180 _ hm
        refine rx_aload_n C 0 dX11_read_163 rfl ?_
        obtain ⟨r_55, σ_56, hc_57, hm⟩ := rr_bd_some hm
        refine rr_callV (rest := []) (st1 := [.int r_55]) C 9 hll (c_Mod_here l G hG fu v0 m_v0 k_v0 σ_40 _ _ hc_57) q_925 q_927 qs_39 q_11 q_928 hd_Mod_here ⟨_, rfl, rfl⟩ (by decide) m_v0 k_v0 ⟨by decide, by decide⟩ rfl rfl (Nat.le_of_ble_eq_true rfl) rfl dX11_read_164 ?_
        refine rx_iconst (v := (-1)) C dX11_read_167 rfl ?_
        refine rx_icmp_eq (tgt := 180) C dX11_read_168 (by decide) hm (fun h_58 hm => ?_) (fun h_58 hm => ?_)
        · refine rx_lv [0, 1] rfl ?_
          exact hj180 _ hm
        refine rx_aload_n C 0 dX11_read_171 rfl ?_
        refine rx_iconst (v := 1) C dX11_read_172 rfl ?_
        refine rx_aload_n C 0 dX11_read_173 rfl ?_
        refine gf_858 C m_v0 k_v0 dX11_read_174 ?_
        obtain ⟨_, σ_59, hc_60, hm⟩ := rr_bd_some hm
        refine rr_callV (rest := []) (st1 := []) C 9 hll (c_Mod_fails l G hG v0 m_v0 k_v0 1 (mg_i σ_56 v0 17) σ_56 _ hc_60) q_939 q_941 qs_42 q_11 q_942 hd_Mod_fails ⟨_, rfl, rfl⟩ (by decide) m_v0 k_v0 ⟨by decide, by decide⟩ rfl rfl (Nat.le_of_ble_eq_true rfl) rfl dX11_read_177 ?_
        refine rx_lv [0, 1] rfl ?_
        exact hj180 _ hm
      refine rx_if_eq (tgt := 88) C dX11_read_81 (by decide) hm (fun h_61 hm => ?_) (fun h_61 hm => ?_)
      · refine rx_iconst (v := 0) C dX11_read_88 rfl ?_
        refine rx_lv [1, 2, 0] rfl ?_
        exact hj89 _ hm
      refine rx_iconst (v := 1) C dX11_read_84 rfl ?_
      refine rx_goto (tgt := 89) C dX11_read_85 (by decide) ?_
      refine rx_lv [1, 2, 0] rfl ?_
      exact hj89 _ hm
    refine rx_icmp_ne (tgt := 73) C dX11_read_66 (by decide) hm (fun h_62 hm => ?_) (fun h_62 hm => ?_)
    · refine rx_iconst (v := 0) C dX11_read_73 rfl ?_
      refine rx_lv [0, 1] rfl ?_
      exact hj74 _ hm
    refine rx_iconst (v := 1) C dX11_read_69 rfl ?_
    refine rx_goto (tgt := 74) C dX11_read_70 (by decide) ?_
    refine rx_lv [0, 1] rfl ?_
    exact hj74 _ hm
  refine rx_iconst (v := 0) C dX11_read_13 rfl ?_
  exact rx_zret C dX11_read_14 hm
def f_Mod_root (fu : Nat) (N : Nat → Nat) (v0 : Nat) (v1 : Int32) (v2 : Int32) (v3 : Int32) (σ : rr_M) : Option (Int64 × rr_M) :=
    rr_lt (ms_i σ v0 0 0) fun σ_1 =>
    Option.bind (f_Mod_isIn v3.toInt64 0 12) fun r_2 =>
    if r_2 = 0 then (some ((-1000000000000000000), σ_1)) else
    rr_bd (f_Mod_isRoot fu N v0 v1 v2 σ_1) fun r_5 σ_6 =>
    if r_5 = 0 then (some ((-1000000000000000000), σ_6)) else
    rr_bd (f_Mod_floorOf fu N v0 v2 v3 σ_6) fun r_9 σ_10 =>
    some (r_9, σ_10)
theorem c_Mod_root (l : Launch) (G : rr_G) (hG : G.2.2.1.Nodup) (fu : Nat) (v0 : Nat) (m_v0 : v0 ∈ G.2.2.1) (k_v0 : G.2.2.2.1 v0 = 9) (v1 : Int32) (v2 : Int32) (v3 : Int32) (σ : rr_M) (r : Int64) (σr : rr_M) (hm : f_Mod_root fu G.2.2.2.2 v0 v1 v2 v3 σ = some (r, σr)) : rr_Met l G yX11_root cX11_root 4 (some .long) 9 229 [.ref v0, .int v1, .int v2, .int v3] σ σr (some (.long r)) := by
  refine rr_enter (lv0 := [(0, .ref v0), (1, .int v1), (2, .int v2), (3, .int v3)]) hp_Mod_root hG (Nat.le_of_ble_eq_true rfl) rfl (fun X hll C => ?_)
  replace C : rr_C X G cX11_root 4 "RootRowsModel" (some .long) 9 229 := C
  unfold f_Mod_root at hm
  refine rx_aload_n C 0 dX11_root_0 rfl ?_
  refine rx_iconst (v := 0) C dX11_root_1 rfl ?_
  refine pf_841 C m_v0 k_v0 dX11_root_2 hm (fun σ_1 hm => ?_)
  refine rx_iload_n C 3 dX11_root_5 rfl ?_
  refine rx_i2l C dX11_root_6 ?_
  refine rx_lconst (v := 0) C dX11_root_7 rfl ?_
  refine rx_ldc2 C q_1139 dX11_root_8 ?_
  obtain ⟨r_2, hc_3, hm⟩ := rr_b0_some hm
  refine rr_callS (rest := []) (st1 := [.int r_2]) C hll (c_Mod_isIn l G hG v3.toInt64 0 12 σ_1 _ hc_3) q_909 q_910 q_11 q_911 hd_Mod_isIn ⟨by decide, by decide⟩ rfl rfl (Nat.le_of_ble_eq_true rfl) rfl dX11_root_11 ?_
  refine rx_if_eq (tgt := 35) C dX11_root_14 (by decide) hm (fun h_4 hm => ?_) (fun h_4 hm => ?_)
  · refine rx_ldc2 C q_1054 dX11_root_35 ?_
    exact rx_lret C dX11_root_38 hm
  refine rx_aload_n C 0 dX11_root_17 rfl ?_
  refine rx_iload_n C 1 dX11_root_18 rfl ?_
  refine rx_iload_n C 2 dX11_root_19 rfl ?_
  obtain ⟨r_5, σ_6, hc_7, hm⟩ := rr_bd_some hm
  refine rr_callV (rest := []) (st1 := [.int r_5]) C 9 hll (c_Mod_isRoot l G hG fu v0 m_v0 k_v0 v1 v2 σ_1 _ _ hc_7) q_1140 q_1142 qs_80 q_11 q_1143 hd_Mod_isRoot ⟨_, rfl, rfl⟩ (by decide) m_v0 k_v0 ⟨by decide, by decide⟩ rfl rfl (Nat.le_of_ble_eq_true rfl) rfl dX11_root_20 ?_
  refine rx_if_eq (tgt := 35) C dX11_root_23 (by decide) hm (fun h_8 hm => ?_) (fun h_8 hm => ?_)
  · refine rx_ldc2 C q_1054 dX11_root_35 ?_
    exact rx_lret C dX11_root_38 hm
  refine rx_aload_n C 0 dX11_root_26 rfl ?_
  refine rx_iload_n C 2 dX11_root_27 rfl ?_
  refine rx_iload_n C 3 dX11_root_28 rfl ?_
  obtain ⟨r_9, σ_10, hc_11, hm⟩ := rr_bd_some hm
  refine rr_callV (rest := []) (st1 := [.long r_9]) C 9 hll (c_Mod_floorOf l G hG fu v0 m_v0 k_v0 v2 v3 σ_6 _ _ hc_11) q_1144 q_1146 qs_81 q_11 q_1147 hd_Mod_floorOf ⟨_, rfl, rfl⟩ (by decide) m_v0 k_v0 ⟨by decide, by decide⟩ rfl rfl (Nat.le_of_ble_eq_true rfl) rfl dX11_root_29 ?_
  refine rx_goto (tgt := 38) C dX11_root_32 (by decide) ?_
  exact rx_lret C dX11_root_38 hm
def f_Mod_row (fu : Nat) (N : Nat → Nat) (v0 : Nat) (v1 : Int32) (v2 : Int32) (σ : rr_M) : Option (Int32 × rr_M) :=
    rr_lt (ms_i σ v0 0 0) fun σ_1 =>
    Option.bind (f_Mod_isTray v0 v1) fun r_2 =>
    if r_2 = 0 then (some ((-1), σ_1)) else
    Option.bind (f_Mod_isIn v2.toInt64 0 4) fun r_5 =>
    if r_5 = 0 then (some ((-1), σ_1)) else
    Option.bind (f_Mod_degreeOf fu N v0 v1 σ_1) fun r_8 =>
    if 0 ≤ r_8 then (if v2 = 0 then (Option.bind (f_Mod_firstNewton fu N v0 v1 r_8 σ_1) fun r_12 =>
    some (r_12, σ_1)) else
    if v2 = 1 then (Option.bind (f_Mod_firstBent fu N v0 v1 r_8 σ_1) fun r_15 =>
    some (r_15, σ_1)) else
    if v2 = 2 then (Option.bind (f_Mod_holes fu N v0 v1 r_8 σ_1) fun r_18 =>
    some (r_18, σ_1)) else
    if v2 = 3 then (Option.bind (f_Mod_hasHump fu N v0 v1 r_8 σ_1) fun r_21 =>
    if r_21 = 0 then (some (0, σ_1)) else
    some (1, σ_1)) else
    (Option.bind (f_Mod_modes fu N v0 v1 r_8 σ_1) fun r_24 =>
    some (r_24, σ_1))) else
    some ((-2), σ_1)
theorem c_Mod_row (l : Launch) (G : rr_G) (hG : G.2.2.1.Nodup) (fu : Nat) (v0 : Nat) (m_v0 : v0 ∈ G.2.2.1) (k_v0 : G.2.2.2.1 v0 = 9) (v1 : Int32) (v2 : Int32) (σ : rr_M) (r : Int32) (σr : rr_M) (hm : f_Mod_row fu G.2.2.2.2 v0 v1 v2 σ = some (r, σr)) : rr_Met l G yX11_row cX11_row 4 (some .int) 2 48 [.ref v0, .int v1, .int v2] σ σr (some (.int r)) := by
  refine rr_enter (lv0 := [(0, .ref v0), (1, .int v1), (2, .int v2)]) hp_Mod_row hG (Nat.le_of_ble_eq_true rfl) rfl (fun X hll C => ?_)
  replace C : rr_C X G cX11_row 4 "RootRowsModel" (some .int) 2 48 := C
  unfold f_Mod_row at hm
  refine rx_aload_n C 0 dX11_row_0 rfl ?_
  refine rx_iconst (v := 0) C dX11_row_1 rfl ?_
  refine pf_841 C m_v0 k_v0 dX11_row_2 hm (fun σ_1 hm => ?_)
  refine rx_aload_n C 0 dX11_row_5 rfl ?_
  refine rx_iload_n C 1 dX11_row_6 rfl ?_
  obtain ⟨r_2, hc_3, hm⟩ := rr_b0_some hm
  refine rr_callV (rest := []) (st1 := [.int r_2]) C 9 hll (c_Mod_isTray l G hG v0 m_v0 k_v0 v1 σ_1 _ hc_3) q_916 q_918 qs_37 q_11 q_919 hd_Mod_isTray ⟨_, rfl, rfl⟩ (by decide) m_v0 k_v0 ⟨by decide, by decide⟩ rfl rfl (Nat.le_of_ble_eq_true rfl) rfl dX11_row_7 ?_
  refine rx_if_eq (tgt := 25) C dX11_row_10 (by decide) hm (fun h_4 hm => ?_) (fun h_4 hm => ?_)
  · refine rx_iconst (v := (-1)) C dX11_row_25 rfl ?_
    exact rx_iret C dX11_row_26 hm
  refine rx_iload_n C 2 dX11_row_13 rfl ?_
  refine rx_i2l C dX11_row_14 ?_
  refine rx_lconst (v := 0) C dX11_row_15 rfl ?_
  refine rx_ldc2 C q_1215 dX11_row_16 ?_
  obtain ⟨r_5, hc_6, hm⟩ := rr_b0_some hm
  refine rr_callS (rest := []) (st1 := [.int r_5]) C hll (c_Mod_isIn l G hG v2.toInt64 0 4 σ_1 _ hc_6) q_909 q_910 q_11 q_911 hd_Mod_isIn ⟨by decide, by decide⟩ rfl rfl (Nat.le_of_ble_eq_true rfl) rfl dX11_row_19 ?_
  refine rx_if_ne (tgt := 27) C dX11_row_22 (by decide) hm (fun h_7 hm => ?_) (fun h_7 hm => ?_)
  · refine rx_aload_n C 0 dX11_row_27 rfl ?_
    refine rx_iload_n C 1 dX11_row_28 rfl ?_
    obtain ⟨r_8, hc_9, hm⟩ := rr_b0_some hm
    refine rr_callV (rest := []) (st1 := [.int r_8]) C 9 hll (c_Mod_degreeOf l G hG fu v0 m_v0 k_v0 v1 σ_1 _ hc_9) q_997 q_999 qs_50 q_11 q_1000 hd_Mod_degreeOf ⟨_, rfl, rfl⟩ (by decide) m_v0 k_v0 ⟨by decide, by decide⟩ rfl rfl (Nat.le_of_ble_eq_true rfl) rfl dX11_row_29 ?_
    refine rx_istore_n (lv1 := [(3, .int r_8), (0, .ref v0), (1, .int v1), (2, .int v2)]) C dX11_row_32 (by decide) rfl ?_
    refine rx_iload_n C 0 dX11_row_33 rfl ?_
    refine rx_if_ge (tgt := 40) C dX11_row_34 (by decide) hm (fun h_10 hm => ?_) (fun h_10 hm => ?_)
    · refine rx_iload_n C 3 dX11_row_40 rfl ?_
      refine rr_if hm (fun h_11 hm => ?_) (fun h_11 hm => ?_)
      · refine rx_tin (tgt := 72) C h_11 dX11_row_41 (by decide) (by decide) rfl (by decide) ?_
        refine rx_aload_n C 1 dX11_row_72 rfl ?_
        refine rx_iload_n C 2 dX11_row_73 rfl ?_
        refine rx_iload_n C 0 dX11_row_74 rfl ?_
        obtain ⟨r_12, hc_13, hm⟩ := rr_b0_some hm
        refine rr_callV (rest := []) (st1 := [.int r_12]) C 9 hll (c_Mod_firstNewton l G hG fu v0 m_v0 k_v0 v1 r_8 σ_1 _ hc_13) q_1216 q_1218 qs_90 q_11 q_1219 hd_Mod_firstNewton ⟨_, rfl, rfl⟩ (by decide) m_v0 k_v0 ⟨by decide, by decide⟩ rfl rfl (Nat.le_of_ble_eq_true rfl) rfl dX11_row_75 ?_
        exact rx_iret C dX11_row_78 hm
      refine rr_if hm (fun h_14 hm => ?_) (fun h_14 hm => ?_)
      · refine rx_tin (tgt := 79) C h_14 dX11_row_41 (by decide) (by decide) rfl (by decide) ?_
        refine rx_aload_n C 1 dX11_row_79 rfl ?_
        refine rx_iload_n C 2 dX11_row_80 rfl ?_
        refine rx_iload_n C 0 dX11_row_81 rfl ?_
        obtain ⟨r_15, hc_16, hm⟩ := rr_b0_some hm
        refine rr_callV (rest := []) (st1 := [.int r_15]) C 9 hll (c_Mod_firstBent l G hG fu v0 m_v0 k_v0 v1 r_8 σ_1 _ hc_16) q_1220 q_1222 qs_91 q_11 q_1223 hd_Mod_firstBent ⟨_, rfl, rfl⟩ (by decide) m_v0 k_v0 ⟨by decide, by decide⟩ rfl rfl (Nat.le_of_ble_eq_true rfl) rfl dX11_row_82 ?_
        exact rx_iret C dX11_row_85 hm
      refine rr_if hm (fun h_17 hm => ?_) (fun h_17 hm => ?_)
      · refine rx_tin (tgt := 86) C h_17 dX11_row_41 (by decide) (by decide) rfl (by decide) ?_
        refine rx_aload_n C 1 dX11_row_86 rfl ?_
        refine rx_iload_n C 2 dX11_row_87 rfl ?_
        refine rx_iload_n C 0 dX11_row_88 rfl ?_
        obtain ⟨r_18, hc_19, hm⟩ := rr_b0_some hm
        refine rr_callV (rest := []) (st1 := [.int r_18]) C 9 hll (c_Mod_holes l G hG fu v0 m_v0 k_v0 v1 r_8 σ_1 _ hc_19) q_1224 q_1226 qs_92 q_11 q_1227 hd_Mod_holes ⟨_, rfl, rfl⟩ (by decide) m_v0 k_v0 ⟨by decide, by decide⟩ rfl rfl (Nat.le_of_ble_eq_true rfl) rfl dX11_row_89 ?_
        exact rx_iret C dX11_row_92 hm
      refine rr_if hm (fun h_20 hm => ?_) (fun h_20 hm => ?_)
      · refine rx_tin (tgt := 93) C h_20 dX11_row_41 (by decide) (by decide) rfl (by decide) ?_
        refine rx_aload_n C 1 dX11_row_93 rfl ?_
        refine rx_iload_n C 2 dX11_row_94 rfl ?_
        refine rx_iload_n C 0 dX11_row_95 rfl ?_
        obtain ⟨r_21, hc_22, hm⟩ := rr_b0_some hm
        refine rr_callV (rest := []) (st1 := [.int r_21]) C 9 hll (c_Mod_hasHump l G hG fu v0 m_v0 k_v0 v1 r_8 σ_1 _ hc_22) q_1228 q_1230 qs_93 q_11 q_1231 hd_Mod_hasHump ⟨_, rfl, rfl⟩ (by decide) m_v0 k_v0 ⟨by decide, by decide⟩ rfl rfl (Nat.le_of_ble_eq_true rfl) rfl dX11_row_96 ?_
        refine rx_if_eq (tgt := 106) C dX11_row_99 (by decide) hm (fun h_23 hm => ?_) (fun h_23 hm => ?_)
        · refine rx_iconst (v := 0) C dX11_row_106 rfl ?_
          exact rx_iret C dX11_row_107 hm
        refine rx_iconst (v := 1) C dX11_row_102 rfl ?_
        refine rx_goto (tgt := 107) C dX11_row_103 (by decide) ?_
        exact rx_iret C dX11_row_107 hm
      refine rx_tout (tgt := 108) C dX11_row_41 (by have q0 := lv_neT (a := 0) h_11 (by decide); have q1 := lv_neT (a := 1) h_14 (by decide); have q2 := lv_neT (a := 2) h_17 (by decide); have q3 := lv_neT (a := 3) h_20 (by decide); omega) (by decide) ?_
      refine rx_aload_n C 1 dX11_row_108 rfl ?_
      refine rx_iload_n C 2 dX11_row_109 rfl ?_
      refine rx_iload_n C 0 dX11_row_110 rfl ?_
      obtain ⟨r_24, hc_25, hm⟩ := rr_b0_some hm
      refine rr_callV (rest := []) (st1 := [.int r_24]) C 9 hll (c_Mod_modes l G hG fu v0 m_v0 k_v0 v1 r_8 σ_1 _ hc_25) q_1232 q_1234 qs_94 q_11 q_1235 hd_Mod_modes ⟨_, rfl, rfl⟩ (by decide) m_v0 k_v0 ⟨by decide, by decide⟩ rfl rfl (Nat.le_of_ble_eq_true rfl) rfl dX11_row_111 ?_
      exact rx_iret C dX11_row_114 hm
    refine rx_bipush (v := (-2)) C dX11_row_37 rfl ?_
    exact rx_iret C dX11_row_39 hm
  refine rx_iconst (v := (-1)) C dX11_row_25 rfl ?_
  exact rx_iret C dX11_row_26 hm
def f_Mod_sign (fu : Nat) (N : Nat → Nat) (v0 : Nat) (v1 : Int32) (v2 : Int32) (v3 : Int32) (σ : rr_M) : Option (Int32 × rr_M) :=
    rr_lt (ms_i σ v0 0 0) fun σ_1 =>
    Option.bind (f_Mod_isTray v0 v1) fun r_2 =>
    if r_2 = 0 then (some ((-2), σ_1)) else
    Option.bind (f_Mod_isIn v3.toInt64 0 12) fun r_5 =>
    if r_5 = 0 then (some ((-2), σ_1)) else
    Option.bind (f_Mod_degreeOf fu N v0 v1 σ_1) fun r_8 =>
    if 0 ≤ r_8 then (rr_bd (f_Mod_takes fu N v0 36 v1 σ_1) fun _ σ_11 =>
    rr_lt (mg_r σ_11 v0 7) fun p_13 =>
    (if rr_ix 36 (N p_13) then rr_lt (ms_i σ_11 p_13 (rr_n 36) 1) fun σ_14 =>
    rr_bd (f_Mod_sets fu N v0 15 v2.toInt64 σ_14) fun _ σ_15 =>
    rr_bd (f_Mod_signAt fu N v0 36 v3 σ_15) fun r_17 σ_18 =>
    some (r_17, σ_18) else none)) else
    some (0, σ_1)
theorem c_Mod_sign (l : Launch) (G : rr_G) (hG : G.2.2.1.Nodup) (fu : Nat) (v0 : Nat) (m_v0 : v0 ∈ G.2.2.1) (k_v0 : G.2.2.2.1 v0 = 9) (v1 : Int32) (v2 : Int32) (v3 : Int32) (σ : rr_M) (r : Int32) (σr : rr_M) (hm : f_Mod_sign fu G.2.2.2.2 v0 v1 v2 v3 σ = some (r, σr)) : rr_Met l G yX11_sign cX11_sign 4 (some .int) 4 102 [.ref v0, .int v1, .int v2, .int v3] σ σr (some (.int r)) := by
  refine rr_enter (lv0 := [(0, .ref v0), (1, .int v1), (2, .int v2), (3, .int v3)]) hp_Mod_sign hG (Nat.le_of_ble_eq_true rfl) rfl (fun X hll C => ?_)
  replace C : rr_C X G cX11_sign 4 "RootRowsModel" (some .int) 4 102 := C
  unfold f_Mod_sign at hm
  refine rx_aload_n C 0 dX11_sign_0 rfl ?_
  refine rx_iconst (v := 0) C dX11_sign_1 rfl ?_
  refine pf_841 C m_v0 k_v0 dX11_sign_2 hm (fun σ_1 hm => ?_)
  refine rx_aload_n C 0 dX11_sign_5 rfl ?_
  refine rx_iload_n C 1 dX11_sign_6 rfl ?_
  obtain ⟨r_2, hc_3, hm⟩ := rr_b0_some hm
  refine rr_callV (rest := []) (st1 := [.int r_2]) C 9 hll (c_Mod_isTray l G hG v0 m_v0 k_v0 v1 σ_1 _ hc_3) q_916 q_918 qs_37 q_11 q_919 hd_Mod_isTray ⟨_, rfl, rfl⟩ (by decide) m_v0 k_v0 ⟨by decide, by decide⟩ rfl rfl (Nat.le_of_ble_eq_true rfl) rfl dX11_sign_7 ?_
  refine rx_if_eq (tgt := 25) C dX11_sign_10 (by decide) hm (fun h_4 hm => ?_) (fun h_4 hm => ?_)
  · refine rx_bipush (v := (-2)) C dX11_sign_25 rfl ?_
    exact rx_iret C dX11_sign_27 hm
  refine rx_iload_n C 3 dX11_sign_13 rfl ?_
  refine rx_i2l C dX11_sign_14 ?_
  refine rx_lconst (v := 0) C dX11_sign_15 rfl ?_
  refine rx_ldc2 C q_1139 dX11_sign_16 ?_
  obtain ⟨r_5, hc_6, hm⟩ := rr_b0_some hm
  refine rr_callS (rest := []) (st1 := [.int r_5]) C hll (c_Mod_isIn l G hG v3.toInt64 0 12 σ_1 _ hc_6) q_909 q_910 q_11 q_911 hd_Mod_isIn ⟨by decide, by decide⟩ rfl rfl (Nat.le_of_ble_eq_true rfl) rfl dX11_sign_19 ?_
  refine rx_if_ne (tgt := 28) C dX11_sign_22 (by decide) hm (fun h_7 hm => ?_) (fun h_7 hm => ?_)
  · refine rx_aload_n C 0 dX11_sign_28 rfl ?_
    refine rx_iload_n C 1 dX11_sign_29 rfl ?_
    obtain ⟨r_8, hc_9, hm⟩ := rr_b0_some hm
    refine rr_callV (rest := []) (st1 := [.int r_8]) C 9 hll (c_Mod_degreeOf l G hG fu v0 m_v0 k_v0 v1 σ_1 _ hc_9) q_997 q_999 qs_50 q_11 q_1000 hd_Mod_degreeOf ⟨_, rfl, rfl⟩ (by decide) m_v0 k_v0 ⟨by decide, by decide⟩ rfl rfl (Nat.le_of_ble_eq_true rfl) rfl dX11_sign_30 ?_
    refine rx_if_ge (tgt := 38) C dX11_sign_33 (by decide) hm (fun h_10 hm => ?_) (fun h_10 hm => ?_)
    · refine rx_aload_n C 0 dX11_sign_38 rfl ?_
      refine rx_bipush (v := 36) C dX11_sign_39 rfl ?_
      refine rx_iload_n C 1 dX11_sign_41 rfl ?_
      obtain ⟨_, σ_11, hc_12, hm⟩ := rr_bd_some hm
      refine rr_callV (rest := []) (st1 := []) C 9 hll (c_Mod_takes l G hG fu v0 m_v0 k_v0 36 v1 σ_1 _ hc_12) q_985 q_987 qs_48 q_11 q_988 hd_Mod_takes ⟨_, rfl, rfl⟩ (by decide) m_v0 k_v0 ⟨by decide, by decide⟩ rfl rfl (Nat.le_of_ble_eq_true rfl) rfl dX11_sign_42 ?_
      refine rx_aload_n C 0 dX11_sign_45 rfl ?_
      refine gf_848 C m_v0 k_v0 dX11_sign_46 hm (fun p_13 m_p_13 k_p_13 hm => ?_)
      refine rx_bipush (v := 36) C dX11_sign_49 rfl ?_
      refine rx_iconst (v := 1) C dX11_sign_51 rfl ?_
      refine rx_iast C m_p_13 k_p_13 dX11_sign_52 hm (fun σ_14 hm => ?_)
      refine rx_aload_n C 0 dX11_sign_53 rfl ?_
      refine rx_bipush (v := 15) C dX11_sign_54 rfl ?_
      refine rx_iload_n C 2 dX11_sign_56 rfl ?_
      refine rx_i2l C dX11_sign_57 ?_
      obtain ⟨_, σ_15, hc_16, hm⟩ := rr_bd_some hm
      refine rr_callV (rest := []) (st1 := []) C 9 hll (c_Mod_sets l G hG fu v0 m_v0 k_v0 15 v2.toInt64 σ_14 _ hc_16) q_992 q_994 qs_49 q_11 q_995 hd_Mod_sets ⟨_, rfl, rfl⟩ (by decide) m_v0 k_v0 ⟨by decide, by decide⟩ rfl rfl (Nat.le_of_ble_eq_true rfl) rfl dX11_sign_58 ?_
      refine rx_aload_n C 0 dX11_sign_61 rfl ?_
      refine rx_bipush (v := 36) C dX11_sign_62 rfl ?_
      refine rx_iload_n C 3 dX11_sign_64 rfl ?_
      obtain ⟨r_17, σ_18, hc_19, hm⟩ := rr_bd_some hm
      refine rr_callV (rest := []) (st1 := [.int r_17]) C 9 hll (c_Mod_signAt l G hG fu v0 m_v0 k_v0 36 v3 σ_15 _ _ hc_19) q_1165 q_1167 qs_86 q_11 q_1168 hd_Mod_signAt ⟨_, rfl, rfl⟩ (by decide) m_v0 k_v0 ⟨by decide, by decide⟩ rfl rfl (Nat.le_of_ble_eq_true rfl) rfl dX11_sign_65 ?_
      exact rx_iret C dX11_sign_68 hm
    refine rx_iconst (v := 0) C dX11_sign_36 rfl ?_
    exact rx_iret C dX11_sign_37 hm
  refine rx_bipush (v := (-2)) C dX11_sign_25 rfl ?_
  exact rx_iret C dX11_sign_27 hm
def l_Mod_times_81 (fu : Nat) (N : Nat → Nat) (v0 : Nat) (v2 : Int32) (v3 : Int32) (v4 : Int32) (σ : rr_M) : Nat → Int64 → Int32 → (Int64 → Option (Int32 × rr_M)) → Option (Int32 × rr_M)
  | 0, _, _, _ => none
  | n + 1, v5, v7, kk =>
    if v4 < v7 then (kk v5) else
    Option.bind (f_Mod_at N v0 v2 v7 σ) fun r_15 =>
    Option.bind (f_Mod_at N v0 v3 (v4 - v7) σ) fun r_17 =>
    rr_lt (v5 + (r_15 * r_17)) fun v5_19 =>
    rr_lt (v7 + 1) fun v7_20 =>
    l_Mod_times_81 fu N v0 v2 v3 v4 σ n v5_19 v7_20 kk
theorem lw_Mod_times_81 {X : rr_X} {G : rr_G} {l : Launch} {fu : Nat} (hG : G.2.2.1.Nodup) (hll : X.2.1 = l) (C : rr_C X G cX11_times 8 "RootRowsModel" (some .boolean) 3 66) {r : Int32} {σr : rr_M} (σ : rr_M) (v0 : Nat) (m_v0 : v0 ∈ G.2.2.1) (k_v0 : G.2.2.2.1 v0 = 9) (v1 : Int32) (v2 : Int32) (v3 : Int32) (v4 : Int32) : ∀ (n : Nat) (v5 : Int64) (v7 : Int32) (K : Int64 → Option (Int32 × rr_M)), l_Mod_times_81 fu G.2.2.2.2 v0 v2 v3 v4 σ n v5 v7 K = some (r, σr) → (∀ (w5 : Int64), K w5 = some (r, σr) → rr_J X G 8 (rr_E X G σr (some (.int r))) σ 117 [(0, .ref v0), (1, .int v1), (2, .int v2), (3, .int v3), (4, .int v4), (5, .long w5)] []) → rr_J X G 8 (rr_E X G σr (some (.int r))) σ 81 [(0, .ref v0), (1, .int v1), (2, .int v2), (3, .int v3), (4, .int v4), (5, .long v5), (7, .int v7)] [] := by
  intro n
  induction n with
  | zero =>
    intro v5 v7 K hm
    cases hm
  | succ n ih =>
    intro v5 v7 K hm hk
    unfold l_Mod_times_81 at hm
    refine rx_iload C 6 dX11_times_81 rfl ?_
    refine rx_iload C 4 dX11_times_83 rfl ?_
    refine rx_icmp_gt (tgt := 117) C dX11_times_85 (by decide) hm (fun h_14 hm => ?_) (fun h_14 hm => ?_)
    · refine rx_lv [0, 1, 2, 3, 4, 5] rfl ?_
      exact hk _ hm
    refine rx_lload C 5 dX11_times_88 rfl ?_
    refine rx_aload_n C 0 dX11_times_90 rfl ?_
    refine rx_iload_n C 2 dX11_times_91 rfl ?_
    refine rx_iload C 6 dX11_times_92 rfl ?_
    obtain ⟨r_15, hc_16, hm⟩ := rr_b0_some hm
    refine rr_callV (rest := [.long v5]) (st1 := [.long r_15, .long v5]) C 9 hll (c_Mod_at l G hG v0 m_v0 k_v0 v2 v7 σ _ hc_16) q_950 q_952 qs_44 q_11 q_953 hd_Mod_at ⟨_, rfl, rfl⟩ (by decide) m_v0 k_v0 ⟨by decide, by decide⟩ rfl rfl (Nat.le_of_ble_eq_true rfl) rfl dX11_times_94 ?_
    refine rx_aload_n C 0 dX11_times_97 rfl ?_
    refine rx_iload_n C 3 dX11_times_98 rfl ?_
    refine rx_iload C 4 dX11_times_99 rfl ?_
    refine rx_iload C 6 dX11_times_101 rfl ?_
    refine rx_isub C dX11_times_103 ?_
    obtain ⟨r_17, hc_18, hm⟩ := rr_b0_some hm
    refine rr_callV (rest := [.long r_15, .long v5]) (st1 := [.long r_17, .long r_15, .long v5]) C 9 hll (c_Mod_at l G hG v0 m_v0 k_v0 v3 (v4 - v7) σ _ hc_18) q_950 q_952 qs_44 q_11 q_953 hd_Mod_at ⟨_, rfl, rfl⟩ (by decide) m_v0 k_v0 ⟨by decide, by decide⟩ rfl rfl (Nat.le_of_ble_eq_true rfl) rfl dX11_times_104 ?_
    refine rx_lmul C dX11_times_107 ?_
    refine rx_ladd C dX11_times_108 ?_
    refine rx_nml hm (fun v5_19 ev5_19 hm => ?_)
    refine rx_lstore (lv1 := [(5, .long v5_19), (0, .ref v0), (1, .int v1), (2, .int v2), (3, .int v3), (4, .int v4), (7, .int v7)]) C dX11_times_109 (by decide) rfl ?_
    refine rx_iinc (d := 1) (lv1 := fun v => [(7, .int v), (5, .long v5_19), (0, .ref v0), (1, .int v1), (2, .int v2), (3, .int v3), (4, .int v4)]) C 6 dX11_times_111 hm rfl rfl (by decide) (fun _ => rfl) (fun v7_20 hm => ?_)
    refine rx_goto (tgt := 81) C dX11_times_114 (by decide) ?_
    refine rx_lv [2, 3, 4, 5, 6, 1, 0] rfl ?_
    exact ih _ _ _ hm hk
def l_Mod_times_68 (fu : Nat) (N : Nat → Nat) (v0 : Nat) (v2 : Int32) (v3 : Int32) : Nat → Int32 → rr_M → (rr_M → Option (Int32 × rr_M)) → Option (Int32 × rr_M)
  | 0, _, _, _ => none
  | n + 1, v4, σ, kk =>
    if 9 ≤ v4 then (kk σ) else
    l_Mod_times_81 fu N v0 v2 v3 v4 σ fu 0 0 (fun v5_21 =>
    rr_bd (f_Mod_puts N v0 21 v4 v5_21 σ) fun _ σ_22 =>
    rr_lt (v4 + 1) fun v4_24 =>
    l_Mod_times_68 fu N v0 v2 v3 n v4_24 σ_22 kk)
theorem lw_Mod_times_68 {X : rr_X} {G : rr_G} {l : Launch} {fu : Nat} (hG : G.2.2.1.Nodup) (hll : X.2.1 = l) (C : rr_C X G cX11_times 8 "RootRowsModel" (some .boolean) 3 66) {r : Int32} {σr : rr_M} (v0 : Nat) (m_v0 : v0 ∈ G.2.2.1) (k_v0 : G.2.2.2.1 v0 = 9) (v1 : Int32) (v2 : Int32) (v3 : Int32) : ∀ (n : Nat) (v4 : Int32) (σ : rr_M) (K : rr_M → Option (Int32 × rr_M)), l_Mod_times_68 fu G.2.2.2.2 v0 v2 v3 n v4 σ K = some (r, σr) → (∀ (σ1 : rr_M), K σ1 = some (r, σr) → rr_J X G 8 (rr_E X G σr (some (.int r))) σ1 133 [(0, .ref v0), (1, .int v1)] []) → rr_J X G 8 (rr_E X G σr (some (.int r))) σ 68 [(0, .ref v0), (1, .int v1), (2, .int v2), (3, .int v3), (4, .int v4)] [] := by
  intro n
  induction n with
  | zero =>
    intro v4 σ K hm
    cases hm
  | succ n ih =>
    intro v4 σ K hm hk
    unfold l_Mod_times_68 at hm
    refine rx_iload C 4 dX11_times_68 rfl ?_
    refine rx_bipush (v := 9) C dX11_times_70 rfl ?_
    refine rx_icmp_ge (tgt := 133) C dX11_times_72 (by decide) hm (fun h_13 hm => ?_) (fun h_13 hm => ?_)
    · refine rx_lv [0, 1] rfl ?_
      exact hk _ hm
    refine rx_lconst (v := 0) C dX11_times_75 rfl ?_
    refine rx_lstore (lv1 := [(5, .long 0), (0, .ref v0), (1, .int v1), (2, .int v2), (3, .int v3), (4, .int v4)]) C dX11_times_76 (by decide) rfl ?_
    refine rx_iconst (v := 0) C dX11_times_78 rfl ?_
    refine rx_istore (lv1 := [(7, .int 0), (5, .long 0), (0, .ref v0), (1, .int v1), (2, .int v2), (3, .int v3), (4, .int v4)]) C dX11_times_79 (by decide) rfl ?_
    refine rx_lv [2, 3, 4, 5, 6, 1, 0] rfl ?_
    refine lw_Mod_times_81 hG hll C σ v0 m_v0 k_v0 v1 v2 v3 v4 _ _ _ _ hm (fun v5_21 hm => ?_)
    refine rx_aload_n C 0 dX11_times_117 rfl ?_
    refine rx_bipush (v := 21) C dX11_times_118 rfl ?_
    refine rx_iload C 4 dX11_times_120 rfl ?_
    refine rx_lload C 5 dX11_times_122 rfl ?_
    obtain ⟨_, σ_22, hc_23, hm⟩ := rr_bd_some hm
    refine rr_callV (rest := []) (st1 := []) C 9 hll (c_Mod_puts l G hG v0 m_v0 k_v0 21 v4 v5_21 σ _ hc_23) q_921 q_923 qs_38 q_11 q_924 hd_Mod_puts ⟨_, rfl, rfl⟩ (by decide) m_v0 k_v0 ⟨by decide, by decide⟩ rfl rfl (Nat.le_of_ble_eq_true rfl) rfl dX11_times_124 ?_
    refine rx_iinc (d := 1) (lv1 := fun v => [(4, .int v), (0, .ref v0), (1, .int v1), (2, .int v2), (3, .int v3), (5, .long v5_21)]) C 4 dX11_times_127 hm rfl rfl (by decide) (fun _ => rfl) (fun v4_24 hm => ?_)
    refine rx_goto (tgt := 68) C dX11_times_130 (by decide) ?_
    refine rx_lv [1, 2, 3, 4, 0] rfl ?_
    exact ih _ _ _ hm hk
def f_Mod_times (fu : Nat) (N : Nat → Nat) (v0 : Nat) (v1 : Int32) (v2 : Int32) (v3 : Int32) (σ : rr_M) : Option (Int32 × rr_M) :=
    rr_lt (ms_i σ v0 0 0) fun σ_1 =>
    Option.bind (f_Mod_isTray v0 v1) fun r_2 =>
    if r_2 = 0 then (if rr_b1 0 then some (0, σ_1) else none) else
    Option.bind (f_Mod_isTray v0 v2) fun r_5 =>
    if r_5 = 0 then (if rr_b1 0 then some (0, σ_1) else none) else
    Option.bind (f_Mod_isTray v0 v3) fun r_8 =>
    if r_8 = 0 then (if rr_b1 0 then some (0, σ_1) else none) else
    Option.bind (f_Mod_degreeOf fu N v0 v2 σ_1) fun r_11 =>
    rr_jn (fun (_ : Unit) =>
    l_Mod_times_68 fu N v0 v2 v3 fu 0 σ_1 (fun σ_25 =>
    rr_bd (f_Mod_comes fu N v0 v1 σ_25) fun r_26 σ_27 =>
    if rr_b1 r_26 then some (r_26, σ_27) else none)) fun j65 =>
    if r_11 < 0 then (j65 ()) else
    Option.bind (f_Mod_degreeOf fu N v0 v3 σ_1) fun r_30 =>
    if r_30 < 0 then (j65 ()) else
    Option.bind (f_Mod_degreeOf fu N v0 v2 σ_1) fun r_33 =>
    Option.bind (f_Mod_degreeOf fu N v0 v3 σ_1) fun r_35 =>
    if (r_33 + r_35) ≤ 8 then (j65 ()) else
    if rr_b1 0 then some (0, σ_1) else none
theorem c_Mod_times (l : Launch) (G : rr_G) (hG : G.2.2.1.Nodup) (fu : Nat) (v0 : Nat) (m_v0 : v0 ∈ G.2.2.1) (k_v0 : G.2.2.2.1 v0 = 9) (v1 : Int32) (v2 : Int32) (v3 : Int32) (σ : rr_M) (r : Int32) (σr : rr_M) (hm : f_Mod_times fu G.2.2.2.2 v0 v1 v2 v3 σ = some (r, σr)) : rr_Met l G yX11_times cX11_times 8 (some .boolean) 3 66 [.ref v0, .int v1, .int v2, .int v3] σ σr (some (.int r)) := by
  refine rr_enter (lv0 := [(0, .ref v0), (1, .int v1), (2, .int v2), (3, .int v3)]) hp_Mod_times hG (Nat.le_of_ble_eq_true rfl) rfl (fun X hll C => ?_)
  replace C : rr_C X G cX11_times 8 "RootRowsModel" (some .boolean) 3 66 := C
  unfold f_Mod_times at hm
  refine rx_aload_n C 0 dX11_times_0 rfl ?_
  refine rx_iconst (v := 0) C dX11_times_1 rfl ?_
  refine pf_841 C m_v0 k_v0 dX11_times_2 hm (fun σ_1 hm => ?_)
  refine rx_aload_n C 0 dX11_times_5 rfl ?_
  refine rx_iload_n C 1 dX11_times_6 rfl ?_
  obtain ⟨r_2, hc_3, hm⟩ := rr_b0_some hm
  refine rr_callV (rest := []) (st1 := [.int r_2]) C 9 hll (c_Mod_isTray l G hG v0 m_v0 k_v0 v1 σ_1 _ hc_3) q_916 q_918 qs_37 q_11 q_919 hd_Mod_isTray ⟨_, rfl, rfl⟩ (by decide) m_v0 k_v0 ⟨by decide, by decide⟩ rfl rfl (Nat.le_of_ble_eq_true rfl) rfl dX11_times_7 ?_
  refine rx_if_eq (tgt := 29) C dX11_times_10 (by decide) hm (fun h_4 hm => ?_) (fun h_4 hm => ?_)
  · refine rx_iconst (v := 0) C dX11_times_29 rfl ?_
    exact rx_zret C dX11_times_30 hm
  refine rx_aload_n C 0 dX11_times_13 rfl ?_
  refine rx_iload_n C 2 dX11_times_14 rfl ?_
  obtain ⟨r_5, hc_6, hm⟩ := rr_b0_some hm
  refine rr_callV (rest := []) (st1 := [.int r_5]) C 9 hll (c_Mod_isTray l G hG v0 m_v0 k_v0 v2 σ_1 _ hc_6) q_916 q_918 qs_37 q_11 q_919 hd_Mod_isTray ⟨_, rfl, rfl⟩ (by decide) m_v0 k_v0 ⟨by decide, by decide⟩ rfl rfl (Nat.le_of_ble_eq_true rfl) rfl dX11_times_15 ?_
  refine rx_if_eq (tgt := 29) C dX11_times_18 (by decide) hm (fun h_7 hm => ?_) (fun h_7 hm => ?_)
  · refine rx_iconst (v := 0) C dX11_times_29 rfl ?_
    exact rx_zret C dX11_times_30 hm
  refine rx_aload_n C 0 dX11_times_21 rfl ?_
  refine rx_iload_n C 3 dX11_times_22 rfl ?_
  obtain ⟨r_8, hc_9, hm⟩ := rr_b0_some hm
  refine rr_callV (rest := []) (st1 := [.int r_8]) C 9 hll (c_Mod_isTray l G hG v0 m_v0 k_v0 v3 σ_1 _ hc_9) q_916 q_918 qs_37 q_11 q_919 hd_Mod_isTray ⟨_, rfl, rfl⟩ (by decide) m_v0 k_v0 ⟨by decide, by decide⟩ rfl rfl (Nat.le_of_ble_eq_true rfl) rfl dX11_times_23 ?_
  refine rx_if_ne (tgt := 31) C dX11_times_26 (by decide) hm (fun h_10 hm => ?_) (fun h_10 hm => ?_)
  · refine rx_aload_n C 0 dX11_times_31 rfl ?_
    refine rx_iload_n C 2 dX11_times_32 rfl ?_
    obtain ⟨r_11, hc_12, hm⟩ := rr_b0_some hm
    refine rr_callV (rest := []) (st1 := [.int r_11]) C 9 hll (c_Mod_degreeOf l G hG fu v0 m_v0 k_v0 v2 σ_1 _ hc_12) q_997 q_999 qs_50 q_11 q_1000 hd_Mod_degreeOf ⟨_, rfl, rfl⟩ (by decide) m_v0 k_v0 ⟨by decide, by decide⟩ rfl rfl (Nat.le_of_ble_eq_true rfl) rfl dX11_times_33 ?_
    refine rr_jn1 hm (fun j65 ej65 hm => ?_)
    have hj65 : ∀ (uu : Unit), j65 uu = some (r, σr) → rr_J X G 8 (rr_E X G σr (some (.int r))) σ_1 65 [(0, .ref v0), (1, .int v1), (2, .int v2), (3, .int v3)] [] := by
      intro uu hm
      replace hm := ej65 _ hm
      refine rx_iconst (v := 0) C dX11_times_65 rfl ?_
      refine rx_istore (lv1 := [(4, .int 0), (0, .ref v0), (1, .int v1), (2, .int v2), (3, .int v3)]) C dX11_times_66 (by decide) rfl ?_
      refine rx_lv [1, 2, 3, 4, 0] rfl ?_
      refine lw_Mod_times_68 hG hll C v0 m_v0 k_v0 v1 v2 v3 _ _ _ _ hm (fun σ_25 hm => ?_)
      refine rx_aload_n C 0 dX11_times_133 rfl ?_
      refine rx_iload_n C 1 dX11_times_134 rfl ?_
      obtain ⟨r_26, σ_27, hc_28, hm⟩ := rr_bd_some hm
      refine rr_callV (rest := []) (st1 := [.int r_26]) C 9 hll (c_Mod_comes l G hG fu v0 m_v0 k_v0 v1 σ_25 _ _ hc_28) q_961 q_963 qs_46 q_11 q_964 hd_Mod_comes ⟨_, rfl, rfl⟩ (by decide) m_v0 k_v0 ⟨by decide, by decide⟩ rfl rfl (Nat.le_of_ble_eq_true rfl) rfl dX11_times_135 ?_
      exact rx_zret C dX11_times_138 hm
    refine rx_if_lt (tgt := 65) C dX11_times_36 (by decide) hm (fun h_29 hm => ?_) (fun h_29 hm => ?_)
    · refine rx_lv [0, 1, 2, 3] rfl ?_
      exact hj65 () hm
    refine rx_aload_n C 0 dX11_times_39 rfl ?_
    refine rx_iload_n C 3 dX11_times_40 rfl ?_
    obtain ⟨r_30, hc_31, hm⟩ := rr_b0_some hm
    refine rr_callV (rest := []) (st1 := [.int r_30]) C 9 hll (c_Mod_degreeOf l G hG fu v0 m_v0 k_v0 v3 σ_1 _ hc_31) q_997 q_999 qs_50 q_11 q_1000 hd_Mod_degreeOf ⟨_, rfl, rfl⟩ (by decide) m_v0 k_v0 ⟨by decide, by decide⟩ rfl rfl (Nat.le_of_ble_eq_true rfl) rfl dX11_times_41 ?_
    refine rx_if_lt (tgt := 65) C dX11_times_44 (by decide) hm (fun h_32 hm => ?_) (fun h_32 hm => ?_)
    · refine rx_lv [0, 1, 2, 3] rfl ?_
      exact hj65 () hm
    refine rx_aload_n C 0 dX11_times_47 rfl ?_
    refine rx_iload_n C 2 dX11_times_48 rfl ?_
    obtain ⟨r_33, hc_34, hm⟩ := rr_b0_some hm
    refine rr_callV (rest := []) (st1 := [.int r_33]) C 9 hll (c_Mod_degreeOf l G hG fu v0 m_v0 k_v0 v2 σ_1 _ hc_34) q_997 q_999 qs_50 q_11 q_1000 hd_Mod_degreeOf ⟨_, rfl, rfl⟩ (by decide) m_v0 k_v0 ⟨by decide, by decide⟩ rfl rfl (Nat.le_of_ble_eq_true rfl) rfl dX11_times_49 ?_
    refine rx_aload_n C 0 dX11_times_52 rfl ?_
    refine rx_iload_n C 3 dX11_times_53 rfl ?_
    obtain ⟨r_35, hc_36, hm⟩ := rr_b0_some hm
    refine rr_callV (rest := [.int r_33]) (st1 := [.int r_35, .int r_33]) C 9 hll (c_Mod_degreeOf l G hG fu v0 m_v0 k_v0 v3 σ_1 _ hc_36) q_997 q_999 qs_50 q_11 q_1000 hd_Mod_degreeOf ⟨_, rfl, rfl⟩ (by decide) m_v0 k_v0 ⟨by decide, by decide⟩ rfl rfl (Nat.le_of_ble_eq_true rfl) rfl dX11_times_54 ?_
    refine rx_iadd C dX11_times_57 ?_
    refine rx_bipush (v := 8) C dX11_times_58 rfl ?_
    refine rx_icmp_le (tgt := 65) C dX11_times_60 (by decide) hm (fun h_37 hm => ?_) (fun h_37 hm => ?_)
    · refine rx_lv [0, 1, 2, 3] rfl ?_
      exact hj65 () hm
    refine rx_iconst (v := 0) C dX11_times_63 rfl ?_
    exact rx_zret C dX11_times_64 hm
  refine rx_iconst (v := 0) C dX11_times_29 rfl ?_
  exact rx_zret C dX11_times_30 hm
