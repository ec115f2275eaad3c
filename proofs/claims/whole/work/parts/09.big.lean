def l_Big_trim_2 (fu : Nat) (N : Nat → Nat) (v0 : Nat) : Nat → Int32 → rr_M → (Int32 → rr_M → Option (Unit × rr_M)) → Option (Unit × rr_M)
  | 0, _, _, _ => none
  | n + 1, v2, σ, kk =>
    if v2 ≤ 1 then (kk v2 σ) else
    rr_lt (mg_r σ v0 0) fun p_2 =>
    (if rr_ix (v2 - 1) (N p_2) then
    rr_jn (fun (_ : Unit) =>
    rr_lt (mg_r σ v0 0) fun p_3 =>
    (if rr_ix (v2 - 1) (N p_3) then
    rr_jn (fun (σ_4 : rr_M) =>
    rr_lt (v2 + (-1)) fun v2_5 =>
    l_Big_trim_2 fu N v0 n v2_5 σ_4 kk) fun j64 =>
    if (mg_l σ p_3 (rr_n (v2 - 1))) = (-1) then (rr_lt (mg_r σ v0 0) fun p_7 =>
    (if rr_ix (v2 - 2) (N p_7) then
    (if rr_ix (v2 - 2) (N p_7) then rr_lt (ms_l σ p_7 (rr_n (v2 - 2)) ((mg_l σ p_7 (rr_n (v2 - 2))) - 1073741824)) fun σ_8 =>
    j64 σ_8 else none) else none)) else
    j64 σ else none)) fun j35 =>
    if (mg_l σ p_2 (rr_n (v2 - 1))) = 0 then (j35 ()) else
    rr_lt (mg_r σ v0 0) fun p_10 =>
    (if rr_ix (v2 - 1) (N p_10) then
    if (mg_l σ p_10 (rr_n (v2 - 1))) = (-1) then (j35 ()) else
    kk v2 σ else none) else none)
theorem lw_Big_trim_2 {X : rr_X} {G : rr_G} {l : Launch} {fu : Nat} (hG : G.2.2.1.Nodup) (hll : X.2.1 = l) (C : rr_C X G cX0_trim 3 "RootRows$Big" none 0 0) {σr : rr_M} (v0 : Nat) (m_v0 : v0 ∈ G.2.2.1) (k_v0 : G.2.2.2.1 v0 = 0) : ∀ (n : Nat) (v2 : Int32) (σ : rr_M) (K : Int32 → rr_M → Option (Unit × rr_M)), l_Big_trim_2 fu G.2.2.2.2 v0 n v2 σ K = some ((), σr) → (∀ (w2 : Int32) (σ1 : rr_M), K w2 σ1 = some ((), σr) → rr_J X G 3 (rr_E X G σr none) σ1 70 [(0, .ref v0), (2, .int w2)] []) → rr_J X G 3 (rr_E X G σr none) σ 2 [(0, .ref v0), (2, .int v2)] [] := by
  intro n
  induction n with
  | zero =>
    intro v2 σ K hm
    cases hm
  | succ n ih =>
    intro v2 σ K hm hk
    unfold l_Big_trim_2 at hm
    refine rx_iload_n C 1 dX0_trim_2 rfl ?_
    refine rx_iconst (v := 1) C dX0_trim_3 rfl ?_
    refine rx_icmp_le (tgt := 70) C dX0_trim_4 (by decide) hm (fun h_1 hm => ?_) (fun h_1 hm => ?_)
    · refine rx_lv [0, 1] rfl ?_
      exact hk _ _ hm
    refine rx_aload_n C 0 dX0_trim_7 rfl ?_
    refine gf_158 C m_v0 k_v0 dX0_trim_8 hm (fun p_2 m_p_2 k_p_2 hm => ?_)
    refine rx_iload_n C 1 dX0_trim_11 rfl ?_
    refine rx_iconst (v := 1) C dX0_trim_12 rfl ?_
    refine rx_isub C dX0_trim_13 ?_
    refine rx_lald C m_p_2 k_p_2 dX0_trim_14 hm (fun hm => ?_)
    refine rx_lconst (v := 0) C dX0_trim_15 rfl ?_
    refine rr_jn1 hm (fun j35 ej35 hm => ?_)
    have hj35 : ∀ (uu : Unit), j35 uu = some ((), σr) → rr_J X G 3 (rr_E X G σr none) σ 35 [(0, .ref v0), (2, .int v2)] [] := by
      intro uu hm
      replace hm := ej35 _ hm
      refine rx_aload_n C 0 dX0_trim_35 rfl ?_
      refine gf_158 C m_v0 k_v0 dX0_trim_36 hm (fun p_3 m_p_3 k_p_3 hm => ?_)
      refine rx_iload_n C 1 dX0_trim_39 rfl ?_
      refine rx_iconst (v := 1) C dX0_trim_40 rfl ?_
      refine rx_isub C dX0_trim_41 ?_
      refine rx_lald C m_p_3 k_p_3 dX0_trim_42 hm (fun hm => ?_)
      refine rx_ldc2 C q_279 dX0_trim_43 ?_
      refine rr_jn1 hm (fun j64 ej64 hm => ?_)
      have hj64 : ∀ (σ_4 : rr_M), j64 σ_4 = some ((), σr) → rr_J X G 3 (rr_E X G σr none) σ_4 64 [(0, .ref v0), (2, .int v2)] [] := by
        intro σ_4 hm
        replace hm := ej64 _ hm
        refine rx_iinc (d := (-1)) (lv1 := fun v => [(2, .int v), (0, .ref v0)]) C 1 dX0_trim_64 hm rfl rfl (by decide) (fun _ => rfl) (fun v2_5 hm => ?_)
        refine rx_goto (tgt := 2) C dX0_trim_67 (by decide) ?_
        refine rx_lv [1, 0] rfl ?_
        exact ih _ _ _ hm hk
      refine rx_lcmp_ne (tgt := 64) C dX0_trim_46 dX0_trim_47 (by decide) hm (fun h_6 hm => ?_) (fun h_6 hm => ?_)
      · refine rx_lv [0, 1] rfl ?_
        exact hj64 _ hm
      refine rx_aload_n C 0 dX0_trim_50 rfl ?_
      refine gf_158 C m_v0 k_v0 dX0_trim_51 hm (fun p_7 m_p_7 k_p_7 hm => ?_)
      refine rx_iload_n C 1 dX0_trim_54 rfl ?_
      refine rx_iconst (v := 2) C dX0_trim_55 rfl ?_
      refine rx_isub C dX0_trim_56 ?_
      refine rx_dup2_11 C dX0_trim_57 rfl rfl ?_
      refine rx_lald C m_p_7 k_p_7 dX0_trim_58 hm (fun hm => ?_)
      refine rx_ldc2 C q_280 dX0_trim_59 ?_
      refine rx_lsub C dX0_trim_62 ?_
      refine rx_last C m_p_7 k_p_7 dX0_trim_63 hm (fun σ_8 hm => ?_)
      refine rx_lv [0, 1] rfl ?_
      exact hj64 _ hm
    refine rx_lcmp_eq (tgt := 35) C dX0_trim_16 dX0_trim_17 (by decide) hm (fun h_9 hm => ?_) (fun h_9 hm => ?_)
    · refine rx_lv [0, 1] rfl ?_
      exact hj35 () hm
    refine rx_aload_n C 0 dX0_trim_20 rfl ?_
    refine gf_158 C m_v0 k_v0 dX0_trim_21 hm (fun p_10 m_p_10 k_p_10 hm => ?_)
    refine rx_iload_n C 1 dX0_trim_24 rfl ?_
    refine rx_iconst (v := 1) C dX0_trim_25 rfl ?_
    refine rx_isub C dX0_trim_26 ?_
    refine rx_lald C m_p_10 k_p_10 dX0_trim_27 hm (fun hm => ?_)
    refine rx_ldc2 C q_279 dX0_trim_28 ?_
    refine rx_lcmp_ne (tgt := 70) C dX0_trim_31 dX0_trim_32 (by decide) hm (fun h_11 hm => ?_) (fun h_11 hm => ?_)
    · refine rx_lv [0, 1] rfl ?_
      exact hk _ _ hm
    refine rx_lv [0, 1] rfl ?_
    exact hj35 () hm
def f_Big_trim (fu : Nat) (N : Nat → Nat) (v0 : Nat) (v1 : Int32) (σ : rr_M) : Option (Unit × rr_M) :=
    l_Big_trim_2 fu N v0 fu v1 σ (fun v2_12 σ_13 =>
    rr_lt (ms_i σ_13 v0 1 v2_12) fun σ_14 =>
    some ((), σ_14))
theorem c_Big_trim (l : Launch) (G : rr_G) (hG : G.2.2.1.Nodup) (fu : Nat) (v0 : Nat) (m_v0 : v0 ∈ G.2.2.1) (k_v0 : G.2.2.2.1 v0 = 0) (v1 : Int32) (σ : rr_M) (σr : rr_M) (hm : f_Big_trim fu G.2.2.2.2 v0 v1 σ = some ((), σr)) : rr_Met l G yX0_trim cX0_trim 3 none 0 0 [.ref v0, .int v1] σ σr none := by
  refine rr_enter (lv0 := [(0, .ref v0), (1, .int v1)]) hp_Big_trim hG (Nat.le_of_ble_eq_true rfl) rfl (fun X hll C => ?_)
  replace C : rr_C X G cX0_trim 3 "RootRows$Big" none 0 0 := C
  unfold f_Big_trim at hm
  refine rx_iload_n C 1 dX0_trim_0 rfl ?_
  refine rx_istore_n (lv1 := [(2, .int v1), (0, .ref v0), (1, .int v1)]) C dX0_trim_1 (by decide) rfl ?_
  refine rx_lv [1, 0] rfl ?_
  refine lw_Big_trim_2 hG hll C v0 m_v0 k_v0 _ _ _ _ hm (fun v2_12 σ_13 hm => ?_)
  refine rx_aload_n C 0 dX0_trim_70 rfl ?_
  refine rx_iload_n C 1 dX0_trim_71 rfl ?_
  refine pf_159 C m_v0 k_v0 dX0_trim_72 hm (fun σ_14 hm => ?_)
  exact rx_vret C dX0_trim_75 hm
def f_Big_set (fu : Nat) (N : Nat → Nat) (v0 : Nat) (v1 : Int64) (σ : rr_M) : Option (Unit × rr_M) :=
    rr_lt (mg_r σ v0 0) fun p_1 =>
    (if rr_ix 0 (N p_1) then rr_lt (ms_l σ p_1 (rr_n 0) (v1 &&& 1073741823)) fun σ_2 =>
    rr_lt (mg_r σ_2 v0 0) fun p_3 =>
    (if rr_ix 1 (N p_3) then rr_lt (ms_l σ_2 p_3 (rr_n 1) ((v1 >>> ((30 : Int32).toInt64 &&& 63)) &&& 1073741823)) fun σ_4 =>
    rr_lt (mg_r σ_4 v0 0) fun p_5 =>
    (if rr_ix 2 (N p_5) then rr_lt (ms_l σ_4 p_5 (rr_n 2) (v1 >>> ((60 : Int32).toInt64 &&& 63))) fun σ_6 =>
    rr_bd (f_Big_trim fu N v0 3 σ_6) fun _ σ_7 =>
    some ((), σ_7) else none) else none) else none)
theorem c_Big_set (l : Launch) (G : rr_G) (hG : G.2.2.1.Nodup) (fu : Nat) (v0 : Nat) (m_v0 : v0 ∈ G.2.2.1) (k_v0 : G.2.2.2.1 v0 = 0) (v1 : Int64) (σ : rr_M) (σr : rr_M) (hm : f_Big_set fu G.2.2.2.2 v0 v1 σ = some ((), σr)) : rr_Met l G yX0_set cX0_set 3 none 1 22 [.ref v0, .long v1] σ σr none := by
  refine rr_enter (lv0 := [(0, .ref v0), (1, .long v1)]) hp_Big_set hG (Nat.le_of_ble_eq_true rfl) rfl (fun X hll C => ?_)
  replace C : rr_C X G cX0_set 3 "RootRows$Big" none 1 22 := C
  unfold f_Big_set at hm
  refine rx_aload_n C 0 dX0_set_0 rfl ?_
  refine gf_158 C m_v0 k_v0 dX0_set_1 hm (fun p_1 m_p_1 k_p_1 hm => ?_)
  refine rx_iconst (v := 0) C dX0_set_4 rfl ?_
  refine rx_lload_n C 1 dX0_set_5 rfl ?_
  refine rx_ldc2 C q_274 dX0_set_6 ?_
  refine rx_land C dX0_set_9 ?_
  refine rx_last C m_p_1 k_p_1 dX0_set_10 hm (fun σ_2 hm => ?_)
  refine rx_aload_n C 0 dX0_set_11 rfl ?_
  refine gf_158 C m_v0 k_v0 dX0_set_12 hm (fun p_3 m_p_3 k_p_3 hm => ?_)
  refine rx_iconst (v := 1) C dX0_set_15 rfl ?_
  refine rx_lload_n C 1 dX0_set_16 rfl ?_
  refine rx_bipush (v := 30) C dX0_set_17 rfl ?_
  refine rx_lshr C dX0_set_19 ?_
  refine rx_ldc2 C q_274 dX0_set_20 ?_
  refine rx_land C dX0_set_23 ?_
  refine rx_last C m_p_3 k_p_3 dX0_set_24 hm (fun σ_4 hm => ?_)
  refine rx_aload_n C 0 dX0_set_25 rfl ?_
  refine gf_158 C m_v0 k_v0 dX0_set_26 hm (fun p_5 m_p_5 k_p_5 hm => ?_)
  refine rx_iconst (v := 2) C dX0_set_29 rfl ?_
  refine rx_lload_n C 1 dX0_set_30 rfl ?_
  refine rx_bipush (v := 60) C dX0_set_31 rfl ?_
  refine rx_lshr C dX0_set_33 ?_
  refine rx_last C m_p_5 k_p_5 dX0_set_34 hm (fun σ_6 hm => ?_)
  refine rx_aload_n C 0 dX0_set_35 rfl ?_
  refine rx_iconst (v := 3) C dX0_set_36 rfl ?_
  obtain ⟨_, σ_7, hc_8, hm⟩ := rr_bd_some hm
  refine rr_callV (rest := []) (st1 := []) C 0 hll (c_Big_trim l G hG fu v0 m_v0 k_v0 3 σ_6 _ hc_8) q_275 q_277 qs_0 q_6 q_278 hd_Big_trim ⟨_, rfl, rfl⟩ (by decide) m_v0 k_v0 ⟨by decide, by decide⟩ rfl rfl (Nat.le_of_ble_eq_true rfl) rfl dX0_set_37 ?_
  exact rx_vret C dX0_set_40 hm
def f_Big_clear (N : Nat → Nat) (v0 : Nat) (σ : rr_M) : Option (Unit × rr_M) :=
    rr_lt (mg_r σ v0 0) fun p_1 =>
    (if rr_ix 0 (N p_1) then rr_lt (ms_l σ p_1 (rr_n 0) 0) fun σ_2 =>
    rr_lt (ms_i σ_2 v0 1 1) fun σ_3 =>
    some ((), σ_3) else none)
theorem c_Big_clear (l : Launch) (G : rr_G) (hG : G.2.2.1.Nodup) (v0 : Nat) (m_v0 : v0 ∈ G.2.2.1) (k_v0 : G.2.2.2.1 v0 = 0) (σ : rr_M) (σr : rr_M) (hm : f_Big_clear G.2.2.2.2 v0 σ = some ((), σr)) : rr_Met l G yX0_clear cX0_clear 1 none 0 0 [.ref v0] σ σr none := by
  refine rr_enter (lv0 := [(0, .ref v0)]) hp_Big_clear hG (Nat.le_of_ble_eq_true rfl) rfl (fun X hll C => ?_)
  replace C : rr_C X G cX0_clear 1 "RootRows$Big" none 0 0 := C
  unfold f_Big_clear at hm
  refine rx_aload_n C 0 dX0_clear_0 rfl ?_
  refine gf_158 C m_v0 k_v0 dX0_clear_1 hm (fun p_1 m_p_1 k_p_1 hm => ?_)
  refine rx_iconst (v := 0) C dX0_clear_4 rfl ?_
  refine rx_lconst (v := 0) C dX0_clear_5 rfl ?_
  refine rx_last C m_p_1 k_p_1 dX0_clear_6 hm (fun σ_2 hm => ?_)
  refine rx_aload_n C 0 dX0_clear_7 rfl ?_
  refine rx_iconst (v := 1) C dX0_clear_8 rfl ?_
  refine pf_159 C m_v0 k_v0 dX0_clear_9 hm (fun σ_3 hm => ?_)
  exact rx_vret C dX0_clear_12 hm
def l_Big_addTimes_53 (fu : Nat) (N : Nat → Nat) (v0 : Nat) (v5 : Int32) : Nat → Int32 → rr_M → (rr_M → Option (Unit × rr_M)) → Option (Unit × rr_M)
  | 0, _, _, _ => none
  | n + 1, v7, σ, kk =>
    if v5 ≤ v7 then (kk σ) else
    rr_lt (mg_r σ v0 0) fun p_10 =>
    (if rr_ix v7 (N p_10) then rr_lt (ms_l σ p_10 (rr_n v7) 0) fun σ_11 =>
    rr_lt (v7 + 1) fun v7_12 =>
    l_Big_addTimes_53 fu N v0 v5 n v7_12 σ_11 kk else none)
theorem lw_Big_addTimes_53 {X : rr_X} {G : rr_G} {l : Launch} {fu : Nat} (hG : G.2.2.1.Nodup) (hll : X.2.1 = l) (C : rr_C X G cX0_addTimes 12 "RootRows$Big" none 1 23) {σr : rr_M} (v0 : Nat) (m_v0 : v0 ∈ G.2.2.1) (k_v0 : G.2.2.2.1 v0 = 0) (v1 : Nat) (m_v1 : v1 ∈ G.2.2.1) (k_v1 : G.2.2.2.1 v1 = 0) (v2 : Int64) (v4 : Int32) (v5 : Int32) (v6 : Int32) : ∀ (n : Nat) (v7 : Int32) (σ : rr_M) (K : rr_M → Option (Unit × rr_M)), l_Big_addTimes_53 fu G.2.2.2.2 v0 v5 n v7 σ K = some ((), σr) → (∀ (σ1 : rr_M), K σ1 = some ((), σr) → rr_J X G 12 (rr_E X G σr none) σ1 74 [(0, .ref v0), (1, .ref v1), (2, .long v2), (4, .int v4), (5, .int v5), (6, .int v6)] []) → rr_J X G 12 (rr_E X G σr none) σ 53 [(0, .ref v0), (1, .ref v1), (2, .long v2), (4, .int v4), (5, .int v5), (6, .int v6), (7, .int v7)] [] := by
  intro n
  induction n with
  | zero =>
    intro v7 σ K hm
    cases hm
  | succ n ih =>
    intro v7 σ K hm hk
    unfold l_Big_addTimes_53 at hm
    refine rx_iload C 6 dX0_addTimes_53 rfl ?_
    refine rx_iload C 4 dX0_addTimes_55 rfl ?_
    refine rx_icmp_ge (tgt := 74) C dX0_addTimes_57 (by decide) hm (fun h_9 hm => ?_) (fun h_9 hm => ?_)
    · refine rx_lv [0, 1, 2, 3, 4, 5] rfl ?_
      exact hk _ hm
    refine rx_aload_n C 0 dX0_addTimes_60 rfl ?_
    refine gf_158 C m_v0 k_v0 dX0_addTimes_61 hm (fun p_10 m_p_10 k_p_10 hm => ?_)
    refine rx_iload C 6 dX0_addTimes_64 rfl ?_
    refine rx_lconst (v := 0) C dX0_addTimes_66 rfl ?_
    refine rx_last C m_p_10 k_p_10 dX0_addTimes_67 hm (fun σ_11 hm => ?_)
    refine rx_iinc (d := 1) (lv1 := fun v => [(7, .int v), (0, .ref v0), (1, .ref v1), (2, .long v2), (4, .int v4), (5, .int v5), (6, .int v6)]) C 6 dX0_addTimes_68 hm rfl rfl (by decide) (fun _ => rfl) (fun v7_12 hm => ?_)
    refine rx_goto (tgt := 53) C dX0_addTimes_71 (by decide) ?_
    refine rx_lv [1, 2, 3, 4, 5, 6, 0] rfl ?_
    exact ih _ _ _ hm hk
def l_Big_addTimes_80 (fu : Nat) (N : Nat → Nat) (v0 : Nat) (v1 : Nat) (v2 : Int64) (v4 : Int32) (v5 : Int32) (v6 : Int32) : Nat → Int64 → Int32 → rr_M → (rr_M → Option (Unit × rr_M)) → Option (Unit × rr_M)
  | 0, _, _, _, _ => none
  | n + 1, v7, v9, σ, kk =>
    if v5 ≤ v9 then (kk σ) else
    rr_lt (mg_r σ v0 0) fun p_15 =>
    (if rr_ix v9 (N p_15) then
    rr_lt ((mg_l σ p_15 (rr_n v9)) + v7) fun v10_16 =>
    rr_jn (fun (v10_17 : Int64) =>
    rr_lt (mg_r σ v0 0) fun p_18 =>
    rr_jn (fun (t_19 : Int64) =>
    (if rr_ix v9 (N p_18) then rr_lt (ms_l σ p_18 (rr_n v9) t_19) fun σ_20 =>
    rr_lt (v10_17 >>> ((30 : Int32).toInt64 &&& 63)) fun v7_21 =>
    rr_lt (v9 + 1) fun v9_22 =>
    l_Big_addTimes_80 fu N v0 v1 v2 v4 v5 v6 n v7_21 v9_22 σ_20 kk else none)) fun j156 =>
    if (v5 - 1) ≤ v9 then (j156 v10_17) else
    j156 (v10_17 &&& 1073741823)) fun j130 =>
    if v9 < v4 then (j130 v10_16) else
    if v6 ≤ v9 then (j130 v10_16) else
    rr_lt (mg_r σ v1 0) fun p_26 =>
    (if rr_ix (v9 - v4) (N p_26) then
    rr_lt (v10_16 + (v2 * (mg_l σ p_26 (rr_n (v9 - v4))))) fun v10_27 =>
    j130 v10_27 else none) else none)
theorem lw_Big_addTimes_80 {X : rr_X} {G : rr_G} {l : Launch} {fu : Nat} (hG : G.2.2.1.Nodup) (hll : X.2.1 = l) (C : rr_C X G cX0_addTimes 12 "RootRows$Big" none 1 23) {σr : rr_M} (v0 : Nat) (m_v0 : v0 ∈ G.2.2.1) (k_v0 : G.2.2.2.1 v0 = 0) (v1 : Nat) (m_v1 : v1 ∈ G.2.2.1) (k_v1 : G.2.2.2.1 v1 = 0) (v2 : Int64) (v4 : Int32) (v5 : Int32) (v6 : Int32) : ∀ (n : Nat) (v7 : Int64) (v9 : Int32) (σ : rr_M) (K : rr_M → Option (Unit × rr_M)), l_Big_addTimes_80 fu G.2.2.2.2 v0 v1 v2 v4 v5 v6 n v7 v9 σ K = some ((), σr) → (∀ (σ1 : rr_M), K σ1 = some ((), σr) → rr_J X G 12 (rr_E X G σr none) σ1 170 [(0, .ref v0), (5, .int v5)] []) → rr_J X G 12 (rr_E X G σr none) σ 80 [(0, .ref v0), (1, .ref v1), (2, .long v2), (4, .int v4), (5, .int v5), (6, .int v6), (7, .long v7), (9, .int v9)] [] := by
  intro n
  induction n with
  | zero =>
    intro v7 v9 σ K hm
    cases hm
  | succ n ih =>
    intro v7 v9 σ K hm hk
    unfold l_Big_addTimes_80 at hm
    refine rx_iload C 7 dX0_addTimes_80 rfl ?_
    refine rx_iload C 4 dX0_addTimes_82 rfl ?_
    refine rx_icmp_ge (tgt := 170) C dX0_addTimes_84 (by decide) hm (fun h_14 hm => ?_) (fun h_14 hm => ?_)
    · refine rx_lv [0, 4] rfl ?_
      exact hk _ hm
    refine rx_aload_n C 0 dX0_addTimes_87 rfl ?_
    refine gf_158 C m_v0 k_v0 dX0_addTimes_88 hm (fun p_15 m_p_15 k_p_15 hm => ?_)
    refine rx_iload C 7 dX0_addTimes_91 rfl ?_
    refine rx_lald C m_p_15 k_p_15 dX0_addTimes_93 hm (fun hm => ?_)
    refine rx_lload C 6 dX0_addTimes_94 rfl ?_
    refine rx_ladd C dX0_addTimes_96 ?_
    refine rx_nml hm (fun v10_16 ev10_16 hm => ?_)
    refine rx_lstore (lv1 := [(10, .long v10_16), (0, .ref v0), (1, .ref v1), (2, .long v2), (4, .int v4), (5, .int v5), (6, .int v6), (7, .long v7), (9, .int v9)]) C dX0_addTimes_97 (by decide) rfl ?_
    refine rx_iload C 8 dX0_addTimes_99 rfl ?_
    refine rx_iload C 4 dX0_addTimes_101 rfl ?_
    refine rr_jn1 hm (fun j130 ej130 hm => ?_)
    have hj130 : ∀ (v10_17 : Int64), j130 v10_17 = some ((), σr) → rr_J X G 12 (rr_E X G σr none) σ 130 [(0, .ref v0), (1, .ref v1), (2, .long v2), (4, .int v4), (5, .int v5), (6, .int v6), (7, .long v7), (9, .int v9), (10, .long v10_17)] [] := by
      intro v10_17 hm
      replace hm := ej130 _ hm
      refine rx_aload_n C 0 dX0_addTimes_130 rfl ?_
      refine gf_158 C m_v0 k_v0 dX0_addTimes_131 hm (fun p_18 m_p_18 k_p_18 hm => ?_)
      refine rx_iload C 7 dX0_addTimes_134 rfl ?_
      refine rx_iload C 7 dX0_addTimes_136 rfl ?_
      refine rx_iload C 4 dX0_addTimes_138 rfl ?_
      refine rx_iconst (v := 1) C dX0_addTimes_140 rfl ?_
      refine rx_isub C dX0_addTimes_141 ?_
      refine rr_jn1 hm (fun j156 ej156 hm => ?_)
      have hj156 : ∀ (t_19 : Int64), j156 t_19 = some ((), σr) → rr_J X G 12 (rr_E X G σr none) σ 156 [(0, .ref v0), (1, .ref v1), (2, .long v2), (4, .int v4), (5, .int v5), (6, .int v6), (7, .long v7), (9, .int v9), (10, .long v10_17)] [.long t_19, .int v9, .ref p_18] := by
        intro t_19 hm
        replace hm := ej156 _ hm
        refine rx_last C m_p_18 k_p_18 dX0_addTimes_156 hm (fun σ_20 hm => ?_)
        refine rx_lload C 8 dX0_addTimes_157 rfl ?_
        refine rx_bipush (v := 30) C dX0_addTimes_159 rfl ?_
        refine rx_lshr C dX0_addTimes_161 ?_
        refine rx_nml hm (fun v7_21 ev7_21 hm => ?_)
        refine rx_lstore (lv1 := [(7, .long v7_21), (0, .ref v0), (1, .ref v1), (2, .long v2), (4, .int v4), (5, .int v5), (6, .int v6), (9, .int v9), (10, .long v10_17)]) C dX0_addTimes_162 (by decide) rfl ?_
        refine rx_iinc (d := 1) (lv1 := fun v => [(9, .int v), (7, .long v7_21), (0, .ref v0), (1, .ref v1), (2, .long v2), (4, .int v4), (5, .int v5), (6, .int v6), (10, .long v10_17)]) C 7 dX0_addTimes_164 hm rfl rfl (by decide) (fun _ => rfl) (fun v9_22 hm => ?_)
        refine rx_goto (tgt := 80) C dX0_addTimes_167 (by decide) ?_
        refine rx_lv [2, 3, 4, 5, 6, 7, 1, 0] rfl ?_
        exact ih _ _ _ _ hm hk
      refine rx_icmp_ge (tgt := 154) C dX0_addTimes_142 (by decide) hm (fun h_23 hm => ?_) (fun h_23 hm => ?_)
      · refine rx_lload C 8 dX0_addTimes_154 rfl ?_
        refine rx_lv [0, 1, 2, 3, 4, 5, 6, 7, 8] rfl ?_
        exact hj156 _ hm
      refine rx_lload C 8 dX0_addTimes_145 rfl ?_
      refine rx_ldc2 C q_274 dX0_addTimes_147 ?_
      refine rx_land C dX0_addTimes_150 ?_
      refine rx_goto (tgt := 156) C dX0_addTimes_151 (by decide) ?_
      refine rx_lv [0, 1, 2, 3, 4, 5, 6, 7, 8] rfl ?_
      exact hj156 _ hm
    refine rx_icmp_lt (tgt := 130) C dX0_addTimes_103 (by decide) hm (fun h_24 hm => ?_) (fun h_24 hm => ?_)
    · refine rx_lv [1, 2, 3, 4, 5, 6, 7, 8, 0] rfl ?_
      exact hj130 _ hm
    refine rx_iload C 8 dX0_addTimes_106 rfl ?_
    refine rx_iload C 6 dX0_addTimes_108 rfl ?_
    refine rx_icmp_ge (tgt := 130) C dX0_addTimes_110 (by decide) hm (fun h_25 hm => ?_) (fun h_25 hm => ?_)
    · refine rx_lv [1, 2, 3, 4, 5, 6, 7, 8, 0] rfl ?_
      exact hj130 _ hm
    refine rx_lload C 0 dX0_addTimes_113 rfl ?_
    refine rx_lload_n C 3 dX0_addTimes_115 rfl ?_
    refine rx_aload_n C 2 dX0_addTimes_116 rfl ?_
    refine gf_158 C m_v1 k_v1 dX0_addTimes_117 hm (fun p_26 m_p_26 k_p_26 hm => ?_)
    refine rx_iload C 8 dX0_addTimes_120 rfl ?_
    refine rx_iload C 4 dX0_addTimes_122 rfl ?_
    refine rx_isub C dX0_addTimes_124 ?_
    refine rx_lald C m_p_26 k_p_26 dX0_addTimes_125 hm (fun hm => ?_)
    refine rx_lmul C dX0_addTimes_126 ?_
    refine rx_ladd C dX0_addTimes_127 ?_
    refine rx_nml hm (fun v10_27 ev10_27 hm => ?_)
    refine rx_lstore (lv1 := [(10, .long v10_27), (0, .ref v0), (1, .ref v1), (2, .long v2), (4, .int v4), (5, .int v5), (6, .int v6), (7, .long v7), (9, .int v9)]) C dX0_addTimes_128 (by decide) rfl ?_
    refine rx_lv [1, 2, 3, 4, 5, 6, 7, 8, 0] rfl ?_
    exact hj130 _ hm
def f_Big_addTimes (fu : Nat) (N : Nat → Nat) (v0 : Nat) (v1 : Nat) (v2 : Int64) (v4 : Int32) (σ : rr_M) : Option (Unit × rr_M) :=
    rr_lt ((rr_mx (mg_i σ v0 1) ((mg_i σ v1 1) + v4)) + 2) fun v5_1 =>
    rr_jn (fun (_ : Unit) =>
    rr_bd (f_Big_clear N v0 σ) fun _ σ_2 =>
    some ((), σ_2)) fun j33 =>
    if v4 < 0 then (j33 ()) else
    rr_lt (mg_r σ v0 0) fun p_5 =>
    if v5_1 ≤ (nI (N p_5)) then (rr_lt ((mg_i σ v1 1) + v4) fun v6_7 =>
    rr_lt (mg_i σ v0 1) fun v7_8 =>
    l_Big_addTimes_53 fu N v0 v5_1 fu v7_8 σ (fun σ_13 =>
    l_Big_addTimes_80 fu N v0 v1 v2 v4 v5_1 v6_7 fu 0 0 σ_13 (fun σ_28 =>
    rr_bd (f_Big_trim fu N v0 v5_1 σ_28) fun _ σ_29 =>
    some ((), σ_29)))) else
    j33 ()
theorem c_Big_addTimes (l : Launch) (G : rr_G) (hG : G.2.2.1.Nodup) (fu : Nat) (v0 : Nat) (m_v0 : v0 ∈ G.2.2.1) (k_v0 : G.2.2.2.1 v0 = 0) (v1 : Nat) (m_v1 : v1 ∈ G.2.2.1) (k_v1 : G.2.2.2.1 v1 = 0) (v2 : Int64) (v4 : Int32) (σ : rr_M) (σr : rr_M) (hm : f_Big_addTimes fu G.2.2.2.2 v0 v1 v2 v4 σ = some ((), σr)) : rr_Met l G yX0_addTimes cX0_addTimes 12 none 1 23 [.ref v0, .ref v1, .long v2, .int v4] σ σr none := by
  refine rr_enter (lv0 := [(0, .ref v0), (1, .ref v1), (2, .long v2), (4, .int v4)]) hp_Big_addTimes hG (Nat.le_of_ble_eq_true rfl) rfl (fun X hll C => ?_)
  replace C : rr_C X G cX0_addTimes 12 "RootRows$Big" none 1 23 := C
  unfold f_Big_addTimes at hm
  refine rx_aload_n C 0 dX0_addTimes_0 rfl ?_
  refine gf_159 C m_v0 k_v0 dX0_addTimes_1 ?_
  refine rx_aload_n C 1 dX0_addTimes_4 rfl ?_
  refine gf_159 C m_v1 k_v1 dX0_addTimes_5 ?_
  refine rx_iload C 3 dX0_addTimes_8 rfl ?_
  refine rx_iadd C dX0_addTimes_10 ?_
  refine rx_mmax (rest := []) C q_155 (by decide) (by decide) (Nat.le_of_ble_eq_true rfl) dX0_addTimes_11 ?_
  refine rx_iconst (v := 2) C dX0_addTimes_14 rfl ?_
  refine rx_iadd C dX0_addTimes_15 ?_
  refine rx_nmi hm (fun v5_1 ev5_1 hm => ?_)
  refine rx_istore (lv1 := [(5, .int v5_1), (0, .ref v0), (1, .ref v1), (2, .long v2), (4, .int v4)]) C dX0_addTimes_16 (by decide) rfl ?_
  refine rx_iload C 4 dX0_addTimes_18 rfl ?_
  refine rr_jn1 hm (fun j33 ej33 hm => ?_)
  have hj33 : ∀ (uu : Unit), j33 uu = some ((), σr) → rr_J X G 12 (rr_E X G σr none) σ 33 [(0, .ref v0)] [] := by
    intro uu hm
    replace hm := ej33 _ hm
    refine rx_aload_n C 0 dX0_addTimes_33 rfl ?_
    obtain ⟨_, σ_2, hc_3, hm⟩ := rr_bd_some hm
    refine rr_callV (rest := []) (st1 := []) C 0 hll (c_Big_clear l G hG v0 m_v0 k_v0 σ _ hc_3) q_566 q_568 qs_19 q_6 q_569 hd_Big_clear ⟨_, rfl, rfl⟩ (by decide) m_v0 k_v0 ⟨by decide, by decide⟩ rfl rfl (Nat.le_of_ble_eq_true rfl) rfl dX0_addTimes_34 ?_
    exact rx_vret C dX0_addTimes_37 hm
  refine rx_if_lt (tgt := 33) C dX0_addTimes_20 (by decide) hm (fun h_4 hm => ?_) (fun h_4 hm => ?_)
  · refine rx_lv [1] rfl ?_
    exact hj33 () hm
  refine rx_iload C 0 dX0_addTimes_23 rfl ?_
  refine rx_aload_n C 1 dX0_addTimes_25 rfl ?_
  refine gf_158 C m_v0 k_v0 dX0_addTimes_26 hm (fun p_5 m_p_5 k_p_5 hm => ?_)
  refine rx_alen C m_p_5 k_p_5 (by decide) dX0_addTimes_29 ?_
  refine rx_icmp_le (tgt := 38) C dX0_addTimes_30 (by decide) hm (fun h_6 hm => ?_) (fun h_6 hm => ?_)
  · refine rx_aload_n C 2 dX0_addTimes_38 rfl ?_
    refine gf_159 C m_v1 k_v1 dX0_addTimes_39 ?_
    refine rx_iload C 4 dX0_addTimes_42 rfl ?_
    refine rx_iadd C dX0_addTimes_44 ?_
    refine rx_nmi hm (fun v6_7 ev6_7 hm => ?_)
    refine rx_istore (lv1 := [(6, .int v6_7), (5, .int v5_1), (0, .ref v0), (1, .ref v1), (2, .long v2), (4, .int v4)]) C dX0_addTimes_45 (by decide) rfl ?_
    refine rx_aload_n C 2 dX0_addTimes_47 rfl ?_
    refine gf_159 C m_v0 k_v0 dX0_addTimes_48 ?_
    refine rx_nmi hm (fun v7_8 ev7_8 hm => ?_)
    refine rx_istore (lv1 := [(7, .int v7_8), (6, .int v6_7), (5, .int v5_1), (0, .ref v0), (1, .ref v1), (2, .long v2), (4, .int v4)]) C dX0_addTimes_51 (by decide) rfl ?_
    refine rx_lv [3, 4, 5, 6, 2, 1, 0] rfl ?_
    refine lw_Big_addTimes_53 hG hll C v0 m_v0 k_v0 v1 m_v1 k_v1 v2 v4 v5_1 v6_7 _ _ _ _ hm (fun σ_13 hm => ?_)
    refine rx_lconst (v := 0) C dX0_addTimes_74 rfl ?_
    refine rx_lstore (lv1 := [(7, .long 0), (0, .ref v0), (1, .ref v1), (2, .long v2), (4, .int v4), (5, .int v5_1), (6, .int v6_7)]) C dX0_addTimes_75 (by decide) rfl ?_
    refine rx_iconst (v := 0) C dX0_addTimes_77 rfl ?_
    refine rx_istore (lv1 := [(9, .int 0), (7, .long 0), (0, .ref v0), (1, .ref v1), (2, .long v2), (4, .int v4), (5, .int v5_1), (6, .int v6_7)]) C dX0_addTimes_78 (by decide) rfl ?_
    refine rx_lv [2, 3, 4, 5, 6, 7, 1, 0] rfl ?_
    refine lw_Big_addTimes_80 hG hll C v0 m_v0 k_v0 v1 m_v1 k_v1 v2 v4 v5_1 v6_7 _ _ _ _ _ hm (fun σ_28 hm => ?_)
    refine rx_aload_n C 0 dX0_addTimes_170 rfl ?_
    refine rx_iload C 1 dX0_addTimes_171 rfl ?_
    obtain ⟨_, σ_29, hc_30, hm⟩ := rr_bd_some hm
    refine rr_callV (rest := []) (st1 := []) C 0 hll (c_Big_trim l G hG fu v0 m_v0 k_v0 v5_1 σ_28 _ hc_30) q_275 q_277 qs_0 q_6 q_278 hd_Big_trim ⟨_, rfl, rfl⟩ (by decide) m_v0 k_v0 ⟨by decide, by decide⟩ rfl rfl (Nat.le_of_ble_eq_true rfl) rfl dX0_addTimes_173 ?_
    exact rx_vret C dX0_addTimes_176 hm
  refine rx_lv [1] rfl ?_
  exact hj33 () hm
def f_Big_copy (N : Nat → Nat) (v0 : Nat) (v1 : Nat) (σ : rr_M) : Option (Unit × rr_M) :=
    rr_lt (mg_r σ v0 0) fun p_1 =>
    if (mg_i σ v1 1) ≤ (nI (N p_1)) then (rr_lt (mg_r σ v1 0) fun p_3 =>
    rr_lt (mg_r σ v0 0) fun p_4 =>
    (if rr_cp 0 0 (mg_i σ v1 1) (N p_3) (N p_4) then rr_lt (mc_l σ p_3 p_4 (rr_n 0) (rr_n 0) (rr_n (mg_i σ v1 1))) fun σ_5 =>
    rr_lt (ms_i σ_5 v0 1 (mg_i σ_5 v1 1)) fun σ_6 =>
    some ((), σ_6) else none)) else
    rr_bd (f_Big_clear N v0 σ) fun _ σ_7 =>
    some ((), σ_7)
theorem c_Big_copy (l : Launch) (G : rr_G) (hG : G.2.2.1.Nodup) (v0 : Nat) (m_v0 : v0 ∈ G.2.2.1) (k_v0 : G.2.2.2.1 v0 = 0) (v1 : Nat) (m_v1 : v1 ∈ G.2.2.1) (k_v1 : G.2.2.2.1 v1 = 0) (σ : rr_M) (σr : rr_M) (hm : f_Big_copy G.2.2.2.2 v0 v1 σ = some ((), σr)) : rr_Met l G yX0_copy cX0_copy 2 none 1 68 [.ref v0, .ref v1] σ σr none := by
  refine rr_enter (lv0 := [(0, .ref v0), (1, .ref v1)]) hp_Big_copy hG (Nat.le_of_ble_eq_true rfl) rfl (fun X hll C => ?_)
  replace C : rr_C X G cX0_copy 2 "RootRows$Big" none 1 68 := C
  unfold f_Big_copy at hm
  refine rx_aload_n C 1 dX0_copy_0 rfl ?_
  refine gf_159 C m_v1 k_v1 dX0_copy_1 ?_
  refine rx_aload_n C 0 dX0_copy_4 rfl ?_
  refine gf_158 C m_v0 k_v0 dX0_copy_5 hm (fun p_1 m_p_1 k_p_1 hm => ?_)
  refine rx_alen C m_p_1 k_p_1 (by decide) dX0_copy_8 ?_
  refine rx_icmp_le (tgt := 17) C dX0_copy_9 (by decide) hm (fun h_2 hm => ?_) (fun h_2 hm => ?_)
  · refine rx_aload_n C 1 dX0_copy_17 rfl ?_
    refine gf_158 C m_v1 k_v1 dX0_copy_18 hm (fun p_3 m_p_3 k_p_3 hm => ?_)
    refine rx_iconst (v := 0) C dX0_copy_21 rfl ?_
    refine rx_aload_n C 0 dX0_copy_22 rfl ?_
    refine gf_158 C m_v0 k_v0 dX0_copy_23 hm (fun p_4 m_p_4 k_p_4 hm => ?_)
    refine rx_iconst (v := 0) C dX0_copy_26 rfl ?_
    refine rx_aload_n C 1 dX0_copy_27 rfl ?_
    refine gf_159 C m_v1 k_v1 dX0_copy_28 ?_
    refine rx_copyl (rest := []) C q_570 q_540 q_539 q_14 m_p_3 k_p_3 m_p_4 k_p_4 (Nat.le_of_ble_eq_true rfl) (Nat.le_of_ble_eq_true rfl) (by decide) dX0_copy_31 hm (fun σ_5 hm => ?_)
    refine rx_aload_n C 0 dX0_copy_34 rfl ?_
    refine rx_aload_n C 1 dX0_copy_35 rfl ?_
    refine gf_159 C m_v1 k_v1 dX0_copy_36 ?_
    refine pf_159 C m_v0 k_v0 dX0_copy_39 hm (fun σ_6 hm => ?_)
    exact rx_vret C dX0_copy_42 hm
  refine rx_aload_n C 0 dX0_copy_12 rfl ?_
  obtain ⟨_, σ_7, hc_8, hm⟩ := rr_bd_some hm
  refine rr_callV (rest := []) (st1 := []) C 0 hll (c_Big_clear l G hG v0 m_v0 k_v0 σ _ hc_8) q_566 q_568 qs_19 q_6 q_569 hd_Big_clear ⟨_, rfl, rfl⟩ (by decide) m_v0 k_v0 ⟨by decide, by decide⟩ rfl rfl (Nat.le_of_ble_eq_true rfl) rfl dX0_copy_13 ?_
  exact rx_vret C dX0_copy_16 hm
def l_Big_negate_26 (fu : Nat) (N : Nat → Nat) (v0 : Nat) : Nat → Int64 → Int32 → rr_M → (Int64 → rr_M → Option (Unit × rr_M)) → Option (Unit × rr_M)
  | 0, _, _, _, _ => none
  | n + 1, v2, v4, σ, kk =>
    if (mg_i σ v0 1) ≤ v4 then (kk v2 σ) else
    rr_lt (mg_r σ v0 0) fun p_5 =>
    (if rr_ix v4 (N p_5) then
    rr_lt (v2 - (mg_l σ p_5 (rr_n v4))) fun v5_6 =>
    rr_lt (mg_r σ v0 0) fun p_7 =>
    (if rr_ix v4 (N p_7) then rr_lt (ms_l σ p_7 (rr_n v4) (v5_6 &&& 1073741823)) fun σ_8 =>
    rr_lt (v5_6 >>> ((30 : Int32).toInt64 &&& 63)) fun v2_9 =>
    rr_lt (v4 + 1) fun v4_10 =>
    l_Big_negate_26 fu N v0 n v2_9 v4_10 σ_8 kk else none) else none)
theorem lw_Big_negate_26 {X : rr_X} {G : rr_G} {l : Launch} {fu : Nat} (hG : G.2.2.1.Nodup) (hll : X.2.1 = l) (C : rr_C X G cX0_negate 7 "RootRows$Big" none 1 22) {σr : rr_M} (v0 : Nat) (m_v0 : v0 ∈ G.2.2.1) (k_v0 : G.2.2.2.1 v0 = 0) (v1 : Int32) : ∀ (n : Nat) (v2 : Int64) (v4 : Int32) (σ : rr_M) (K : Int64 → rr_M → Option (Unit × rr_M)), l_Big_negate_26 fu G.2.2.2.2 v0 n v2 v4 σ K = some ((), σr) → (∀ (w2 : Int64) (σ1 : rr_M), K w2 σ1 = some ((), σr) → rr_J X G 7 (rr_E X G σr none) σ1 71 [(0, .ref v0), (1, .int v1), (2, .long w2)] []) → rr_J X G 7 (rr_E X G σr none) σ 26 [(0, .ref v0), (1, .int v1), (2, .long v2), (4, .int v4)] [] := by
  intro n
  induction n with
  | zero =>
    intro v2 v4 σ K hm
    cases hm
  | succ n ih =>
    intro v2 v4 σ K hm hk
    unfold l_Big_negate_26 at hm
    refine rx_iload C 3 dX0_negate_26 rfl ?_
    refine rx_aload_n C 0 dX0_negate_28 rfl ?_
    refine gf_159 C m_v0 k_v0 dX0_negate_29 ?_
    refine rx_icmp_ge (tgt := 71) C dX0_negate_32 (by decide) hm (fun h_4 hm => ?_) (fun h_4 hm => ?_)
    · refine rx_lv [0, 1, 2] rfl ?_
      exact hk _ _ hm
    refine rx_lload_n C 2 dX0_negate_35 rfl ?_
    refine rx_aload_n C 0 dX0_negate_36 rfl ?_
    refine gf_158 C m_v0 k_v0 dX0_negate_37 hm (fun p_5 m_p_5 k_p_5 hm => ?_)
    refine rx_iload C 3 dX0_negate_40 rfl ?_
    refine rx_lald C m_p_5 k_p_5 dX0_negate_42 hm (fun hm => ?_)
    refine rx_lsub C dX0_negate_43 ?_
    refine rx_nml hm (fun v5_6 ev5_6 hm => ?_)
    refine rx_lstore (lv1 := [(5, .long v5_6), (0, .ref v0), (1, .int v1), (2, .long v2), (4, .int v4)]) C dX0_negate_44 (by decide) rfl ?_
    refine rx_aload_n C 1 dX0_negate_46 rfl ?_
    refine gf_158 C m_v0 k_v0 dX0_negate_47 hm (fun p_7 m_p_7 k_p_7 hm => ?_)
    refine rx_iload C 4 dX0_negate_50 rfl ?_
    refine rx_lload C 0 dX0_negate_52 rfl ?_
    refine rx_ldc2 C q_274 dX0_negate_54 ?_
    refine rx_land C dX0_negate_57 ?_
    refine rx_last C m_p_7 k_p_7 dX0_negate_58 hm (fun σ_8 hm => ?_)
    refine rx_lload C 0 dX0_negate_59 rfl ?_
    refine rx_bipush (v := 30) C dX0_negate_61 rfl ?_
    refine rx_lshr C dX0_negate_63 ?_
    refine rx_nml hm (fun v2_9 ev2_9 hm => ?_)
    refine rx_lstore_n (lv1 := [(2, .long v2_9), (5, .long v5_6), (0, .ref v0), (1, .int v1), (4, .int v4)]) C dX0_negate_64 (by decide) rfl ?_
    refine rx_iinc (d := 1) (lv1 := fun v => [(4, .int v), (2, .long v2_9), (5, .long v5_6), (0, .ref v0), (1, .int v1)]) C 4 dX0_negate_65 hm rfl rfl (by decide) (fun _ => rfl) (fun v4_10 hm => ?_)
    refine rx_goto (tgt := 26) C dX0_negate_68 (by decide) ?_
    refine rx_lv [3, 4, 1, 0] rfl ?_
    exact ih _ _ _ _ hm hk
def f_Big_negate (fu : Nat) (N : Nat → Nat) (v0 : Nat) (σ : rr_M) : Option (Unit × rr_M) :=
    rr_lt ((mg_i σ v0 1) + 1) fun v1_1 =>
    rr_lt (mg_r σ v0 0) fun p_2 =>
    if v1_1 ≤ (nI (N p_2)) then (l_Big_negate_26 fu N v0 fu 0 0 σ (fun v2_11 σ_12 =>
    rr_lt (mg_r σ_12 v0 0) fun p_13 =>
    (if rr_ix (v1_1 - 1) (N p_13) then rr_lt (ms_l σ_12 p_13 (rr_n (v1_1 - 1)) v2_11) fun σ_14 =>
    rr_bd (f_Big_trim fu N v0 v1_1 σ_14) fun _ σ_15 =>
    some ((), σ_15) else none))) else
    rr_bd (f_Big_clear N v0 σ) fun _ σ_17 =>
    some ((), σ_17)
theorem c_Big_negate (l : Launch) (G : rr_G) (hG : G.2.2.1.Nodup) (fu : Nat) (v0 : Nat) (m_v0 : v0 ∈ G.2.2.1) (k_v0 : G.2.2.2.1 v0 = 0) (σ : rr_M) (σr : rr_M) (hm : f_Big_negate fu G.2.2.2.2 v0 σ = some ((), σr)) : rr_Met l G yX0_negate cX0_negate 7 none 1 22 [.ref v0] σ σr none := by
  refine rr_enter (lv0 := [(0, .ref v0)]) hp_Big_negate hG (Nat.le_of_ble_eq_true rfl) rfl (fun X hll C => ?_)
  replace C : rr_C X G cX0_negate 7 "RootRows$Big" none 1 22 := C
  unfold f_Big_negate at hm
  refine rx_aload_n C 0 dX0_negate_0 rfl ?_
  refine gf_159 C m_v0 k_v0 dX0_negate_1 ?_
  refine rx_iconst (v := 1) C dX0_negate_4 rfl ?_
  refine rx_iadd C dX0_negate_5 ?_
  refine rx_nmi hm (fun v1_1 ev1_1 hm => ?_)
  refine rx_istore_n (lv1 := [(1, .int v1_1), (0, .ref v0)]) C dX0_negate_6 (by decide) rfl ?_
  refine rx_iload_n C 0 dX0_negate_7 rfl ?_
  refine rx_aload_n C 1 dX0_negate_8 rfl ?_
  refine gf_158 C m_v0 k_v0 dX0_negate_9 hm (fun p_2 m_p_2 k_p_2 hm => ?_)
  refine rx_alen C m_p_2 k_p_2 (by decide) dX0_negate_12 ?_
  refine rx_icmp_le (tgt := 21) C dX0_negate_13 (by decide) hm (fun h_3 hm => ?_) (fun h_3 hm => ?_)
  · refine rx_lconst (v := 0) C dX0_negate_21 rfl ?_
    refine rx_lstore_n (lv1 := [(2, .long 0), (1, .int v1_1), (0, .ref v0)]) C dX0_negate_22 (by decide) rfl ?_
    refine rx_iconst (v := 0) C dX0_negate_23 rfl ?_
    refine rx_istore (lv1 := [(4, .int 0), (2, .long 0), (1, .int v1_1), (0, .ref v0)]) C dX0_negate_24 (by decide) rfl ?_
    refine rx_lv [3, 2, 1, 0] rfl ?_
    refine lw_Big_negate_26 hG hll C v0 m_v0 k_v0 v1_1 _ _ _ _ _ hm (fun v2_11 σ_12 hm => ?_)
    refine rx_aload_n C 0 dX0_negate_71 rfl ?_
    refine gf_158 C m_v0 k_v0 dX0_negate_72 hm (fun p_13 m_p_13 k_p_13 hm => ?_)
    refine rx_iload_n C 1 dX0_negate_75 rfl ?_
    refine rx_iconst (v := 1) C dX0_negate_76 rfl ?_
    refine rx_isub C dX0_negate_77 ?_
    refine rx_lload_n C 2 dX0_negate_78 rfl ?_
    refine rx_last C m_p_13 k_p_13 dX0_negate_79 hm (fun σ_14 hm => ?_)
    refine rx_aload_n C 0 dX0_negate_80 rfl ?_
    refine rx_iload_n C 1 dX0_negate_81 rfl ?_
    obtain ⟨_, σ_15, hc_16, hm⟩ := rr_bd_some hm
    refine rr_callV (rest := []) (st1 := []) C 0 hll (c_Big_trim l G hG fu v0 m_v0 k_v0 v1_1 σ_14 _ hc_16) q_275 q_277 qs_0 q_6 q_278 hd_Big_trim ⟨_, rfl, rfl⟩ (by decide) m_v0 k_v0 ⟨by decide, by decide⟩ rfl rfl (Nat.le_of_ble_eq_true rfl) rfl dX0_negate_82 ?_
    exact rx_vret C dX0_negate_85 hm
  refine rx_aload_n C 1 dX0_negate_16 rfl ?_
  obtain ⟨_, σ_17, hc_18, hm⟩ := rr_bd_some hm
  refine rr_callV (rest := []) (st1 := []) C 0 hll (c_Big_clear l G hG v0 m_v0 k_v0 σ _ hc_18) q_566 q_568 qs_19 q_6 q_569 hd_Big_clear ⟨_, rfl, rfl⟩ (by decide) m_v0 k_v0 ⟨by decide, by decide⟩ rfl rfl (Nat.le_of_ble_eq_true rfl) rfl dX0_negate_17 ?_
  exact rx_vret C dX0_negate_20 hm
def l_Big_setProduct_27 (fu : Nat) (N : Nat → Nat) (v0 : Nat) (v3 : Int32) : Nat → Int32 → rr_M → (rr_M → Option (Unit × rr_M)) → Option (Unit × rr_M)
  | 0, _, _, _ => none
  | n + 1, v4, σ, kk =>
    if v3 ≤ v4 then (kk σ) else
    rr_lt (mg_r σ v0 0) fun p_5 =>
    (if rr_ix v4 (N p_5) then rr_lt (ms_l σ p_5 (rr_n v4) 0) fun σ_6 =>
    rr_lt (v4 + 1) fun v4_7 =>
    l_Big_setProduct_27 fu N v0 v3 n v4_7 σ_6 kk else none)
theorem lw_Big_setProduct_27 {X : rr_X} {G : rr_G} {l : Launch} {fu : Nat} (hG : G.2.2.1.Nodup) (hll : X.2.1 = l) (C : rr_C X G cX0_setProduct 10 "RootRows$Big" none 1 22) {σr : rr_M} (v0 : Nat) (m_v0 : v0 ∈ G.2.2.1) (k_v0 : G.2.2.2.1 v0 = 0) (v1 : Nat) (m_v1 : v1 ∈ G.2.2.1) (k_v1 : G.2.2.2.1 v1 = 0) (v2 : Nat) (m_v2 : v2 ∈ G.2.2.1) (k_v2 : G.2.2.2.1 v2 = 0) (v3 : Int32) : ∀ (n : Nat) (v4 : Int32) (σ : rr_M) (K : rr_M → Option (Unit × rr_M)), l_Big_setProduct_27 fu G.2.2.2.2 v0 v3 n v4 σ K = some ((), σr) → (∀ (σ1 : rr_M), K σ1 = some ((), σr) → rr_J X G 10 (rr_E X G σr none) σ1 47 [(0, .ref v0), (1, .ref v1), (2, .ref v2), (3, .int v3)] []) → rr_J X G 10 (rr_E X G σr none) σ 27 [(0, .ref v0), (1, .ref v1), (2, .ref v2), (3, .int v3), (4, .int v4)] [] := by
  intro n
  induction n with
  | zero =>
    intro v4 σ K hm
    cases hm
  | succ n ih =>
    intro v4 σ K hm hk
    unfold l_Big_setProduct_27 at hm
    refine rx_iload C 4 dX0_setProduct_27 rfl ?_
    refine rx_iload_n C 3 dX0_setProduct_29 rfl ?_
    refine rx_icmp_ge (tgt := 47) C dX0_setProduct_30 (by decide) hm (fun h_4 hm => ?_) (fun h_4 hm => ?_)
    · refine rx_lv [0, 1, 2, 3] rfl ?_
      exact hk _ hm
    refine rx_aload_n C 0 dX0_setProduct_33 rfl ?_
    refine gf_158 C m_v0 k_v0 dX0_setProduct_34 hm (fun p_5 m_p_5 k_p_5 hm => ?_)
    refine rx_iload C 4 dX0_setProduct_37 rfl ?_
    refine rx_lconst (v := 0) C dX0_setProduct_39 rfl ?_
    refine rx_last C m_p_5 k_p_5 dX0_setProduct_40 hm (fun σ_6 hm => ?_)
    refine rx_iinc (d := 1) (lv1 := fun v => [(4, .int v), (0, .ref v0), (1, .ref v1), (2, .ref v2), (3, .int v3)]) C 4 dX0_setProduct_41 hm rfl rfl (by decide) (fun _ => rfl) (fun v4_7 hm => ?_)
    refine rx_goto (tgt := 27) C dX0_setProduct_44 (by decide) ?_
    refine rx_lv [1, 2, 3, 4, 0] rfl ?_
    exact ih _ _ _ hm hk
def l_Big_setProduct_65 (fu : Nat) (N : Nat → Nat) (v0 : Nat) (v1 : Nat) (v2 : Nat) (v4 : Int32) : Nat → Int64 → Int32 → rr_M → (Int64 → rr_M → Option (Unit × rr_M)) → Option (Unit × rr_M)
  | 0, _, _, _, _ => none
  | n + 1, v5, v7, σ, kk =>
    if (mg_i σ v2 1) ≤ v7 then (kk v5 σ) else
    rr_lt (mg_r σ v0 0) fun p_11 =>
    (if rr_ix (v4 + v7) (N p_11) then
    rr_lt (mg_r σ v1 0) fun p_12 =>
    (if rr_ix v4 (N p_12) then
    rr_lt (mg_r σ v2 0) fun p_13 =>
    (if rr_ix v7 (N p_13) then
    rr_lt (((mg_l σ p_11 (rr_n (v4 + v7))) + ((mg_l σ p_12 (rr_n v4)) * (mg_l σ p_13 (rr_n v7)))) + v5) fun v8_14 =>
    rr_lt (mg_r σ v0 0) fun p_15 =>
    (if rr_ix (v4 + v7) (N p_15) then rr_lt (ms_l σ p_15 (rr_n (v4 + v7)) (v8_14 &&& 1073741823)) fun σ_16 =>
    rr_lt (v8_14 >>> ((30 : Int32).toInt64 &&& 63)) fun v5_17 =>
    rr_lt (v7 + 1) fun v7_18 =>
    l_Big_setProduct_65 fu N v0 v1 v2 v4 n v5_17 v7_18 σ_16 kk else none) else none) else none) else none)
theorem lw_Big_setProduct_65 {X : rr_X} {G : rr_G} {l : Launch} {fu : Nat} (hG : G.2.2.1.Nodup) (hll : X.2.1 = l) (C : rr_C X G cX0_setProduct 10 "RootRows$Big" none 1 22) {σr : rr_M} (v0 : Nat) (m_v0 : v0 ∈ G.2.2.1) (k_v0 : G.2.2.2.1 v0 = 0) (v1 : Nat) (m_v1 : v1 ∈ G.2.2.1) (k_v1 : G.2.2.2.1 v1 = 0) (v2 : Nat) (m_v2 : v2 ∈ G.2.2.1) (k_v2 : G.2.2.2.1 v2 = 0) (v3 : Int32) (v4 : Int32) : ∀ (n : Nat) (v5 : Int64) (v7 : Int32) (σ : rr_M) (K : Int64 → rr_M → Option (Unit × rr_M)), l_Big_setProduct_65 fu G.2.2.2.2 v0 v1 v2 v4 n v5 v7 σ K = some ((), σr) → (∀ (w5 : Int64) (σ1 : rr_M), K w5 σ1 = some ((), σr) → rr_J X G 10 (rr_E X G σr none) σ1 134 [(0, .ref v0), (1, .ref v1), (2, .ref v2), (3, .int v3), (4, .int v4), (5, .long w5)] []) → rr_J X G 10 (rr_E X G σr none) σ 65 [(0, .ref v0), (1, .ref v1), (2, .ref v2), (3, .int v3), (4, .int v4), (5, .long v5), (7, .int v7)] [] := by
  intro n
  induction n with
  | zero =>
    intro v5 v7 σ K hm
    cases hm
  | succ n ih =>
    intro v5 v7 σ K hm hk
    unfold l_Big_setProduct_65 at hm
    refine rx_iload C 6 dX0_setProduct_65 rfl ?_
    refine rx_aload_n C 2 dX0_setProduct_67 rfl ?_
    refine gf_159 C m_v2 k_v2 dX0_setProduct_68 ?_
    refine rx_icmp_ge (tgt := 134) C dX0_setProduct_71 (by decide) hm (fun h_10 hm => ?_) (fun h_10 hm => ?_)
    · refine rx_lv [0, 1, 2, 3, 4, 5] rfl ?_
      exact hk _ _ hm
    refine rx_aload_n C 0 dX0_setProduct_74 rfl ?_
    refine gf_158 C m_v0 k_v0 dX0_setProduct_75 hm (fun p_11 m_p_11 k_p_11 hm => ?_)
    refine rx_iload C 4 dX0_setProduct_78 rfl ?_
    refine rx_iload C 6 dX0_setProduct_80 rfl ?_
    refine rx_iadd C dX0_setProduct_82 ?_
    refine rx_lald C m_p_11 k_p_11 dX0_setProduct_83 hm (fun hm => ?_)
    refine rx_aload_n C 1 dX0_setProduct_84 rfl ?_
    refine gf_158 C m_v1 k_v1 dX0_setProduct_85 hm (fun p_12 m_p_12 k_p_12 hm => ?_)
    refine rx_iload C 4 dX0_setProduct_88 rfl ?_
    refine rx_lald C m_p_12 k_p_12 dX0_setProduct_90 hm (fun hm => ?_)
    refine rx_aload_n C 2 dX0_setProduct_91 rfl ?_
    refine gf_158 C m_v2 k_v2 dX0_setProduct_92 hm (fun p_13 m_p_13 k_p_13 hm => ?_)
    refine rx_iload C 6 dX0_setProduct_95 rfl ?_
    refine rx_lald C m_p_13 k_p_13 dX0_setProduct_97 hm (fun hm => ?_)
    refine rx_lmul C dX0_setProduct_98 ?_
    refine rx_ladd C dX0_setProduct_99 ?_
    refine rx_lload C 5 dX0_setProduct_100 rfl ?_
    refine rx_ladd C dX0_setProduct_102 ?_
    refine rx_nml hm (fun v8_14 ev8_14 hm => ?_)
    refine rx_lstore (lv1 := [(8, .long v8_14), (0, .ref v0), (1, .ref v1), (2, .ref v2), (3, .int v3), (4, .int v4), (5, .long v5), (7, .int v7)]) C dX0_setProduct_103 (by decide) rfl ?_
    refine rx_aload_n C 1 dX0_setProduct_105 rfl ?_
    refine gf_158 C m_v0 k_v0 dX0_setProduct_106 hm (fun p_15 m_p_15 k_p_15 hm => ?_)
    refine rx_iload C 5 dX0_setProduct_109 rfl ?_
    refine rx_iload C 7 dX0_setProduct_111 rfl ?_
    refine rx_iadd C dX0_setProduct_113 ?_
    refine rx_lload C 0 dX0_setProduct_114 rfl ?_
    refine rx_ldc2 C q_274 dX0_setProduct_116 ?_
    refine rx_land C dX0_setProduct_119 ?_
    refine rx_last C m_p_15 k_p_15 dX0_setProduct_120 hm (fun σ_16 hm => ?_)
    refine rx_lload C 0 dX0_setProduct_121 rfl ?_
    refine rx_bipush (v := 30) C dX0_setProduct_123 rfl ?_
    refine rx_lshr C dX0_setProduct_125 ?_
    refine rx_nml hm (fun v5_17 ev5_17 hm => ?_)
    refine rx_lstore (lv1 := [(5, .long v5_17), (8, .long v8_14), (0, .ref v0), (1, .ref v1), (2, .ref v2), (3, .int v3), (4, .int v4), (7, .int v7)]) C dX0_setProduct_126 (by decide) rfl ?_
    refine rx_iinc (d := 1) (lv1 := fun v => [(7, .int v), (5, .long v5_17), (8, .long v8_14), (0, .ref v0), (1, .ref v1), (2, .ref v2), (3, .int v3), (4, .int v4)]) C 7 dX0_setProduct_128 hm rfl rfl (by decide) (fun _ => rfl) (fun v7_18 hm => ?_)
    refine rx_goto (tgt := 65) C dX0_setProduct_131 (by decide) ?_
    refine rx_lv [3, 4, 5, 6, 7, 1, 0] rfl ?_
    exact ih _ _ _ _ hm hk
def l_Big_setProduct_50 (fu : Nat) (N : Nat → Nat) (v0 : Nat) (v1 : Nat) (v2 : Nat) : Nat → Int32 → rr_M → (rr_M → Option (Unit × rr_M)) → Option (Unit × rr_M)
  | 0, _, _, _ => none
  | n + 1, v4, σ, kk =>
    if (mg_i σ v1 1) ≤ v4 then (kk σ) else
    l_Big_setProduct_65 fu N v0 v1 v2 v4 fu 0 0 σ (fun v5_19 σ_20 =>
    rr_lt (mg_r σ_20 v0 0) fun p_21 =>
    (if rr_ix (v4 + (mg_i σ_20 v2 1)) (N p_21) then rr_lt (ms_l σ_20 p_21 (rr_n (v4 + (mg_i σ_20 v2 1))) v5_19) fun σ_22 =>
    rr_lt (v4 + 1) fun v4_23 =>
    l_Big_setProduct_50 fu N v0 v1 v2 n v4_23 σ_22 kk else none))
theorem lw_Big_setProduct_50 {X : rr_X} {G : rr_G} {l : Launch} {fu : Nat} (hG : G.2.2.1.Nodup) (hll : X.2.1 = l) (C : rr_C X G cX0_setProduct 10 "RootRows$Big" none 1 22) {σr : rr_M} (v0 : Nat) (m_v0 : v0 ∈ G.2.2.1) (k_v0 : G.2.2.2.1 v0 = 0) (v1 : Nat) (m_v1 : v1 ∈ G.2.2.1) (k_v1 : G.2.2.2.1 v1 = 0) (v2 : Nat) (m_v2 : v2 ∈ G.2.2.1) (k_v2 : G.2.2.2.1 v2 = 0) (v3 : Int32) : ∀ (n : Nat) (v4 : Int32) (σ : rr_M) (K : rr_M → Option (Unit × rr_M)), l_Big_setProduct_50 fu G.2.2.2.2 v0 v1 v2 n v4 σ K = some ((), σr) → (∀ (σ1 : rr_M), K σ1 = some ((), σr) → rr_J X G 10 (rr_E X G σr none) σ1 154 [(0, .ref v0), (3, .int v3)] []) → rr_J X G 10 (rr_E X G σr none) σ 50 [(0, .ref v0), (1, .ref v1), (2, .ref v2), (3, .int v3), (4, .int v4)] [] := by
  intro n
  induction n with
  | zero =>
    intro v4 σ K hm
    cases hm
  | succ n ih =>
    intro v4 σ K hm hk
    unfold l_Big_setProduct_50 at hm
    refine rx_iload C 4 dX0_setProduct_50 rfl ?_
    refine rx_aload_n C 1 dX0_setProduct_52 rfl ?_
    refine gf_159 C m_v1 k_v1 dX0_setProduct_53 ?_
    refine rx_icmp_ge (tgt := 154) C dX0_setProduct_56 (by decide) hm (fun h_9 hm => ?_) (fun h_9 hm => ?_)
    · refine rx_lv [0, 3] rfl ?_
      exact hk _ hm
    refine rx_lconst (v := 0) C dX0_setProduct_59 rfl ?_
    refine rx_lstore (lv1 := [(5, .long 0), (0, .ref v0), (1, .ref v1), (2, .ref v2), (3, .int v3), (4, .int v4)]) C dX0_setProduct_60 (by decide) rfl ?_
    refine rx_iconst (v := 0) C dX0_setProduct_62 rfl ?_
    refine rx_istore (lv1 := [(7, .int 0), (5, .long 0), (0, .ref v0), (1, .ref v1), (2, .ref v2), (3, .int v3), (4, .int v4)]) C dX0_setProduct_63 (by decide) rfl ?_
    refine rx_lv [2, 3, 4, 5, 6, 1, 0] rfl ?_
    refine lw_Big_setProduct_65 hG hll C v0 m_v0 k_v0 v1 m_v1 k_v1 v2 m_v2 k_v2 v3 v4 _ _ _ _ _ hm (fun v5_19 σ_20 hm => ?_)
    refine rx_aload_n C 0 dX0_setProduct_134 rfl ?_
    refine gf_158 C m_v0 k_v0 dX0_setProduct_135 hm (fun p_21 m_p_21 k_p_21 hm => ?_)
    refine rx_iload C 4 dX0_setProduct_138 rfl ?_
    refine rx_aload_n C 2 dX0_setProduct_140 rfl ?_
    refine gf_159 C m_v2 k_v2 dX0_setProduct_141 ?_
    refine rx_iadd C dX0_setProduct_144 ?_
    refine rx_lload C 5 dX0_setProduct_145 rfl ?_
    refine rx_last C m_p_21 k_p_21 dX0_setProduct_147 hm (fun σ_22 hm => ?_)
    refine rx_iinc (d := 1) (lv1 := fun v => [(4, .int v), (0, .ref v0), (1, .ref v1), (2, .ref v2), (3, .int v3), (5, .long v5_19)]) C 4 dX0_setProduct_148 hm rfl rfl (by decide) (fun _ => rfl) (fun v4_23 hm => ?_)
    refine rx_goto (tgt := 50) C dX0_setProduct_151 (by decide) ?_
    refine rx_lv [1, 2, 3, 4, 0] rfl ?_
    exact ih _ _ _ hm hk
def f_Big_setProduct (fu : Nat) (N : Nat → Nat) (v0 : Nat) (v1 : Nat) (v2 : Nat) (σ : rr_M) : Option (Unit × rr_M) :=
    rr_lt ((mg_i σ v1 1) + (mg_i σ v2 1)) fun v3_1 =>
    rr_lt (mg_r σ v0 0) fun p_2 =>
    if v3_1 ≤ (nI (N p_2)) then (l_Big_setProduct_27 fu N v0 v3_1 fu 0 σ (fun σ_8 =>
    l_Big_setProduct_50 fu N v0 v1 v2 fu 0 σ_8 (fun σ_24 =>
    rr_bd (f_Big_trim fu N v0 v3_1 σ_24) fun _ σ_25 =>
    some ((), σ_25)))) else
    rr_bd (f_Big_clear N v0 σ) fun _ σ_27 =>
    some ((), σ_27)
theorem c_Big_setProduct (l : Launch) (G : rr_G) (hG : G.2.2.1.Nodup) (fu : Nat) (v0 : Nat) (m_v0 : v0 ∈ G.2.2.1) (k_v0 : G.2.2.2.1 v0 = 0) (v1 : Nat) (m_v1 : v1 ∈ G.2.2.1) (k_v1 : G.2.2.2.1 v1 = 0) (v2 : Nat) (m_v2 : v2 ∈ G.2.2.1) (k_v2 : G.2.2.2.1 v2 = 0) (σ : rr_M) (σr : rr_M) (hm : f_Big_setProduct fu G.2.2.2.2 v0 v1 v2 σ = some ((), σr)) : rr_Met l G yX0_setProduct cX0_setProduct 10 none 1 22 [.ref v0, .ref v1, .ref v2] σ σr none := by
  refine rr_enter (lv0 := [(0, .ref v0), (1, .ref v1), (2, .ref v2)]) hp_Big_setProduct hG (Nat.le_of_ble_eq_true rfl) rfl (fun X hll C => ?_)
  replace C : rr_C X G cX0_setProduct 10 "RootRows$Big" none 1 22 := C
  unfold f_Big_setProduct at hm
  refine rx_aload_n C 1 dX0_setProduct_0 rfl ?_
  refine gf_159 C m_v1 k_v1 dX0_setProduct_1 ?_
  refine rx_aload_n C 2 dX0_setProduct_4 rfl ?_
  refine gf_159 C m_v2 k_v2 dX0_setProduct_5 ?_
  refine rx_iadd C dX0_setProduct_8 ?_
  refine rx_nmi hm (fun v3_1 ev3_1 hm => ?_)
  refine rx_istore_n (lv1 := [(3, .int v3_1), (0, .ref v0), (1, .ref v1), (2, .ref v2)]) C dX0_setProduct_9 (by decide) rfl ?_
  refine rx_iload_n C 0 dX0_setProduct_10 rfl ?_
  refine rx_aload_n C 1 dX0_setProduct_11 rfl ?_
  refine gf_158 C m_v0 k_v0 dX0_setProduct_12 hm (fun p_2 m_p_2 k_p_2 hm => ?_)
  refine rx_alen C m_p_2 k_p_2 (by decide) dX0_setProduct_15 ?_
  refine rx_icmp_le (tgt := 24) C dX0_setProduct_16 (by decide) hm (fun h_3 hm => ?_) (fun h_3 hm => ?_)
  · refine rx_iconst (v := 0) C dX0_setProduct_24 rfl ?_
    refine rx_istore (lv1 := [(4, .int 0), (3, .int v3_1), (0, .ref v0), (1, .ref v1), (2, .ref v2)]) C dX0_setProduct_25 (by decide) rfl ?_
    refine rx_lv [2, 3, 4, 1, 0] rfl ?_
    refine lw_Big_setProduct_27 hG hll C v0 m_v0 k_v0 v1 m_v1 k_v1 v2 m_v2 k_v2 v3_1 _ _ _ _ hm (fun σ_8 hm => ?_)
    refine rx_iconst (v := 0) C dX0_setProduct_47 rfl ?_
    refine rx_istore (lv1 := [(4, .int 0), (0, .ref v0), (1, .ref v1), (2, .ref v2), (3, .int v3_1)]) C dX0_setProduct_48 (by decide) rfl ?_
    refine rx_lv [1, 2, 3, 4, 0] rfl ?_
    refine lw_Big_setProduct_50 hG hll C v0 m_v0 k_v0 v1 m_v1 k_v1 v2 m_v2 k_v2 v3_1 _ _ _ _ hm (fun σ_24 hm => ?_)
    refine rx_aload_n C 0 dX0_setProduct_154 rfl ?_
    refine rx_iload_n C 1 dX0_setProduct_155 rfl ?_
    obtain ⟨_, σ_25, hc_26, hm⟩ := rr_bd_some hm
    refine rr_callV (rest := []) (st1 := []) C 0 hll (c_Big_trim l G hG fu v0 m_v0 k_v0 v3_1 σ_24 _ hc_26) q_275 q_277 qs_0 q_6 q_278 hd_Big_trim ⟨_, rfl, rfl⟩ (by decide) m_v0 k_v0 ⟨by decide, by decide⟩ rfl rfl (Nat.le_of_ble_eq_true rfl) rfl dX0_setProduct_156 ?_
    exact rx_vret C dX0_setProduct_159 hm
  refine rx_aload_n C 1 dX0_setProduct_19 rfl ?_
  obtain ⟨_, σ_27, hc_28, hm⟩ := rr_bd_some hm
  refine rr_callV (rest := []) (st1 := []) C 0 hll (c_Big_clear l G hG v0 m_v0 k_v0 σ _ hc_28) q_566 q_568 qs_19 q_6 q_569 hd_Big_clear ⟨_, rfl, rfl⟩ (by decide) m_v0 k_v0 ⟨by decide, by decide⟩ rfl rfl (Nat.le_of_ble_eq_true rfl) rfl dX0_setProduct_20 ?_
  exact rx_vret C dX0_setProduct_23 hm
def l_Big_inverseOf_12 (fu : Nat) (v2 : Int64) : Nat → Int64 → Int32 → (Int64 → Option (Int64)) → Option (Int64)
  | 0, _, _, _ => none
  | n + 1, v4, v6, kk =>
    if 30 ≤ v6 then (kk v4) else
    rr_lt ((v4 * ((2 - (v2 * v4)) &&& 1073741823)) &&& 1073741823) fun v4_3 =>
    rr_lt (v6 * 2) fun v6_4 =>
    l_Big_inverseOf_12 fu v2 n v4_3 v6_4 kk
theorem lw_Big_inverseOf_12 {X : rr_X} {G : rr_G} {l : Launch} {fu : Nat} (hG : G.2.2.1.Nodup) (hll : X.2.1 = l) (C : rr_C X G cX0_inverseOf 7 "RootRows$Big" (some .long) 0 0) {r : Int64}  (σ : rr_M) (v2 : Int64) : ∀ (n : Nat) (v4 : Int64) (v6 : Int32) (K : Int64 → Option (Int64)), l_Big_inverseOf_12 fu v2 n v4 v6 K = some r → (∀ (w4 : Int64), K w4 = some r → rr_J X G 7 (rr_E X G σ (some (.long r))) σ 49 [(4, .long w4)] []) → rr_J X G 7 (rr_E X G σ (some (.long r))) σ 12 [(2, .long v2), (4, .long v4), (6, .int v6)] [] := by
  intro n
  induction n with
  | zero =>
    intro v4 v6 K hm
    cases hm
  | succ n ih =>
    intro v4 v6 K hm hk
    unfold l_Big_inverseOf_12 at hm
    refine rx_iload C 2 dX0_inverseOf_12 rfl ?_
    refine rx_bipush (v := 30) C dX0_inverseOf_14 rfl ?_
    refine rx_icmp_ge (tgt := 49) C dX0_inverseOf_16 (by decide) hm (fun h_2 hm => ?_) (fun h_2 hm => ?_)
    · refine rx_lv [1] rfl ?_
      exact hk _ hm
    refine rx_lload C 1 dX0_inverseOf_19 rfl ?_
    refine rx_ldc2 C q_622 dX0_inverseOf_21 ?_
    refine rx_lload_n C 0 dX0_inverseOf_24 rfl ?_
    refine rx_lload C 1 dX0_inverseOf_25 rfl ?_
    refine rx_lmul C dX0_inverseOf_27 ?_
    refine rx_lsub C dX0_inverseOf_28 ?_
    refine rx_ldc2 C q_274 dX0_inverseOf_29 ?_
    refine rx_land C dX0_inverseOf_32 ?_
    refine rx_lmul C dX0_inverseOf_33 ?_
    refine rx_ldc2 C q_274 dX0_inverseOf_34 ?_
    refine rx_land C dX0_inverseOf_37 ?_
    refine rx_nml hm (fun v4_3 ev4_3 hm => ?_)
    refine rx_lstore (lv1 := [(4, .long v4_3), (2, .long v2), (6, .int v6)]) C dX0_inverseOf_38 (by decide) rfl ?_
    refine rx_iload C 2 dX0_inverseOf_40 rfl ?_
    refine rx_iconst (v := 2) C dX0_inverseOf_42 rfl ?_
    refine rx_imul C dX0_inverseOf_43 ?_
    refine rx_nmi hm (fun v6_4 ev6_4 hm => ?_)
    refine rx_istore (lv1 := [(6, .int v6_4), (4, .long v4_3), (2, .long v2)]) C dX0_inverseOf_44 (by decide) rfl ?_
    refine rx_goto (tgt := 12) C dX0_inverseOf_46 (by decide) ?_
    refine rx_lv [2, 1, 0] rfl ?_
    exact ih _ _ _ hm hk
def f_Big_inverseOf (fu : Nat) (v0 : Int64) : Option (Int64) :=
    rr_lt (v0 &&& 1073741823) fun v2_1 =>
    l_Big_inverseOf_12 fu v2_1 fu v2_1 3 (fun v4_5 =>
    some (v4_5))
theorem c_Big_inverseOf (l : Launch) (G : rr_G) (hG : G.2.2.1.Nodup) (fu : Nat) (v0 : Int64) (σ : rr_M) (r : Int64) (hm : f_Big_inverseOf fu v0 = some r) : rr_Met l G yX0_inverseOf cX0_inverseOf 7 (some .long) 0 0 [.long v0] σ σ (some (.long r)) := by
  refine rr_enter (lv0 := [(0, .long v0)]) hp_Big_inverseOf hG (Nat.le_of_ble_eq_true rfl) rfl (fun X hll C => ?_)
  replace C : rr_C X G cX0_inverseOf 7 "RootRows$Big" (some .long) 0 0 := C
  unfold f_Big_inverseOf at hm
  refine rx_lload_n C 0 dX0_inverseOf_0 rfl ?_
  refine rx_ldc2 C q_274 dX0_inverseOf_1 ?_
  refine rx_land C dX0_inverseOf_4 ?_
  refine rx_nml hm (fun v2_1 ev2_1 hm => ?_)
  refine rx_lstore_n (lv1 := [(2, .long v2_1), (0, .long v0)]) C dX0_inverseOf_5 (by decide) rfl ?_
  refine rx_lload_n C 0 dX0_inverseOf_6 rfl ?_
  refine rx_lstore (lv1 := [(4, .long v2_1), (2, .long v2_1), (0, .long v0)]) C dX0_inverseOf_7 (by decide) rfl ?_
  refine rx_iconst (v := 3) C dX0_inverseOf_9 rfl ?_
  refine rx_istore (lv1 := [(6, .int 3), (4, .long v2_1), (2, .long v2_1), (0, .long v0)]) C dX0_inverseOf_10 (by decide) rfl ?_
  refine rx_lv [2, 1, 0] rfl ?_
  refine lw_Big_inverseOf_12 hG hll C σ v2_1 _ _ _ _ hm (fun v4_5 hm => ?_)
  refine rx_lload C 0 dX0_inverseOf_49 rfl ?_
  exact rx_lretR C dX0_inverseOf_51 hm
def l_Big_setQuotient_45 (fu : Nat) (N : Nat → Nat) (v1 : Nat) (v3 : Int32) : Nat → Int32 → rr_M → (rr_M → Option (Unit × rr_M)) → Option (Unit × rr_M)
  | 0, _, _, _ => none
  | n + 1, v4, σ, kk =>
    if v3 ≤ v4 then (kk σ) else
    rr_lt (mg_r σ v1 0) fun p_10 =>
    (if rr_ix v4 (N p_10) then rr_lt (ms_l σ p_10 (rr_n v4) 0) fun σ_11 =>
    rr_lt (v4 + 1) fun v4_12 =>
    l_Big_setQuotient_45 fu N v1 v3 n v4_12 σ_11 kk else none)
theorem lw_Big_setQuotient_45 {X : rr_X} {G : rr_G} {l : Launch} {fu : Nat} (hG : G.2.2.1.Nodup) (hll : X.2.1 = l) (C : rr_C X G cX0_setQuotient 14 "RootRows$Big" none 1 26) {σr : rr_M} (v0 : Nat) (m_v0 : v0 ∈ G.2.2.1) (k_v0 : G.2.2.2.1 v0 = 0) (v1 : Nat) (m_v1 : v1 ∈ G.2.2.1) (k_v1 : G.2.2.2.1 v1 = 0) (v2 : Nat) (m_v2 : v2 ∈ G.2.2.1) (k_v2 : G.2.2.2.1 v2 = 0) (v3 : Int32) : ∀ (n : Nat) (v4 : Int32) (σ : rr_M) (K : rr_M → Option (Unit × rr_M)), l_Big_setQuotient_45 fu G.2.2.2.2 v1 v3 n v4 σ K = some ((), σr) → (∀ (σ1 : rr_M), K σ1 = some ((), σr) → rr_J X G 14 (rr_E X G σr none) σ1 65 [(0, .ref v0), (1, .ref v1), (2, .ref v2), (3, .int v3)] []) → rr_J X G 14 (rr_E X G σr none) σ 45 [(0, .ref v0), (1, .ref v1), (2, .ref v2), (3, .int v3), (4, .int v4)] [] := by
  intro n
  induction n with
  | zero =>
    intro v4 σ K hm
    cases hm
  | succ n ih =>
    intro v4 σ K hm hk
    unfold l_Big_setQuotient_45 at hm
    refine rx_iload C 4 dX0_setQuotient_45 rfl ?_
    refine rx_iload_n C 3 dX0_setQuotient_47 rfl ?_
    refine rx_icmp_ge (tgt := 65) C dX0_setQuotient_48 (by decide) hm (fun h_9 hm => ?_) (fun h_9 hm => ?_)
    · refine rx_lv [0, 1, 2, 3] rfl ?_
      exact hk _ hm
    refine rx_aload_n C 1 dX0_setQuotient_51 rfl ?_
    refine gf_158 C m_v1 k_v1 dX0_setQuotient_52 hm (fun p_10 m_p_10 k_p_10 hm => ?_)
    refine rx_iload C 4 dX0_setQuotient_55 rfl ?_
    refine rx_lconst (v := 0) C dX0_setQuotient_57 rfl ?_
    refine rx_last C m_p_10 k_p_10 dX0_setQuotient_58 hm (fun σ_11 hm => ?_)
    refine rx_iinc (d := 1) (lv1 := fun v => [(4, .int v), (0, .ref v0), (1, .ref v1), (2, .ref v2), (3, .int v3)]) C 4 dX0_setQuotient_59 hm rfl rfl (by decide) (fun _ => rfl) (fun v4_12 hm => ?_)
    refine rx_goto (tgt := 45) C dX0_setQuotient_62 (by decide) ?_
    refine rx_lv [1, 2, 3, 4, 0] rfl ?_
    exact ih _ _ _ hm hk
def l_Big_setQuotient_116 (fu : Nat) (N : Nat → Nat) (v1 : Nat) (v2 : Nat) (v3 : Int32) (v6 : Int32) (v7 : Int64) : Nat → Int64 → Int32 → rr_M → (rr_M → Option (Unit × rr_M)) → Option (Unit × rr_M)
  | 0, _, _, _, _ => none
  | n + 1, v9, v11, σ, kk =>
    if v3 ≤ (v6 + v11) then (kk σ) else
    rr_lt (mg_r σ v1 0) fun p_23 =>
    (if rr_ix (v6 + v11) (N p_23) then
    rr_lt ((mg_l σ p_23 (rr_n (v6 + v11))) + v9) fun v12_24 =>
    rr_jn (fun (v12_25 : Int64) =>
    rr_lt (mg_r σ v1 0) fun p_26 =>
    (if rr_ix (v6 + v11) (N p_26) then rr_lt (ms_l σ p_26 (rr_n (v6 + v11)) (v12_25 &&& 1073741823)) fun σ_27 =>
    rr_lt (v12_25 >>> ((30 : Int32).toInt64 &&& 63)) fun v9_28 =>
    rr_lt (v11 + 1) fun v11_29 =>
    l_Big_setQuotient_116 fu N v1 v2 v3 v6 v7 n v9_28 v11_29 σ_27 kk else none)) fun j164 =>
    if (mg_i σ v2 1) ≤ v11 then (j164 v12_24) else
    rr_lt (mg_r σ v2 0) fun p_31 =>
    (if rr_ix v11 (N p_31) then
    rr_lt (v12_24 - (v7 * (mg_l σ p_31 (rr_n v11)))) fun v12_32 =>
    j164 v12_32 else none) else none)
theorem lw_Big_setQuotient_116 {X : rr_X} {G : rr_G} {l : Launch} {fu : Nat} (hG : G.2.2.1.Nodup) (hll : X.2.1 = l) (C : rr_C X G cX0_setQuotient 14 "RootRows$Big" none 1 26) {σr : rr_M} (v0 : Nat) (m_v0 : v0 ∈ G.2.2.1) (k_v0 : G.2.2.2.1 v0 = 0) (v1 : Nat) (m_v1 : v1 ∈ G.2.2.1) (k_v1 : G.2.2.2.1 v1 = 0) (v2 : Nat) (m_v2 : v2 ∈ G.2.2.1) (k_v2 : G.2.2.2.1 v2 = 0) (v3 : Int32) (v4 : Int64) (v6 : Int32) (v7 : Int64) : ∀ (n : Nat) (v9 : Int64) (v11 : Int32) (σ : rr_M) (K : rr_M → Option (Unit × rr_M)), l_Big_setQuotient_116 fu G.2.2.2.2 v1 v2 v3 v6 v7 n v9 v11 σ K = some ((), σr) → (∀ (σ1 : rr_M), K σ1 = some ((), σr) → rr_J X G 14 (rr_E X G σr none) σ1 193 [(0, .ref v0), (1, .ref v1), (2, .ref v2), (3, .int v3), (4, .long v4), (6, .int v6)] []) → rr_J X G 14 (rr_E X G σr none) σ 116 [(0, .ref v0), (1, .ref v1), (2, .ref v2), (3, .int v3), (4, .long v4), (6, .int v6), (7, .long v7), (9, .long v9), (11, .int v11)] [] := by
  intro n
  induction n with
  | zero =>
    intro v9 v11 σ K hm
    cases hm
  | succ n ih =>
    intro v9 v11 σ K hm hk
    unfold l_Big_setQuotient_116 at hm
    refine rx_iload C 5 dX0_setQuotient_116 rfl ?_
    refine rx_iload C 8 dX0_setQuotient_118 rfl ?_
    refine rx_iadd C dX0_setQuotient_120 ?_
    refine rx_iload_n C 3 dX0_setQuotient_121 rfl ?_
    refine rx_icmp_ge (tgt := 193) C dX0_setQuotient_122 (by decide) hm (fun h_22 hm => ?_) (fun h_22 hm => ?_)
    · refine rx_lv [0, 1, 2, 3, 4, 5] rfl ?_
      exact hk _ hm
    refine rx_aload_n C 1 dX0_setQuotient_125 rfl ?_
    refine gf_158 C m_v1 k_v1 dX0_setQuotient_126 hm (fun p_23 m_p_23 k_p_23 hm => ?_)
    refine rx_iload C 5 dX0_setQuotient_129 rfl ?_
    refine rx_iload C 8 dX0_setQuotient_131 rfl ?_
    refine rx_iadd C dX0_setQuotient_133 ?_
    refine rx_lald C m_p_23 k_p_23 dX0_setQuotient_134 hm (fun hm => ?_)
    refine rx_lload C 7 dX0_setQuotient_135 rfl ?_
    refine rx_ladd C dX0_setQuotient_137 ?_
    refine rx_nml hm (fun v12_24 ev12_24 hm => ?_)
    refine rx_lstore (lv1 := [(12, .long v12_24), (0, .ref v0), (1, .ref v1), (2, .ref v2), (3, .int v3), (4, .long v4), (6, .int v6), (7, .long v7), (9, .long v9), (11, .int v11)]) C dX0_setQuotient_138 (by decide) rfl ?_
    refine rx_iload C 9 dX0_setQuotient_140 rfl ?_
    refine rx_aload_n C 3 dX0_setQuotient_142 rfl ?_
    refine gf_159 C m_v2 k_v2 dX0_setQuotient_143 ?_
    refine rr_jn1 hm (fun j164 ej164 hm => ?_)
    have hj164 : ∀ (v12_25 : Int64), j164 v12_25 = some ((), σr) → rr_J X G 14 (rr_E X G σr none) σ 164 [(0, .ref v0), (1, .ref v1), (2, .ref v2), (3, .int v3), (4, .long v4), (6, .int v6), (7, .long v7), (9, .long v9), (11, .int v11), (12, .long v12_25)] [] := by
      intro v12_25 hm
      replace hm := ej164 _ hm
      refine rx_aload_n C 1 dX0_setQuotient_164 rfl ?_
      refine gf_158 C m_v1 k_v1 dX0_setQuotient_165 hm (fun p_26 m_p_26 k_p_26 hm => ?_)
      refine rx_iload C 5 dX0_setQuotient_168 rfl ?_
      refine rx_iload C 8 dX0_setQuotient_170 rfl ?_
      refine rx_iadd C dX0_setQuotient_172 ?_
      refine rx_lload C 9 dX0_setQuotient_173 rfl ?_
      refine rx_ldc2 C q_274 dX0_setQuotient_175 ?_
      refine rx_land C dX0_setQuotient_178 ?_
      refine rx_last C m_p_26 k_p_26 dX0_setQuotient_179 hm (fun σ_27 hm => ?_)
      refine rx_lload C 9 dX0_setQuotient_180 rfl ?_
      refine rx_bipush (v := 30) C dX0_setQuotient_182 rfl ?_
      refine rx_lshr C dX0_setQuotient_184 ?_
      refine rx_nml hm (fun v9_28 ev9_28 hm => ?_)
      refine rx_lstore (lv1 := [(9, .long v9_28), (0, .ref v0), (1, .ref v1), (2, .ref v2), (3, .int v3), (4, .long v4), (6, .int v6), (7, .long v7), (11, .int v11), (12, .long v12_25)]) C dX0_setQuotient_185 (by decide) rfl ?_
      refine rx_iinc (d := 1) (lv1 := fun v => [(11, .int v), (9, .long v9_28), (0, .ref v0), (1, .ref v1), (2, .ref v2), (3, .int v3), (4, .long v4), (6, .int v6), (7, .long v7), (12, .long v12_25)]) C 8 dX0_setQuotient_187 hm rfl rfl (by decide) (fun _ => rfl) (fun v11_29 hm => ?_)
      refine rx_goto (tgt := 116) C dX0_setQuotient_190 (by decide) ?_
      refine rx_lv [2, 3, 4, 5, 6, 7, 8, 1, 0] rfl ?_
      exact ih _ _ _ _ hm hk
    refine rx_icmp_ge (tgt := 164) C dX0_setQuotient_146 (by decide) hm (fun h_30 hm => ?_) (fun h_30 hm => ?_)
    · refine rx_lv [1, 2, 3, 4, 5, 6, 7, 8, 9, 0] rfl ?_
      exact hj164 _ hm
    refine rx_lload C 0 dX0_setQuotient_149 rfl ?_
    refine rx_lload C 7 dX0_setQuotient_151 rfl ?_
    refine rx_aload_n C 3 dX0_setQuotient_153 rfl ?_
    refine gf_158 C m_v2 k_v2 dX0_setQuotient_154 hm (fun p_31 m_p_31 k_p_31 hm => ?_)
    refine rx_iload C 9 dX0_setQuotient_157 rfl ?_
    refine rx_lald C m_p_31 k_p_31 dX0_setQuotient_159 hm (fun hm => ?_)
    refine rx_lmul C dX0_setQuotient_160 ?_
    refine rx_lsub C dX0_setQuotient_161 ?_
    refine rx_nml hm (fun v12_32 ev12_32 hm => ?_)
    refine rx_lstore (lv1 := [(12, .long v12_32), (0, .ref v0), (1, .ref v1), (2, .ref v2), (3, .int v3), (4, .long v4), (6, .int v6), (7, .long v7), (9, .long v9), (11, .int v11)]) C dX0_setQuotient_162 (by decide) rfl ?_
    refine rx_lv [1, 2, 3, 4, 5, 6, 7, 8, 9, 0] rfl ?_
    exact hj164 _ hm
def l_Big_setQuotient_79 (fu : Nat) (N : Nat → Nat) (v0 : Nat) (v1 : Nat) (v2 : Nat) (v3 : Int32) (v4 : Int64) : Nat → Int32 → rr_M → (rr_M → Option (Unit × rr_M)) → Option (Unit × rr_M)
  | 0, _, _, _ => none
  | n + 1, v6, σ, kk =>
    if v3 ≤ v6 then (kk σ) else
    rr_lt (mg_r σ v1 0) fun p_18 =>
    (if rr_ix v6 (N p_18) then
    rr_lt (((mg_l σ p_18 (rr_n v6)) * v4) &&& 1073741823) fun v7_19 =>
    rr_lt (mg_r σ v0 0) fun p_20 =>
    (if rr_ix v6 (N p_20) then rr_lt (ms_l σ p_20 (rr_n v6) v7_19) fun σ_21 =>
    l_Big_setQuotient_116 fu N v1 v2 v3 v6 v7_19 fu 0 0 σ_21 (fun σ_33 =>
    rr_lt (v6 + 1) fun v6_34 =>
    l_Big_setQuotient_79 fu N v0 v1 v2 v3 v4 n v6_34 σ_33 kk) else none) else none)
theorem lw_Big_setQuotient_79 {X : rr_X} {G : rr_G} {l : Launch} {fu : Nat} (hG : G.2.2.1.Nodup) (hll : X.2.1 = l) (C : rr_C X G cX0_setQuotient 14 "RootRows$Big" none 1 26) {σr : rr_M} (v0 : Nat) (m_v0 : v0 ∈ G.2.2.1) (k_v0 : G.2.2.2.1 v0 = 0) (v1 : Nat) (m_v1 : v1 ∈ G.2.2.1) (k_v1 : G.2.2.2.1 v1 = 0) (v2 : Nat) (m_v2 : v2 ∈ G.2.2.1) (k_v2 : G.2.2.2.1 v2 = 0) (v3 : Int32) (v4 : Int64) : ∀ (n : Nat) (v6 : Int32) (σ : rr_M) (K : rr_M → Option (Unit × rr_M)), l_Big_setQuotient_79 fu G.2.2.2.2 v0 v1 v2 v3 v4 n v6 σ K = some ((), σr) → (∀ (σ1 : rr_M), K σ1 = some ((), σr) → rr_J X G 14 (rr_E X G σr none) σ1 199 [(0, .ref v0), (3, .int v3)] []) → rr_J X G 14 (rr_E X G σr none) σ 79 [(0, .ref v0), (1, .ref v1), (2, .ref v2), (3, .int v3), (4, .long v4), (6, .int v6)] [] := by
  intro n
  induction n with
  | zero =>
    intro v6 σ K hm
    cases hm
  | succ n ih =>
    intro v6 σ K hm hk
    unfold l_Big_setQuotient_79 at hm
    refine rx_iload C 5 dX0_setQuotient_79 rfl ?_
    refine rx_iload_n C 3 dX0_setQuotient_81 rfl ?_
    refine rx_icmp_ge (tgt := 199) C dX0_setQuotient_82 (by decide) hm (fun h_17 hm => ?_) (fun h_17 hm => ?_)
    · refine rx_lv [0, 3] rfl ?_
      exact hk _ hm
    refine rx_aload_n C 1 dX0_setQuotient_85 rfl ?_
    refine gf_158 C m_v1 k_v1 dX0_setQuotient_86 hm (fun p_18 m_p_18 k_p_18 hm => ?_)
    refine rx_iload C 5 dX0_setQuotient_89 rfl ?_
    refine rx_lald C m_p_18 k_p_18 dX0_setQuotient_91 hm (fun hm => ?_)
    refine rx_lload C 4 dX0_setQuotient_92 rfl ?_
    refine rx_lmul C dX0_setQuotient_94 ?_
    refine rx_ldc2 C q_274 dX0_setQuotient_95 ?_
    refine rx_land C dX0_setQuotient_98 ?_
    refine rx_nml hm (fun v7_19 ev7_19 hm => ?_)
    refine rx_lstore (lv1 := [(7, .long v7_19), (0, .ref v0), (1, .ref v1), (2, .ref v2), (3, .int v3), (4, .long v4), (6, .int v6)]) C dX0_setQuotient_99 (by decide) rfl ?_
    refine rx_aload_n C 1 dX0_setQuotient_101 rfl ?_
    refine gf_158 C m_v0 k_v0 dX0_setQuotient_102 hm (fun p_20 m_p_20 k_p_20 hm => ?_)
    refine rx_iload C 6 dX0_setQuotient_105 rfl ?_
    refine rx_lload C 0 dX0_setQuotient_107 rfl ?_
    refine rx_last C m_p_20 k_p_20 dX0_setQuotient_109 hm (fun σ_21 hm => ?_)
    refine rx_lconst (v := 0) C dX0_setQuotient_110 rfl ?_
    refine rx_lstore (lv1 := [(9, .long 0), (7, .long v7_19), (0, .ref v0), (1, .ref v1), (2, .ref v2), (3, .int v3), (4, .long v4), (6, .int v6)]) C dX0_setQuotient_111 (by decide) rfl ?_
    refine rx_iconst (v := 0) C dX0_setQuotient_113 rfl ?_
    refine rx_istore (lv1 := [(11, .int 0), (9, .long 0), (7, .long v7_19), (0, .ref v0), (1, .ref v1), (2, .ref v2), (3, .int v3), (4, .long v4), (6, .int v6)]) C dX0_setQuotient_114 (by decide) rfl ?_
    refine rx_lv [3, 4, 5, 6, 7, 8, 2, 1, 0] rfl ?_
    refine lw_Big_setQuotient_116 hG hll C v0 m_v0 k_v0 v1 m_v1 k_v1 v2 m_v2 k_v2 v3 v4 v6 v7_19 _ _ _ _ _ hm (fun σ_33 hm => ?_)
    refine rx_iinc (d := 1) (lv1 := fun v => [(6, .int v), (0, .ref v0), (1, .ref v1), (2, .ref v2), (3, .int v3), (4, .long v4)]) C 5 dX0_setQuotient_193 hm rfl rfl (by decide) (fun _ => rfl) (fun v6_34 hm => ?_)
    refine rx_goto (tgt := 79) C dX0_setQuotient_196 (by decide) ?_
    refine rx_lv [1, 2, 3, 4, 5, 0] rfl ?_
    exact ih _ _ _ hm hk
def f_Big_setQuotient (fu : Nat) (N : Nat → Nat) (v0 : Nat) (v1 : Nat) (v2 : Nat) (σ : rr_M) : Option (Unit × rr_M) :=
    rr_lt (rr_mx (((mg_i σ v1 1) - (mg_i σ v2 1)) + 2) 1) fun v3_1 =>
    rr_lt (mg_r σ v0 0) fun p_2 =>
    rr_jn (fun (_ : Unit) =>
    rr_bd (f_Big_clear N v0 σ) fun _ σ_3 =>
    some ((), σ_3)) fun j34 =>
    if (nI (N p_2)) < v3_1 then (j34 ()) else
    rr_lt (mg_r σ v1 0) fun p_6 =>
    if v3_1 ≤ (nI (N p_6)) then (rr_lt (mg_i σ v1 1) fun v4_8 =>
    l_Big_setQuotient_45 fu N v1 v3_1 fu v4_8 σ (fun σ_13 =>
    rr_lt (mg_r σ_13 v2 0) fun p_14 =>
    (if rr_ix 0 (N p_14) then
    Option.bind (f_Big_inverseOf fu (mg_l σ_13 p_14 (rr_n 0))) fun r_15 =>
    l_Big_setQuotient_79 fu N v0 v1 v2 v3_1 r_15 fu 0 σ_13 (fun σ_35 =>
    rr_lt (mg_r σ_35 v0 0) fun p_36 =>
    (if rr_ix (v3_1 - 1) (N p_36) then
    rr_jn (fun (σ_37 : rr_M) =>
    rr_bd (f_Big_trim fu N v0 v3_1 σ_37) fun _ σ_38 =>
    some ((), σ_38)) fun j228 =>
    if (mg_l σ_35 p_36 (rr_n (v3_1 - 1))) < 536870912 then (j228 σ_35) else
    rr_lt (mg_r σ_35 v0 0) fun p_41 =>
    (if rr_ix (v3_1 - 1) (N p_41) then
    (if rr_ix (v3_1 - 1) (N p_41) then rr_lt (ms_l σ_35 p_41 (rr_n (v3_1 - 1)) ((mg_l σ_35 p_41 (rr_n (v3_1 - 1))) - 1073741824)) fun σ_42 =>
    j228 σ_42 else none) else none) else none)) else none))) else
    j34 ()
theorem c_Big_setQuotient (l : Launch) (G : rr_G) (hG : G.2.2.1.Nodup) (fu : Nat) (v0 : Nat) (m_v0 : v0 ∈ G.2.2.1) (k_v0 : G.2.2.2.1 v0 = 0) (v1 : Nat) (m_v1 : v1 ∈ G.2.2.1) (k_v1 : G.2.2.2.1 v1 = 0) (v2 : Nat) (m_v2 : v2 ∈ G.2.2.1) (k_v2 : G.2.2.2.1 v2 = 0) (σ : rr_M) (σr : rr_M) (hm : f_Big_setQuotient fu G.2.2.2.2 v0 v1 v2 σ = some ((), σr)) : rr_Met l G yX0_setQuotient cX0_setQuotient 14 none 1 26 [.ref v0, .ref v1, .ref v2] σ σr none := by
  refine rr_enter (lv0 := [(0, .ref v0), (1, .ref v1), (2, .ref v2)]) hp_Big_setQuotient hG (Nat.le_of_ble_eq_true rfl) rfl (fun X hll C => ?_)
  replace C : rr_C X G cX0_setQuotient 14 "RootRows$Big" none 1 26 := C
  unfold f_Big_setQuotient at hm
  refine rx_aload_n C 1 dX0_setQuotient_0 rfl ?_
  refine gf_159 C m_v1 k_v1 dX0_setQuotient_1 ?_
  refine rx_aload_n C 2 dX0_setQuotient_4 rfl ?_
  refine gf_159 C m_v2 k_v2 dX0_setQuotient_5 ?_
  refine rx_isub C dX0_setQuotient_8 ?_
  refine rx_iconst (v := 2) C dX0_setQuotient_9 rfl ?_
  refine rx_iadd C dX0_setQuotient_10 ?_
  refine rx_iconst (v := 1) C dX0_setQuotient_11 rfl ?_
  refine rx_mmax (rest := []) C q_155 (by decide) (by decide) (Nat.le_of_ble_eq_true rfl) dX0_setQuotient_12 ?_
  refine rx_nmi hm (fun v3_1 ev3_1 hm => ?_)
  refine rx_istore_n (lv1 := [(3, .int v3_1), (0, .ref v0), (1, .ref v1), (2, .ref v2)]) C dX0_setQuotient_15 (by decide) rfl ?_
  refine rx_iload_n C 0 dX0_setQuotient_16 rfl ?_
  refine rx_aload_n C 1 dX0_setQuotient_17 rfl ?_
  refine gf_158 C m_v0 k_v0 dX0_setQuotient_18 hm (fun p_2 m_p_2 k_p_2 hm => ?_)
  refine rx_alen C m_p_2 k_p_2 (by decide) dX0_setQuotient_21 ?_
  refine rr_jn1 hm (fun j34 ej34 hm => ?_)
  have hj34 : ∀ (uu : Unit), j34 uu = some ((), σr) → rr_J X G 14 (rr_E X G σr none) σ 34 [(0, .ref v0)] [] := by
    intro uu hm
    replace hm := ej34 _ hm
    refine rx_aload_n C 0 dX0_setQuotient_34 rfl ?_
    obtain ⟨_, σ_3, hc_4, hm⟩ := rr_bd_some hm
    refine rr_callV (rest := []) (st1 := []) C 0 hll (c_Big_clear l G hG v0 m_v0 k_v0 σ _ hc_4) q_566 q_568 qs_19 q_6 q_569 hd_Big_clear ⟨_, rfl, rfl⟩ (by decide) m_v0 k_v0 ⟨by decide, by decide⟩ rfl rfl (Nat.le_of_ble_eq_true rfl) rfl dX0_setQuotient_35 ?_
    exact rx_vret C dX0_setQuotient_38 hm
  refine rx_icmp_gt (tgt := 34) C dX0_setQuotient_22 (by decide) hm (fun h_5 hm => ?_) (fun h_5 hm => ?_)
  · refine rx_lv [1] rfl ?_
    exact hj34 () hm
  refine rx_iload_n C 0 dX0_setQuotient_25 rfl ?_
  refine rx_aload_n C 2 dX0_setQuotient_26 rfl ?_
  refine gf_158 C m_v1 k_v1 dX0_setQuotient_27 hm (fun p_6 m_p_6 k_p_6 hm => ?_)
  refine rx_alen C m_p_6 k_p_6 (by decide) dX0_setQuotient_30 ?_
  refine rx_icmp_le (tgt := 39) C dX0_setQuotient_31 (by decide) hm (fun h_7 hm => ?_) (fun h_7 hm => ?_)
  · refine rx_aload_n C 2 dX0_setQuotient_39 rfl ?_
    refine gf_159 C m_v1 k_v1 dX0_setQuotient_40 ?_
    refine rx_nmi hm (fun v4_8 ev4_8 hm => ?_)
    refine rx_istore (lv1 := [(4, .int v4_8), (3, .int v3_1), (0, .ref v0), (1, .ref v1), (2, .ref v2)]) C dX0_setQuotient_43 (by decide) rfl ?_
    refine rx_lv [2, 3, 4, 1, 0] rfl ?_
    refine lw_Big_setQuotient_45 hG hll C v0 m_v0 k_v0 v1 m_v1 k_v1 v2 m_v2 k_v2 v3_1 _ _ _ _ hm (fun σ_13 hm => ?_)
    refine rx_aload_n C 2 dX0_setQuotient_65 rfl ?_
    refine gf_158 C m_v2 k_v2 dX0_setQuotient_66 hm (fun p_14 m_p_14 k_p_14 hm => ?_)
    refine rx_iconst (v := 0) C dX0_setQuotient_69 rfl ?_
    refine rx_lald C m_p_14 k_p_14 dX0_setQuotient_70 hm (fun hm => ?_)
    obtain ⟨r_15, hc_16, hm⟩ := rr_b0_some hm
    refine rr_callS (rest := []) (st1 := [.long r_15]) C hll (c_Big_inverseOf l G hG fu (mg_l σ_13 p_14 (rr_n 0)) σ_13 _ hc_16) q_619 q_620 q_6 q_621 hd_Big_inverseOf ⟨by decide, by decide⟩ rfl rfl (Nat.le_of_ble_eq_true rfl) rfl dX0_setQuotient_71 ?_
    refine rx_lstore (lv1 := [(4, .long r_15), (0, .ref v0), (1, .ref v1), (2, .ref v2), (3, .int v3_1)]) C dX0_setQuotient_74 (by decide) rfl ?_
    refine rx_iconst (v := 0) C dX0_setQuotient_76 rfl ?_
    refine rx_istore (lv1 := [(6, .int 0), (4, .long r_15), (0, .ref v0), (1, .ref v1), (2, .ref v2), (3, .int v3_1)]) C dX0_setQuotient_77 (by decide) rfl ?_
    refine rx_lv [2, 3, 4, 5, 1, 0] rfl ?_
    refine lw_Big_setQuotient_79 hG hll C v0 m_v0 k_v0 v1 m_v1 k_v1 v2 m_v2 k_v2 v3_1 r_15 _ _ _ _ hm (fun σ_35 hm => ?_)
    refine rx_aload_n C 0 dX0_setQuotient_199 rfl ?_
    refine gf_158 C m_v0 k_v0 dX0_setQuotient_200 hm (fun p_36 m_p_36 k_p_36 hm => ?_)
    refine rx_iload_n C 1 dX0_setQuotient_203 rfl ?_
    refine rx_iconst (v := 1) C dX0_setQuotient_204 rfl ?_
    refine rx_isub C dX0_setQuotient_205 ?_
    refine rx_lald C m_p_36 k_p_36 dX0_setQuotient_206 hm (fun hm => ?_)
    refine rx_ldc2 C q_623 dX0_setQuotient_207 ?_
    refine rr_jn1 hm (fun j228 ej228 hm => ?_)
    have hj228 : ∀ (σ_37 : rr_M), j228 σ_37 = some ((), σr) → rr_J X G 14 (rr_E X G σr none) σ_37 228 [(0, .ref v0), (3, .int v3_1)] [] := by
      intro σ_37 hm
      replace hm := ej228 _ hm
      refine rx_aload_n C 0 dX0_setQuotient_228 rfl ?_
      refine rx_iload_n C 1 dX0_setQuotient_229 rfl ?_
      obtain ⟨_, σ_38, hc_39, hm⟩ := rr_bd_some hm
      refine rr_callV (rest := []) (st1 := []) C 0 hll (c_Big_trim l G hG fu v0 m_v0 k_v0 v3_1 σ_37 _ hc_39) q_275 q_277 qs_0 q_6 q_278 hd_Big_trim ⟨_, rfl, rfl⟩ (by decide) m_v0 k_v0 ⟨by decide, by decide⟩ rfl rfl (Nat.le_of_ble_eq_true rfl) rfl dX0_setQuotient_230 ?_
      exact rx_vret C dX0_setQuotient_233 hm
    refine rx_lcmp_lt (tgt := 228) C dX0_setQuotient_210 dX0_setQuotient_211 (by decide) hm (fun h_40 hm => ?_) (fun h_40 hm => ?_)
    · refine rx_lv [0, 1] rfl ?_
      exact hj228 _ hm
    refine rx_aload_n C 0 dX0_setQuotient_214 rfl ?_
    refine gf_158 C m_v0 k_v0 dX0_setQuotient_215 hm (fun p_41 m_p_41 k_p_41 hm => ?_)
    refine rx_iload_n C 1 dX0_setQuotient_218 rfl ?_
    refine rx_iconst (v := 1) C dX0_setQuotient_219 rfl ?_
    refine rx_isub C dX0_setQuotient_220 ?_
    refine rx_dup2_11 C dX0_setQuotient_221 rfl rfl ?_
    refine rx_lald C m_p_41 k_p_41 dX0_setQuotient_222 hm (fun hm => ?_)
    refine rx_ldc2 C q_280 dX0_setQuotient_223 ?_
    refine rx_lsub C dX0_setQuotient_226 ?_
    refine rx_last C m_p_41 k_p_41 dX0_setQuotient_227 hm (fun σ_42 hm => ?_)
    refine rx_lv [0, 1] rfl ?_
    exact hj228 _ hm
  refine rx_lv [1] rfl ?_
  exact hj34 () hm
def f_Big_digitAt (N : Nat → Nat) (v0 : Nat) (v1 : Int32) (σ : rr_M) : Option (Int64) :=
    if (mg_i σ v0 1) ≤ v1 then (rr_lt (mg_r σ v0 0) fun p_2 =>
    (if rr_ix ((mg_i σ v0 1) - 1) (N p_2) then
    some ((mg_l σ p_2 (rr_n ((mg_i σ v0 1) - 1))) >>> ((30 : Int32).toInt64 &&& 63)) else none)) else
    rr_lt (mg_r σ v0 0) fun p_3 =>
    (if rr_ix v1 (N p_3) then
    some (mg_l σ p_3 (rr_n v1)) else none)
theorem c_Big_digitAt (l : Launch) (G : rr_G) (hG : G.2.2.1.Nodup) (v0 : Nat) (m_v0 : v0 ∈ G.2.2.1) (k_v0 : G.2.2.2.1 v0 = 0) (v1 : Int32) (σ : rr_M) (r : Int64) (hm : f_Big_digitAt G.2.2.2.2 v0 v1 σ = some r) : rr_Met l G yX0_digitAt cX0_digitAt 2 (some .long) 0 0 [.ref v0, .int v1] σ σ (some (.long r)) := by
  refine rr_enter (lv0 := [(0, .ref v0), (1, .int v1)]) hp_Big_digitAt hG (Nat.le_of_ble_eq_true rfl) rfl (fun X hll C => ?_)
  replace C : rr_C X G cX0_digitAt 2 "RootRows$Big" (some .long) 0 0 := C
  unfold f_Big_digitAt at hm
  refine rx_iload_n C 1 dX0_digitAt_0 rfl ?_
  refine rx_aload_n C 0 dX0_digitAt_1 rfl ?_
  refine gf_159 C m_v0 k_v0 dX0_digitAt_2 ?_
  refine rx_icmp_ge (tgt := 17) C dX0_digitAt_5 (by decide) hm (fun h_1 hm => ?_) (fun h_1 hm => ?_)
  · refine rx_aload_n C 0 dX0_digitAt_17 rfl ?_
    refine gf_158 C m_v0 k_v0 dX0_digitAt_18 hm (fun p_2 m_p_2 k_p_2 hm => ?_)
    refine rx_aload_n C 0 dX0_digitAt_21 rfl ?_
    refine gf_159 C m_v0 k_v0 dX0_digitAt_22 ?_
    refine rx_iconst (v := 1) C dX0_digitAt_25 rfl ?_
    refine rx_isub C dX0_digitAt_26 ?_
    refine rx_lald C m_p_2 k_p_2 dX0_digitAt_27 hm (fun hm => ?_)
    refine rx_bipush (v := 30) C dX0_digitAt_28 rfl ?_
    refine rx_lshr C dX0_digitAt_30 ?_
    exact rx_lretR C dX0_digitAt_31 hm
  refine rx_aload_n C 0 dX0_digitAt_8 rfl ?_
  refine gf_158 C m_v0 k_v0 dX0_digitAt_9 hm (fun p_3 m_p_3 k_p_3 hm => ?_)
  refine rx_iload_n C 1 dX0_digitAt_12 rfl ?_
  refine rx_lald C m_p_3 k_p_3 dX0_digitAt_13 hm (fun hm => ?_)
  refine rx_goto (tgt := 31) C dX0_digitAt_14 (by decide) ?_
  exact rx_lretR C dX0_digitAt_31 hm
def l_Big_shiftDown_30 (fu : Nat) (N : Nat → Nat) (v0 : Nat) (v2 : Int32) (v3 : Int32) (v4 : Int32) : Nat → Int32 → rr_M → (rr_M → Option (Unit × rr_M)) → Option (Unit × rr_M)
  | 0, _, _, _ => none
  | n + 1, v5, σ, kk =>
    if (v4 - 1) ≤ v5 then (kk σ) else
    Option.bind (f_Big_digitAt N v0 (v5 + v2) σ) fun r_6 =>
    Option.bind (f_Big_digitAt N v0 ((v5 + v2) + 1) σ) fun r_8 =>
    rr_lt ((r_6 >>> (v3.toInt64 &&& 63)) ||| (r_8 <<< ((30 - v3).toInt64 &&& 63))) fun v6_10 =>
    rr_lt (mg_r σ v0 0) fun p_11 =>
    (if rr_ix v5 (N p_11) then rr_lt (ms_l σ p_11 (rr_n v5) (v6_10 &&& 1073741823)) fun σ_12 =>
    rr_lt (v5 + 1) fun v5_13 =>
    l_Big_shiftDown_30 fu N v0 v2 v3 v4 n v5_13 σ_12 kk else none)
theorem lw_Big_shiftDown_30 {X : rr_X} {G : rr_G} {l : Launch} {fu : Nat} (hG : G.2.2.1.Nodup) (hll : X.2.1 = l) (C : rr_C X G cX0_shiftDown 8 "RootRows$Big" none 1 23) {σr : rr_M} (v0 : Nat) (m_v0 : v0 ∈ G.2.2.1) (k_v0 : G.2.2.2.1 v0 = 0) (v2 : Int32) (v3 : Int32) (v4 : Int32) : ∀ (n : Nat) (v5 : Int32) (σ : rr_M) (K : rr_M → Option (Unit × rr_M)), l_Big_shiftDown_30 fu G.2.2.2.2 v0 v2 v3 v4 n v5 σ K = some ((), σr) → (∀ (σ1 : rr_M), K σ1 = some ((), σr) → rr_J X G 8 (rr_E X G σr none) σ1 86 [(0, .ref v0), (2, .int v2), (3, .int v3), (4, .int v4)] []) → rr_J X G 8 (rr_E X G σr none) σ 30 [(0, .ref v0), (2, .int v2), (3, .int v3), (4, .int v4), (5, .int v5)] [] := by
  intro n
  induction n with
  | zero =>
    intro v5 σ K hm
    cases hm
  | succ n ih =>
    intro v5 σ K hm hk
    unfold l_Big_shiftDown_30 at hm
    refine rx_iload C 4 dX0_shiftDown_30 rfl ?_
    refine rx_iload C 3 dX0_shiftDown_32 rfl ?_
    refine rx_iconst (v := 1) C dX0_shiftDown_34 rfl ?_
    refine rx_isub C dX0_shiftDown_35 ?_
    refine rx_icmp_ge (tgt := 86) C dX0_shiftDown_36 (by decide) hm (fun h_5 hm => ?_) (fun h_5 hm => ?_)
    · refine rx_lv [0, 1, 2, 3] rfl ?_
      exact hk _ hm
    refine rx_aload_n C 0 dX0_shiftDown_39 rfl ?_
    refine rx_iload C 4 dX0_shiftDown_40 rfl ?_
    refine rx_iload_n C 1 dX0_shiftDown_42 rfl ?_
    refine rx_iadd C dX0_shiftDown_43 ?_
    obtain ⟨r_6, hc_7, hm⟩ := rr_b0_some hm
    refine rr_callV (rest := []) (st1 := [.long r_6]) C 0 hll (c_Big_digitAt l G hG v0 m_v0 k_v0 (v5 + v2) σ _ hc_7) q_611 q_613 qs_22 q_6 q_614 hd_Big_digitAt ⟨_, rfl, rfl⟩ (by decide) m_v0 k_v0 ⟨by decide, by decide⟩ rfl rfl (Nat.le_of_ble_eq_true rfl) rfl dX0_shiftDown_44 ?_
    refine rx_iload_n C 2 dX0_shiftDown_47 rfl ?_
    refine rx_lshr C dX0_shiftDown_48 ?_
    refine rx_aload_n C 0 dX0_shiftDown_49 rfl ?_
    refine rx_iload C 4 dX0_shiftDown_50 rfl ?_
    refine rx_iload_n C 1 dX0_shiftDown_52 rfl ?_
    refine rx_iadd C dX0_shiftDown_53 ?_
    refine rx_iconst (v := 1) C dX0_shiftDown_54 rfl ?_
    refine rx_iadd C dX0_shiftDown_55 ?_
    obtain ⟨r_8, hc_9, hm⟩ := rr_b0_some hm
    refine rr_callV (rest := [.long (r_6 >>> (v3.toInt64 &&& 63))]) (st1 := [.long r_8, .long (r_6 >>> (v3.toInt64 &&& 63))]) C 0 hll (c_Big_digitAt l G hG v0 m_v0 k_v0 ((v5 + v2) + 1) σ _ hc_9) q_611 q_613 qs_22 q_6 q_614 hd_Big_digitAt ⟨_, rfl, rfl⟩ (by decide) m_v0 k_v0 ⟨by decide, by decide⟩ rfl rfl (Nat.le_of_ble_eq_true rfl) rfl dX0_shiftDown_56 ?_
    refine rx_bipush (v := 30) C dX0_shiftDown_59 rfl ?_
    refine rx_iload_n C 2 dX0_shiftDown_61 rfl ?_
    refine rx_isub C dX0_shiftDown_62 ?_
    refine rx_lshl C dX0_shiftDown_63 ?_
    refine rx_lor C dX0_shiftDown_64 ?_
    refine rx_nml hm (fun v6_10 ev6_10 hm => ?_)
    refine rx_lstore (lv1 := [(6, .long v6_10), (0, .ref v0), (2, .int v2), (3, .int v3), (4, .int v4), (5, .int v5)]) C dX0_shiftDown_65 (by decide) rfl ?_
    refine rx_aload_n C 1 dX0_shiftDown_67 rfl ?_
    refine gf_158 C m_v0 k_v0 dX0_shiftDown_68 hm (fun p_11 m_p_11 k_p_11 hm => ?_)
    refine rx_iload C 5 dX0_shiftDown_71 rfl ?_
    refine rx_lload C 0 dX0_shiftDown_73 rfl ?_
    refine rx_ldc2 C q_274 dX0_shiftDown_75 ?_
    refine rx_land C dX0_shiftDown_78 ?_
    refine rx_last C m_p_11 k_p_11 dX0_shiftDown_79 hm (fun σ_12 hm => ?_)
    refine rx_iinc (d := 1) (lv1 := fun v => [(5, .int v), (6, .long v6_10), (0, .ref v0), (2, .int v2), (3, .int v3), (4, .int v4)]) C 5 dX0_shiftDown_80 hm rfl rfl (by decide) (fun _ => rfl) (fun v5_13 hm => ?_)
    refine rx_goto (tgt := 30) C dX0_shiftDown_83 (by decide) ?_
    refine rx_lv [2, 3, 4, 5, 0] rfl ?_
    exact ih _ _ _ hm hk
def f_Big_shiftDown (fu : Nat) (N : Nat → Nat) (v0 : Nat) (v1 : Int32) (σ : rr_M) : Option (Unit × rr_M) :=
    if 0 < v1 then (rr_lt (v1 / 30) fun v2_2 =>
    rr_lt (v1 - v1 / 30 * 30) fun v3_3 =>
    rr_lt (rr_mx ((mg_i σ v0 1) - v2_2) 1) fun v4_4 =>
    l_Big_shiftDown_30 fu N v0 v2_2 v3_3 v4_4 fu 0 σ (fun σ_14 =>
    rr_lt (mg_r σ_14 v0 0) fun p_15 =>
    Option.bind (f_Big_digitAt N v0 ((v4_4 - 1) + v2_2) σ_14) fun r_16 =>
    (if rr_ix (v4_4 - 1) (N p_15) then rr_lt (ms_l σ_14 p_15 (rr_n (v4_4 - 1)) (r_16 >>> (v3_3.toInt64 &&& 63))) fun σ_18 =>
    rr_bd (f_Big_trim fu N v0 v4_4 σ_18) fun _ σ_19 =>
    some ((), σ_19) else none))) else
    some ((), σ)
theorem c_Big_shiftDown (l : Launch) (G : rr_G) (hG : G.2.2.1.Nodup) (fu : Nat) (v0 : Nat) (m_v0 : v0 ∈ G.2.2.1) (k_v0 : G.2.2.2.1 v0 = 0) (v1 : Int32) (σ : rr_M) (σr : rr_M) (hm : f_Big_shiftDown fu G.2.2.2.2 v0 v1 σ = some ((), σr)) : rr_Met l G yX0_shiftDown cX0_shiftDown 8 none 1 23 [.ref v0, .int v1] σ σr none := by
  refine rr_enter (lv0 := [(0, .ref v0), (1, .int v1)]) hp_Big_shiftDown hG (Nat.le_of_ble_eq_true rfl) rfl (fun X hll C => ?_)
  replace C : rr_C X G cX0_shiftDown 8 "RootRows$Big" none 1 23 := C
  unfold f_Big_shiftDown at hm
  refine rx_iload_n C 1 dX0_shiftDown_0 rfl ?_
  refine rx_if_gt (tgt := 5) C dX0_shiftDown_1 (by decide) hm (fun h_1 hm => ?_) (fun h_1 hm => ?_)
  · refine rx_iload_n C 1 dX0_shiftDown_5 rfl ?_
    refine rx_bipush (v := 30) C dX0_shiftDown_6 rfl ?_
    refine rx_idiv C dX0_shiftDown_8 (by decide) ?_
    refine rx_nmi hm (fun v2_2 ev2_2 hm => ?_)
    refine rx_istore_n (lv1 := [(2, .int v2_2), (0, .ref v0), (1, .int v1)]) C dX0_shiftDown_9 (by decide) rfl ?_
    refine rx_iload_n C 2 dX0_shiftDown_10 rfl ?_
    refine rx_bipush (v := 30) C dX0_shiftDown_11 rfl ?_
    refine rx_irem C dX0_shiftDown_13 (by decide) ?_
    refine rx_nmi hm (fun v3_3 ev3_3 hm => ?_)
    refine rx_istore_n (lv1 := [(3, .int v3_3), (2, .int v2_2), (0, .ref v0), (1, .int v1)]) C dX0_shiftDown_14 (by decide) rfl ?_
    refine rx_aload_n C 2 dX0_shiftDown_15 rfl ?_
    refine gf_159 C m_v0 k_v0 dX0_shiftDown_16 ?_
    refine rx_iload_n C 1 dX0_shiftDown_19 rfl ?_
    refine rx_isub C dX0_shiftDown_20 ?_
    refine rx_iconst (v := 1) C dX0_shiftDown_21 rfl ?_
    refine rx_mmax (rest := []) C q_155 (by decide) (by decide) (Nat.le_of_ble_eq_true rfl) dX0_shiftDown_22 ?_
    refine rx_nmi hm (fun v4_4 ev4_4 hm => ?_)
    refine rx_istore (lv1 := [(4, .int v4_4), (3, .int v3_3), (2, .int v2_2), (0, .ref v0), (1, .int v1)]) C dX0_shiftDown_25 (by decide) rfl ?_
    refine rx_iconst (v := 0) C dX0_shiftDown_27 rfl ?_
    refine rx_istore (lv1 := [(5, .int 0), (4, .int v4_4), (3, .int v3_3), (2, .int v2_2), (0, .ref v0), (1, .int v1)]) C dX0_shiftDown_28 (by decide) rfl ?_
    refine rx_lv [4, 3, 2, 1, 0] rfl ?_
    refine lw_Big_shiftDown_30 hG hll C v0 m_v0 k_v0 v2_2 v3_3 v4_4 _ _ _ _ hm (fun σ_14 hm => ?_)
    refine rx_aload_n C 0 dX0_shiftDown_86 rfl ?_
    refine gf_158 C m_v0 k_v0 dX0_shiftDown_87 hm (fun p_15 m_p_15 k_p_15 hm => ?_)
    refine rx_iload C 3 dX0_shiftDown_90 rfl ?_
    refine rx_iconst (v := 1) C dX0_shiftDown_92 rfl ?_
    refine rx_isub C dX0_shiftDown_93 ?_
    refine rx_aload_n C 0 dX0_shiftDown_94 rfl ?_
    refine rx_iload C 3 dX0_shiftDown_95 rfl ?_
    refine rx_iconst (v := 1) C dX0_shiftDown_97 rfl ?_
    refine rx_isub C dX0_shiftDown_98 ?_
    refine rx_iload_n C 1 dX0_shiftDown_99 rfl ?_
    refine rx_iadd C dX0_shiftDown_100 ?_
    obtain ⟨r_16, hc_17, hm⟩ := rr_b0_some hm
    refine rr_callV (rest := [.int (v4_4 - 1), .ref p_15]) (st1 := [.long r_16, .int (v4_4 - 1), .ref p_15]) C 0 hll (c_Big_digitAt l G hG v0 m_v0 k_v0 ((v4_4 - 1) + v2_2) σ_14 _ hc_17) q_611 q_613 qs_22 q_6 q_614 hd_Big_digitAt ⟨_, rfl, rfl⟩ (by decide) m_v0 k_v0 ⟨by decide, by decide⟩ rfl rfl (Nat.le_of_ble_eq_true rfl) rfl dX0_shiftDown_101 ?_
    refine rx_iload_n C 2 dX0_shiftDown_104 rfl ?_
    refine rx_lshr C dX0_shiftDown_105 ?_
    refine rx_last C m_p_15 k_p_15 dX0_shiftDown_106 hm (fun σ_18 hm => ?_)
    refine rx_aload_n C 0 dX0_shiftDown_107 rfl ?_
    refine rx_iload C 3 dX0_shiftDown_108 rfl ?_
    obtain ⟨_, σ_19, hc_20, hm⟩ := rr_bd_some hm
    refine rr_callV (rest := []) (st1 := []) C 0 hll (c_Big_trim l G hG fu v0 m_v0 k_v0 v4_4 σ_18 _ hc_20) q_275 q_277 qs_0 q_6 q_278 hd_Big_trim ⟨_, rfl, rfl⟩ (by decide) m_v0 k_v0 ⟨by decide, by decide⟩ rfl rfl (Nat.le_of_ble_eq_true rfl) rfl dX0_shiftDown_110 ?_
    exact rx_vret C dX0_shiftDown_113 hm
  exact rx_vret C dX0_shiftDown_4 hm
def l_Big_trailingZeros_20 (fu : Nat) (N : Nat → Nat) (v0 : Nat) (σ : rr_M) : Nat → Int32 → (Int32 → Option (Int32)) → Option (Int32)
  | 0, _, _ => none
  | n + 1, v1, kk =>
    if ((mg_i σ v0 1) - 1) ≤ v1 then (kk v1) else
    rr_lt (mg_r σ v0 0) fun p_4 =>
    (if rr_ix v1 (N p_4) then
    if (mg_l σ p_4 (rr_n v1)) = 0 then (rr_lt (v1 + 1) fun v1_6 =>
    l_Big_trailingZeros_20 fu N v0 σ n v1_6 kk) else
    kk v1 else none)
theorem lw_Big_trailingZeros_20 {X : rr_X} {G : rr_G} {l : Launch} {fu : Nat} (hG : G.2.2.1.Nodup) (hll : X.2.1 = l) (C : rr_C X G cX0_trailingZeros 2 "RootRows$Big" (some .int) 2 43) {r : Int32}  (σ : rr_M) (v0 : Nat) (m_v0 : v0 ∈ G.2.2.1) (k_v0 : G.2.2.2.1 v0 = 0) : ∀ (n : Nat) (v1 : Int32) (K : Int32 → Option (Int32)), l_Big_trailingZeros_20 fu G.2.2.2.2 v0 σ n v1 K = some r → (∀ (w1 : Int32), K w1 = some r → rr_J X G 2 (rr_E X G σ (some (.int r))) σ 47 [(0, .ref v0), (1, .int w1)] []) → rr_J X G 2 (rr_E X G σ (some (.int r))) σ 20 [(0, .ref v0), (1, .int v1)] [] := by
  intro n
  induction n with
  | zero =>
    intro v1 K hm
    cases hm
  | succ n ih =>
    intro v1 K hm hk
    unfold l_Big_trailingZeros_20 at hm
    refine rx_iload_n C 1 dX0_trailingZeros_20 rfl ?_
    refine rx_aload_n C 0 dX0_trailingZeros_21 rfl ?_
    refine gf_159 C m_v0 k_v0 dX0_trailingZeros_22 ?_
    refine rx_iconst (v := 1) C dX0_trailingZeros_25 rfl ?_
    refine rx_isub C dX0_trailingZeros_26 ?_
    refine rx_icmp_ge (tgt := 47) C dX0_trailingZeros_27 (by decide) hm (fun h_3 hm => ?_) (fun h_3 hm => ?_)
    · refine rx_lv [0, 1] rfl ?_
      exact hk _ hm
    refine rx_aload_n C 0 dX0_trailingZeros_30 rfl ?_
    refine gf_158 C m_v0 k_v0 dX0_trailingZeros_31 hm (fun p_4 m_p_4 k_p_4 hm => ?_)
    refine rx_iload_n C 1 dX0_trailingZeros_34 rfl ?_
    refine rx_lald C m_p_4 k_p_4 dX0_trailingZeros_35 hm (fun hm => ?_)
    refine rx_lconst (v := 0) C dX0_trailingZeros_36 rfl ?_
    refine rx_lcmp_ne (tgt := 47) C dX0_trailingZeros_37 dX0_trailingZeros_38 (by decide) hm (fun h_5 hm => ?_) (fun h_5 hm => ?_)
    · refine rx_lv [0, 1] rfl ?_
      exact hk _ hm
    refine rx_iinc (d := 1) (lv1 := fun v => [(1, .int v), (0, .ref v0)]) C 1 dX0_trailingZeros_41 hm rfl rfl (by decide) (fun _ => rfl) (fun v1_6 hm => ?_)
    refine rx_goto (tgt := 20) C dX0_trailingZeros_44 (by decide) ?_
    refine rx_lv [1, 0] rfl ?_
    exact ih _ _ hm hk
def f_Big_trailingZeros (fu : Nat) (N : Nat → Nat) (v0 : Nat) (σ : rr_M) : Option (Int32) :=
    rr_lt (mg_r σ v0 0) fun p_1 =>
    (if rr_ix ((mg_i σ v0 1) - 1) (N p_1) then
    if (mg_l σ p_1 (rr_n ((mg_i σ v0 1) - 1))) = 0 then (some (0)) else
    l_Big_trailingZeros_20 fu N v0 σ fu 0 (fun v1_7 =>
    rr_lt (mg_r σ v0 0) fun p_8 =>
    (if rr_ix v1_7 (N p_8) then
    Option.bind (f_Jlo_numberOfTrailingZeros_l (mg_l σ p_8 (rr_n v1_7))) fun r_9 =>
    some ((v1_7 * 30) + r_9) else none)) else none)
theorem c_Big_trailingZeros (l : Launch) (G : rr_G) (hG : G.2.2.1.Nodup) (fu : Nat) (v0 : Nat) (m_v0 : v0 ∈ G.2.2.1) (k_v0 : G.2.2.2.1 v0 = 0) (σ : rr_M) (r : Int32) (hm : f_Big_trailingZeros fu G.2.2.2.2 v0 σ = some r) : rr_Met l G yX0_trailingZeros cX0_trailingZeros 2 (some .int) 2 43 [.ref v0] σ σ (some (.int r)) := by
  refine rr_enter (lv0 := [(0, .ref v0)]) hp_Big_trailingZeros hG (Nat.le_of_ble_eq_true rfl) rfl (fun X hll C => ?_)
  replace C : rr_C X G cX0_trailingZeros 2 "RootRows$Big" (some .int) 2 43 := C
  unfold f_Big_trailingZeros at hm
  refine rx_aload_n C 0 dX0_trailingZeros_0 rfl ?_
  refine gf_158 C m_v0 k_v0 dX0_trailingZeros_1 hm (fun p_1 m_p_1 k_p_1 hm => ?_)
  refine rx_aload_n C 0 dX0_trailingZeros_4 rfl ?_
  refine gf_159 C m_v0 k_v0 dX0_trailingZeros_5 ?_
  refine rx_iconst (v := 1) C dX0_trailingZeros_8 rfl ?_
  refine rx_isub C dX0_trailingZeros_9 ?_
  refine rx_lald C m_p_1 k_p_1 dX0_trailingZeros_10 hm (fun hm => ?_)
  refine rx_lconst (v := 0) C dX0_trailingZeros_11 rfl ?_
  refine rx_lcmp_ne (tgt := 18) C dX0_trailingZeros_12 dX0_trailingZeros_13 (by decide) hm (fun h_2 hm => ?_) (fun h_2 hm => ?_)
  · refine rx_iconst (v := 0) C dX0_trailingZeros_18 rfl ?_
    refine rx_istore_n (lv1 := [(1, .int 0), (0, .ref v0)]) C dX0_trailingZeros_19 (by decide) rfl ?_
    refine rx_lv [1, 0] rfl ?_
    refine lw_Big_trailingZeros_20 hG hll C σ v0 m_v0 k_v0 _ _ _ hm (fun v1_7 hm => ?_)
    refine rx_iload_n C 1 dX0_trailingZeros_47 rfl ?_
    refine rx_bipush (v := 30) C dX0_trailingZeros_48 rfl ?_
    refine rx_imul C dX0_trailingZeros_50 ?_
    refine rx_aload_n C 0 dX0_trailingZeros_51 rfl ?_
    refine gf_158 C m_v0 k_v0 dX0_trailingZeros_52 hm (fun p_8 m_p_8 k_p_8 hm => ?_)
    refine rx_iload_n C 1 dX0_trailingZeros_55 rfl ?_
    refine rx_lald C m_p_8 k_p_8 dX0_trailingZeros_56 hm (fun hm => ?_)
    obtain ⟨r_9, hc_10, hm⟩ := rr_b0_some hm
    refine rr_callS (rest := [.int (v1_7 * 30)]) (st1 := [.int r_9, .int (v1_7 * 30)]) C hll (c_Jlo_numberOfTrailingZeros_l l G hG (mg_l σ p_8 (rr_n v1_7)) σ _ hc_10) q_600 q_601 q_15 q_602 hd_Jlo_numberOfTrailingZeros_l ⟨by decide, by decide⟩ rfl rfl (Nat.le_of_ble_eq_true rfl) rfl dX0_trailingZeros_57 ?_
    refine rx_iadd C dX0_trailingZeros_60 ?_
    exact rx_iretR C dX0_trailingZeros_61 hm
  refine rx_iconst (v := 0) C dX0_trailingZeros_16 rfl ?_
  exact rx_iretR C dX0_trailingZeros_17 hm
def f_Big_signum (N : Nat → Nat) (v0 : Nat) (σ : rr_M) : Option (Int32) :=
    rr_lt (mg_r σ v0 0) fun p_1 =>
    (if rr_ix ((mg_i σ v0 1) - 1) (N p_1) then
    Option.bind (f_Jlo_signum_l (mg_l σ p_1 (rr_n ((mg_i σ v0 1) - 1)))) fun r_2 =>
    some (r_2) else none)
theorem c_Big_signum (l : Launch) (G : rr_G) (hG : G.2.2.1.Nodup) (v0 : Nat) (m_v0 : v0 ∈ G.2.2.1) (k_v0 : G.2.2.2.1 v0 = 0) (σ : rr_M) (r : Int32) (hm : f_Big_signum G.2.2.2.2 v0 σ = some r) : rr_Met l G yX0_signum cX0_signum 1 (some .int) 1 21 [.ref v0] σ σ (some (.int r)) := by
  refine rr_enter (lv0 := [(0, .ref v0)]) hp_Big_signum hG (Nat.le_of_ble_eq_true rfl) rfl (fun X hll C => ?_)
  replace C : rr_C X G cX0_signum 1 "RootRows$Big" (some .int) 1 21 := C
  unfold f_Big_signum at hm
  refine rx_aload_n C 0 dX0_signum_0 rfl ?_
  refine gf_158 C m_v0 k_v0 dX0_signum_1 hm (fun p_1 m_p_1 k_p_1 hm => ?_)
  refine rx_aload_n C 0 dX0_signum_4 rfl ?_
  refine gf_159 C m_v0 k_v0 dX0_signum_5 ?_
  refine rx_iconst (v := 1) C dX0_signum_8 rfl ?_
  refine rx_isub C dX0_signum_9 ?_
  refine rx_lald C m_p_1 k_p_1 dX0_signum_10 hm (fun hm => ?_)
  obtain ⟨r_2, hc_3, hm⟩ := rr_b0_some hm
  refine rr_callS (rest := []) (st1 := [.int r_2]) C hll (c_Jlo_signum_l l G hG (mg_l σ p_1 (rr_n ((mg_i σ v0 1) - 1))) σ _ hc_3) q_591 q_555 q_15 q_556 hd_Jlo_signum_l ⟨by decide, by decide⟩ rfl rfl (Nat.le_of_ble_eq_true rfl) rfl dX0_signum_11 ?_
  exact rx_iretR C dX0_signum_14 hm
def l_Big_toLong_9 (fu : Nat) (N : Nat → Nat) (v0 : Nat) (σ : rr_M) : Nat → Int64 → Int32 → (Int64 → Option (Int64)) → Option (Int64)
  | 0, _, _, _ => none
  | n + 1, v1, v3, kk =>
    if v3 < 0 then (kk v1) else
    rr_lt (mg_r σ v0 0) fun p_3 =>
    (if rr_ix v3 (N p_3) then
    rr_lt ((v1 <<< ((30 : Int32).toInt64 &&& 63)) + (mg_l σ p_3 (rr_n v3))) fun v1_4 =>
    rr_lt (v3 + (-1)) fun v3_5 =>
    l_Big_toLong_9 fu N v0 σ n v1_4 v3_5 kk else none)
theorem lw_Big_toLong_9 {X : rr_X} {G : rr_G} {l : Launch} {fu : Nat} (hG : G.2.2.1.Nodup) (hll : X.2.1 = l) (C : rr_C X G cX0_toLong 4 "RootRows$Big" (some .long) 0 0) {r : Int64}  (σ : rr_M) (v0 : Nat) (m_v0 : v0 ∈ G.2.2.1) (k_v0 : G.2.2.2.1 v0 = 0) : ∀ (n : Nat) (v1 : Int64) (v3 : Int32) (K : Int64 → Option (Int64)), l_Big_toLong_9 fu G.2.2.2.2 v0 σ n v1 v3 K = some r → (∀ (w1 : Int64), K w1 = some r → rr_J X G 4 (rr_E X G σ (some (.long r))) σ 31 [(1, .long w1)] []) → rr_J X G 4 (rr_E X G σ (some (.long r))) σ 9 [(0, .ref v0), (1, .long v1), (3, .int v3)] [] := by
  intro n
  induction n with
  | zero =>
    intro v1 v3 K hm
    cases hm
  | succ n ih =>
    intro v1 v3 K hm hk
    unfold l_Big_toLong_9 at hm
    refine rx_iload_n C 2 dX0_toLong_9 rfl ?_
    refine rx_if_lt (tgt := 31) C dX0_toLong_10 (by decide) hm (fun h_2 hm => ?_) (fun h_2 hm => ?_)
    · refine rx_lv [1] rfl ?_
      exact hk _ hm
    refine rx_lload_n C 1 dX0_toLong_13 rfl ?_
    refine rx_bipush (v := 30) C dX0_toLong_14 rfl ?_
    refine rx_lshl C dX0_toLong_16 ?_
    refine rx_aload_n C 0 dX0_toLong_17 rfl ?_
    refine gf_158 C m_v0 k_v0 dX0_toLong_18 hm (fun p_3 m_p_3 k_p_3 hm => ?_)
    refine rx_iload_n C 2 dX0_toLong_21 rfl ?_
    refine rx_lald C m_p_3 k_p_3 dX0_toLong_22 hm (fun hm => ?_)
    refine rx_ladd C dX0_toLong_23 ?_
    refine rx_nml hm (fun v1_4 ev1_4 hm => ?_)
    refine rx_lstore_n (lv1 := [(1, .long v1_4), (0, .ref v0), (3, .int v3)]) C dX0_toLong_24 (by decide) rfl ?_
    refine rx_iinc (d := (-1)) (lv1 := fun v => [(3, .int v), (1, .long v1_4), (0, .ref v0)]) C 2 dX0_toLong_25 hm rfl rfl (by decide) (fun _ => rfl) (fun v3_5 hm => ?_)
    refine rx_goto (tgt := 9) C dX0_toLong_28 (by decide) ?_
    refine rx_lv [2, 1, 0] rfl ?_
    exact ih _ _ _ hm hk
def f_Big_toLong (fu : Nat) (N : Nat → Nat) (v0 : Nat) (σ : rr_M) : Option (Int64) :=
    rr_lt ((mg_i σ v0 1) - 1) fun v3_1 =>
    l_Big_toLong_9 fu N v0 σ fu 0 v3_1 (fun v1_6 =>
    some (v1_6))
theorem c_Big_toLong (l : Launch) (G : rr_G) (hG : G.2.2.1.Nodup) (fu : Nat) (v0 : Nat) (m_v0 : v0 ∈ G.2.2.1) (k_v0 : G.2.2.2.1 v0 = 0) (σ : rr_M) (r : Int64) (hm : f_Big_toLong fu G.2.2.2.2 v0 σ = some r) : rr_Met l G yX0_toLong cX0_toLong 4 (some .long) 0 0 [.ref v0] σ σ (some (.long r)) := by
  refine rr_enter (lv0 := [(0, .ref v0)]) hp_Big_toLong hG (Nat.le_of_ble_eq_true rfl) rfl (fun X hll C => ?_)
  replace C : rr_C X G cX0_toLong 4 "RootRows$Big" (some .long) 0 0 := C
  unfold f_Big_toLong at hm
  refine rx_lconst (v := 0) C dX0_toLong_0 rfl ?_
  refine rx_lstore_n (lv1 := [(1, .long 0), (0, .ref v0)]) C dX0_toLong_1 (by decide) rfl ?_
  refine rx_aload_n C 1 dX0_toLong_2 rfl ?_
  refine gf_159 C m_v0 k_v0 dX0_toLong_3 ?_
  refine rx_iconst (v := 1) C dX0_toLong_6 rfl ?_
  refine rx_isub C dX0_toLong_7 ?_
  refine rx_nmi hm (fun v3_1 ev3_1 hm => ?_)
  refine rx_istore_n (lv1 := [(3, .int v3_1), (1, .long 0), (0, .ref v0)]) C dX0_toLong_8 (by decide) rfl ?_
  refine rx_lv [2, 1, 0] rfl ?_
  refine lw_Big_toLong_9 hG hll C σ v0 m_v0 k_v0 _ _ _ _ hm (fun v1_6 hm => ?_)
  refine rx_lload_n C 0 dX0_toLong_31 rfl ?_
  exact rx_lretR C dX0_toLong_32 hm
