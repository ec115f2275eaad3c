def f_Jlo_signum_l (v0 : Int64) : Option (Int32) :=
    some (((v0 >>> ((63 : Int32).toInt64 &&& 63)) ||| (((-v0).toUInt64 >>> ((63 : Int32).toInt64.toUInt64 &&& Int64.toUInt64 63)).toInt64)).toInt32)
theorem c_Jlo_signum_l (l : Launch) (G : rr_G) (hG : G.2.2.1.Nodup) (v0 : Int64) (σ : rr_M) (r : Int32) (hm : f_Jlo_signum_l v0 = some r) : rr_Met l G yJ13_signum_95d88 cJ13_signum_95d88 2 (some .int) 0 0 [.long v0] σ σ (some (.int r)) := by
  refine rr_enter (lv0 := [(0, .long v0)]) hp_Jlo_signum_l hG (Nat.le_of_ble_eq_true rfl) rfl (fun X hll C => ?_)
  replace C : rr_C X G cJ13_signum_95d88 2 "java/lang/Long" (some .int) 0 0 := C
  unfold f_Jlo_signum_l at hm
  refine rx_lload_n C 0 dJ13_signum_95d88_0 rfl ?_
  refine rx_bipush (v := 63) C dJ13_signum_95d88_1 rfl ?_
  refine rx_lshr C dJ13_signum_95d88_3 ?_
  refine rx_lload_n C 0 dJ13_signum_95d88_4 rfl ?_
  refine rx_lneg C dJ13_signum_95d88_5 ?_
  refine rx_bipush (v := 63) C dJ13_signum_95d88_6 rfl ?_
  refine rx_lushr C dJ13_signum_95d88_8 ?_
  refine rx_lor C dJ13_signum_95d88_9 ?_
  refine rx_l2i C dJ13_signum_95d88_10 ?_
  exact rx_iretR C dJ13_signum_95d88_11 hm
def f_Jin_numberOfTrailingZeros (v0 : Int32) : Option (Int32) :=
    rr_lt ((v0 ^^^ (-1)) &&& (v0 - 1)) fun v0_1 =>
    if 0 < v0_1 then (rr_jn (fun (v0_3 : Int32) (v1_4 : Int32) =>
    rr_jn (fun (v0_5 : Int32) (v1_6 : Int32) =>
    rr_jn (fun (v0_7 : Int32) (v1_8 : Int32) =>
    rr_jn (fun (v0_9 : Int32) (v1_10 : Int32) =>
    some (v1_10 + ((v0_9.toUInt32 >>> ((1 : Int32).toUInt32 &&& Int32.toUInt32 31)).toInt32))) fun j74 =>
    if v0_7 ≤ 4 then (j74 v0_7 v1_8) else
    rr_lt (v1_8 + 2) fun v1_12 =>
    rr_lt ((v0_7.toUInt32 >>> ((2 : Int32).toUInt32 &&& Int32.toUInt32 31)).toInt32) fun v0_13 =>
    j74 v0_13 v1_12) fun j62 =>
    if v0_5 ≤ 16 then (j62 v0_5 v1_6) else
    rr_lt (v1_6 + 4) fun v1_15 =>
    rr_lt ((v0_5.toUInt32 >>> ((4 : Int32).toUInt32 &&& Int32.toUInt32 31)).toInt32) fun v0_16 =>
    j62 v0_16 v1_15) fun j49 =>
    if v0_3 ≤ 256 then (j49 v0_3 v1_4) else
    rr_lt (v1_4 + 8) fun v1_18 =>
    rr_lt ((v0_3.toUInt32 >>> ((8 : Int32).toUInt32 &&& Int32.toUInt32 31)).toInt32) fun v0_19 =>
    j49 v0_19 v1_18) fun j34 =>
    if v0_1 ≤ 65536 then (j34 v0_1 1) else
    rr_lt (1 + 16) fun v1_21 =>
    rr_lt ((v0_1.toUInt32 >>> ((16 : Int32).toUInt32 &&& Int32.toUInt32 31)).toInt32) fun v0_22 =>
    j34 v0_22 v1_21) else
    some (v0_1 &&& 32)
theorem c_Jin_numberOfTrailingZeros (l : Launch) (G : rr_G) (hG : G.2.2.1.Nodup) (v0 : Int32) (σ : rr_M) (r : Int32) (hm : f_Jin_numberOfTrailingZeros v0 = some r) : rr_Met l G yJ6_numberOfTrailingZeros_0f7a4 cJ6_numberOfTrailingZeros_0f7a4 2 (some .int) 0 0 [.int v0] σ σ (some (.int r)) := by
  refine rr_enter (lv0 := [(0, .int v0)]) hp_Jin_numberOfTrailingZeros hG (Nat.le_of_ble_eq_true rfl) rfl (fun X hll C => ?_)
  replace C : rr_C X G cJ6_numberOfTrailingZeros_0f7a4 2 "java/lang/Integer" (some .int) 0 0 := C
  unfold f_Jin_numberOfTrailingZeros at hm
  refine rx_iload_n C 0 dJ6_numberOfTrailingZeros_0f7a4_0 rfl ?_
  refine rx_iconst (v := (-1)) C dJ6_numberOfTrailingZeros_0f7a4_1 rfl ?_
  refine rx_ixor C dJ6_numberOfTrailingZeros_0f7a4_2 ?_
  refine rx_iload_n C 0 dJ6_numberOfTrailingZeros_0f7a4_3 rfl ?_
  refine rx_iconst (v := 1) C dJ6_numberOfTrailingZeros_0f7a4_4 rfl ?_
  refine rx_isub C dJ6_numberOfTrailingZeros_0f7a4_5 ?_
  refine rx_iand C dJ6_numberOfTrailingZeros_0f7a4_6 ?_
  refine rx_nmi hm (fun v0_1 ev0_1 hm => ?_)
  refine rx_istore_n (lv1 := [(0, .int v0_1)]) C dJ6_numberOfTrailingZeros_0f7a4_7 (by decide) rfl ?_
  refine rx_iload_n C 0 dJ6_numberOfTrailingZeros_0f7a4_8 rfl ?_
  refine rx_if_gt (tgt := 17) C dJ6_numberOfTrailingZeros_0f7a4_9 (by decide) hm (fun h_2 hm => ?_) (fun h_2 hm => ?_)
  · refine rx_iconst (v := 1) C dJ6_numberOfTrailingZeros_0f7a4_17 rfl ?_
    refine rx_istore_n (lv1 := [(1, .int 1), (0, .int v0_1)]) C dJ6_numberOfTrailingZeros_0f7a4_18 (by decide) rfl ?_
    refine rx_iload_n C 1 dJ6_numberOfTrailingZeros_0f7a4_19 rfl ?_
    refine rx_ldcw C q_606 dJ6_numberOfTrailingZeros_0f7a4_20 ?_
    refine rr_jn2 hm (fun j34 ej34 hm => ?_)
    have hj34 : ∀ (v0_3 : Int32) (v1_4 : Int32), j34 v0_3 v1_4 = some r → rr_J X G 2 (rr_E X G σ (some (.int r))) σ 34 [(0, .int v0_3), (1, .int v1_4)] [] := by
      intro v0_3 v1_4 hm
      replace hm := ej34 _ _ hm
      refine rx_iload_n C 0 dJ6_numberOfTrailingZeros_0f7a4_34 rfl ?_
      refine rx_sipush (v := 256) C dJ6_numberOfTrailingZeros_0f7a4_35 rfl ?_
      refine rr_jn2 hm (fun j49 ej49 hm => ?_)
      have hj49 : ∀ (v0_5 : Int32) (v1_6 : Int32), j49 v0_5 v1_6 = some r → rr_J X G 2 (rr_E X G σ (some (.int r))) σ 49 [(0, .int v0_5), (1, .int v1_6)] [] := by
        intro v0_5 v1_6 hm
        replace hm := ej49 _ _ hm
        refine rx_iload_n C 0 dJ6_numberOfTrailingZeros_0f7a4_49 rfl ?_
        refine rx_bipush (v := 16) C dJ6_numberOfTrailingZeros_0f7a4_50 rfl ?_
        refine rr_jn2 hm (fun j62 ej62 hm => ?_)
        have hj62 : ∀ (v0_7 : Int32) (v1_8 : Int32), j62 v0_7 v1_8 = some r → rr_J X G 2 (rr_E X G σ (some (.int r))) σ 62 [(0, .int v0_7), (1, .int v1_8)] [] := by
          intro v0_7 v1_8 hm
          replace hm := ej62 _ _ hm
          refine rx_iload_n C 0 dJ6_numberOfTrailingZeros_0f7a4_62 rfl ?_
          refine rx_iconst (v := 4) C dJ6_numberOfTrailingZeros_0f7a4_63 rfl ?_
          refine rr_jn2 hm (fun j74 ej74 hm => ?_)
          have hj74 : ∀ (v0_9 : Int32) (v1_10 : Int32), j74 v0_9 v1_10 = some r → rr_J X G 2 (rr_E X G σ (some (.int r))) σ 74 [(0, .int v0_9), (1, .int v1_10)] [] := by
            intro v0_9 v1_10 hm
            replace hm := ej74 _ _ hm
            refine rx_iload_n C 1 dJ6_numberOfTrailingZeros_0f7a4_74 rfl ?_
            refine rx_iload_n C 0 dJ6_numberOfTrailingZeros_0f7a4_75 rfl ?_
            refine rx_iconst (v := 1) C dJ6_numberOfTrailingZeros_0f7a4_76 rfl ?_
            refine rx_iushr C dJ6_numberOfTrailingZeros_0f7a4_77 ?_
            refine rx_iadd C dJ6_numberOfTrailingZeros_0f7a4_78 ?_
            exact rx_iretR C dJ6_numberOfTrailingZeros_0f7a4_79 hm
          refine rx_icmp_le (tgt := 74) C dJ6_numberOfTrailingZeros_0f7a4_64 (by decide) hm (fun h_11 hm => ?_) (fun h_11 hm => ?_)
          · refine rx_lv [0, 1] rfl ?_
            exact hj74 _ _ hm
          refine rx_iinc (d := 2) (lv1 := fun v => [(1, .int v), (0, .int v0_7)]) C 1 dJ6_numberOfTrailingZeros_0f7a4_67 hm rfl rfl (by decide) (fun _ => rfl) (fun v1_12 hm => ?_)
          refine rx_iload_n C 1 dJ6_numberOfTrailingZeros_0f7a4_70 rfl ?_
          refine rx_iconst (v := 2) C dJ6_numberOfTrailingZeros_0f7a4_71 rfl ?_
          refine rx_iushr C dJ6_numberOfTrailingZeros_0f7a4_72 ?_
          refine rx_nmi hm (fun v0_13 ev0_13 hm => ?_)
          refine rx_istore_n (lv1 := [(0, .int v0_13), (1, .int v1_12)]) C dJ6_numberOfTrailingZeros_0f7a4_73 (by decide) rfl ?_
          refine rx_lv [0, 1] rfl ?_
          exact hj74 _ _ hm
        refine rx_icmp_le (tgt := 62) C dJ6_numberOfTrailingZeros_0f7a4_52 (by decide) hm (fun h_14 hm => ?_) (fun h_14 hm => ?_)
        · refine rx_lv [0, 1] rfl ?_
          exact hj62 _ _ hm
        refine rx_iinc (d := 4) (lv1 := fun v => [(1, .int v), (0, .int v0_5)]) C 1 dJ6_numberOfTrailingZeros_0f7a4_55 hm rfl rfl (by decide) (fun _ => rfl) (fun v1_15 hm => ?_)
        refine rx_iload_n C 1 dJ6_numberOfTrailingZeros_0f7a4_58 rfl ?_
        refine rx_iconst (v := 4) C dJ6_numberOfTrailingZeros_0f7a4_59 rfl ?_
        refine rx_iushr C dJ6_numberOfTrailingZeros_0f7a4_60 ?_
        refine rx_nmi hm (fun v0_16 ev0_16 hm => ?_)
        refine rx_istore_n (lv1 := [(0, .int v0_16), (1, .int v1_15)]) C dJ6_numberOfTrailingZeros_0f7a4_61 (by decide) rfl ?_
        refine rx_lv [0, 1] rfl ?_
        exact hj62 _ _ hm
      refine rx_icmp_le (tgt := 49) C dJ6_numberOfTrailingZeros_0f7a4_38 (by decide) hm (fun h_17 hm => ?_) (fun h_17 hm => ?_)
      · refine rx_lv [0, 1] rfl ?_
        exact hj49 _ _ hm
      refine rx_iinc (d := 8) (lv1 := fun v => [(1, .int v), (0, .int v0_3)]) C 1 dJ6_numberOfTrailingZeros_0f7a4_41 hm rfl rfl (by decide) (fun _ => rfl) (fun v1_18 hm => ?_)
      refine rx_iload_n C 1 dJ6_numberOfTrailingZeros_0f7a4_44 rfl ?_
      refine rx_bipush (v := 8) C dJ6_numberOfTrailingZeros_0f7a4_45 rfl ?_
      refine rx_iushr C dJ6_numberOfTrailingZeros_0f7a4_47 ?_
      refine rx_nmi hm (fun v0_19 ev0_19 hm => ?_)
      refine rx_istore_n (lv1 := [(0, .int v0_19), (1, .int v1_18)]) C dJ6_numberOfTrailingZeros_0f7a4_48 (by decide) rfl ?_
      refine rx_lv [0, 1] rfl ?_
      exact hj49 _ _ hm
    refine rx_icmp_le (tgt := 34) C dJ6_numberOfTrailingZeros_0f7a4_23 (by decide) hm (fun h_20 hm => ?_) (fun h_20 hm => ?_)
    · refine rx_lv [1, 0] rfl ?_
      exact hj34 _ _ hm
    refine rx_iinc (d := 16) (lv1 := fun v => [(1, .int v), (0, .int v0_1)]) C 0 dJ6_numberOfTrailingZeros_0f7a4_26 hm rfl rfl (by decide) (fun _ => rfl) (fun v1_21 hm => ?_)
    refine rx_iload_n C 1 dJ6_numberOfTrailingZeros_0f7a4_29 rfl ?_
    refine rx_bipush (v := 16) C dJ6_numberOfTrailingZeros_0f7a4_30 rfl ?_
    refine rx_iushr C dJ6_numberOfTrailingZeros_0f7a4_32 ?_
    refine rx_nmi hm (fun v0_22 ev0_22 hm => ?_)
    refine rx_istore_n (lv1 := [(0, .int v0_22), (1, .int v1_21)]) C dJ6_numberOfTrailingZeros_0f7a4_33 (by decide) rfl ?_
    refine rx_lv [0, 1] rfl ?_
    exact hj34 _ _ hm
  refine rx_iload_n C 0 dJ6_numberOfTrailingZeros_0f7a4_12 rfl ?_
  refine rx_bipush (v := 32) C dJ6_numberOfTrailingZeros_0f7a4_13 rfl ?_
  refine rx_iand C dJ6_numberOfTrailingZeros_0f7a4_15 ?_
  exact rx_iretR C dJ6_numberOfTrailingZeros_0f7a4_16 hm
def f_Jlo_numberOfTrailingZeros_l (v0 : Int64) : Option (Int32) :=
    if v0.toInt32 = 0 then (Option.bind (f_Jin_numberOfTrailingZeros (((v0.toUInt64 >>> ((32 : Int32).toInt64.toUInt64 &&& Int64.toUInt64 63)).toInt64).toInt32)) fun r_4 =>
    some (32 + r_4)) else
    Option.bind (f_Jin_numberOfTrailingZeros v0.toInt32) fun r_2 =>
    some (r_2)
theorem c_Jlo_numberOfTrailingZeros_l (l : Launch) (G : rr_G) (hG : G.2.2.1.Nodup) (v0 : Int64) (σ : rr_M) (r : Int32) (hm : f_Jlo_numberOfTrailingZeros_l v0 = some r) : rr_Met l G yJ13_numberOfTrailingZeros_95d88 cJ13_numberOfTrailingZeros_95d88 3 (some .int) 1 21 [.long v0] σ σ (some (.int r)) := by
  refine rr_enter (lv0 := [(0, .long v0)]) hp_Jlo_numberOfTrailingZeros_l hG (Nat.le_of_ble_eq_true rfl) rfl (fun X hll C => ?_)
  replace C : rr_C X G cJ13_numberOfTrailingZeros_95d88 3 "java/lang/Long" (some .int) 1 21 := C
  unfold f_Jlo_numberOfTrailingZeros_l at hm
  refine rx_lload_n C 0 dJ13_numberOfTrailingZeros_95d88_0 rfl ?_
  refine rx_l2i C dJ13_numberOfTrailingZeros_95d88_1 ?_
  refine rx_istore_n (lv1 := [(2, .int v0.toInt32), (0, .long v0)]) C dJ13_numberOfTrailingZeros_95d88_2 (by decide) rfl ?_
  refine rx_iload_n C 0 dJ13_numberOfTrailingZeros_95d88_3 rfl ?_
  refine rx_if_ne (tgt := 21) C dJ13_numberOfTrailingZeros_95d88_4 (by decide) hm (fun h_1 hm => ?_) (fun h_1 hm => ?_)
  · refine rx_iload_n C 0 dJ13_numberOfTrailingZeros_95d88_21 rfl ?_
    obtain ⟨r_2, hc_3, hm⟩ := rr_b0_some hm
    refine rr_callS (rest := []) (st1 := [.int r_2]) C hll (c_Jin_numberOfTrailingZeros l G hG v0.toInt32 σ _ hc_3) q_603 q_604 q_16 q_605 hd_Jin_numberOfTrailingZeros ⟨by decide, by decide⟩ rfl rfl (Nat.le_of_ble_eq_true rfl) rfl dJ13_numberOfTrailingZeros_95d88_22 ?_
    exact rx_iretR C dJ13_numberOfTrailingZeros_95d88_25 hm
  refine rx_bipush (v := 32) C dJ13_numberOfTrailingZeros_95d88_7 rfl ?_
  refine rx_lload_n C 1 dJ13_numberOfTrailingZeros_95d88_9 rfl ?_
  refine rx_bipush (v := 32) C dJ13_numberOfTrailingZeros_95d88_10 rfl ?_
  refine rx_lushr C dJ13_numberOfTrailingZeros_95d88_12 ?_
  refine rx_l2i C dJ13_numberOfTrailingZeros_95d88_13 ?_
  obtain ⟨r_4, hc_5, hm⟩ := rr_b0_some hm
  refine rr_callS (rest := [.int 32]) (st1 := [.int r_4, .int 32]) C hll (c_Jin_numberOfTrailingZeros l G hG (((v0.toUInt64 >>> ((32 : Int32).toInt64.toUInt64 &&& Int64.toUInt64 63)).toInt64).toInt32) σ _ hc_5) q_603 q_604 q_16 q_605 hd_Jin_numberOfTrailingZeros ⟨by decide, by decide⟩ rfl rfl (Nat.le_of_ble_eq_true rfl) rfl dJ13_numberOfTrailingZeros_95d88_14 ?_
  refine rx_iadd C dJ13_numberOfTrailingZeros_95d88_17 ?_
  refine rx_goto (tgt := 25) C dJ13_numberOfTrailingZeros_95d88_18 (by decide) ?_
  exact rx_iretR C dJ13_numberOfTrailingZeros_95d88_25 hm
