theorem rc_i32 {k m : Nat} (h : k < m) (hm : m < 2 ^ 31) : vp_in (nI k) m := vp_in_nI h hm
theorem hk_Roo : yX10_init.cls ≠ "java/lang/invoke/MethodHandle" ∧ yX10_init.cls ≠ "java/lang/invoke/VarHandle" ∧ (parseMethodDescriptor yX10_init.desc).map (fun d => d.parameters.length) = some 0 := by decide +kernel
theorem hq_Roo : plainName yX10_init.cls = true := by decide +kernel
theorem hk_Mod : yX11_init.cls ≠ "java/lang/invoke/MethodHandle" ∧ yX11_init.cls ≠ "java/lang/invoke/VarHandle" ∧ (parseMethodDescriptor yX11_init.desc).map (fun d => d.parameters.length) = some 0 := by decide +kernel
theorem hq_Mod : plainName yX11_init.cls = true := by decide +kernel
theorem hk_Big : yX0_init.cls ≠ "java/lang/invoke/MethodHandle" ∧ yX0_init.cls ≠ "java/lang/invoke/VarHandle" ∧ (parseMethodDescriptor yX0_init.desc).map (fun d => d.parameters.length) = some 1 := by decide +kernel
theorem hq_Big : plainName yX0_init.cls = true := by decide +kernel
theorem hk_Lev : yX1_init.cls ≠ "java/lang/invoke/MethodHandle" ∧ yX1_init.cls ≠ "java/lang/invoke/VarHandle" ∧ (parseMethodDescriptor yX1_init.desc).map (fun d => d.parameters.length) = some 1 := by decide +kernel
theorem hq_Lev : plainName yX1_init.cls = true := by decide +kernel
theorem hk_Mak : yX2_init.cls ≠ "java/lang/invoke/MethodHandle" ∧ yX2_init.cls ≠ "java/lang/invoke/VarHandle" ∧ (parseMethodDescriptor yX2_init.desc).map (fun d => d.parameters.length) = some 0 := by decide +kernel
theorem hq_Mak : plainName yX2_init.cls = true := by decide +kernel
theorem hk_Pla : yX4_init.cls ≠ "java/lang/invoke/MethodHandle" ∧ yX4_init.cls ≠ "java/lang/invoke/VarHandle" ∧ (parseMethodDescriptor yX4_init.desc).map (fun d => d.parameters.length) = some 3 := by decide +kernel
theorem hq_Pla : plainName yX4_init.cls = true := by decide +kernel
theorem hk_Poi : yX5_init.cls ≠ "java/lang/invoke/MethodHandle" ∧ yX5_init.cls ≠ "java/lang/invoke/VarHandle" ∧ (parseMethodDescriptor yX5_init.desc).map (fun d => d.parameters.length) = some 0 := by decide +kernel
theorem hq_Poi : plainName yX5_init.cls = true := by decide +kernel
theorem hk_Seq : yX7_init.cls ≠ "java/lang/invoke/MethodHandle" ∧ yX7_init.cls ≠ "java/lang/invoke/VarHandle" ∧ (parseMethodDescriptor yX7_init.desc).map (fun d => d.parameters.length) = some 0 := by decide +kernel
theorem hq_Seq : plainName yX7_init.cls = true := by decide +kernel
theorem hk_Tap : yX8_init.cls ≠ "java/lang/invoke/MethodHandle" ∧ yX8_init.cls ≠ "java/lang/invoke/VarHandle" ∧ (parseMethodDescriptor yX8_init.desc).map (fun d => d.parameters.length) = some 0 := by decide +kernel
theorem hq_Tap : plainName yX8_init.cls = true := by decide +kernel
theorem hk_Tra : yX9_init.cls ≠ "java/lang/invoke/MethodHandle" ∧ yX9_init.cls ≠ "java/lang/invoke/VarHandle" ∧ (parseMethodDescriptor yX9_init.desc).map (fun d => d.parameters.length) = some 0 := by decide +kernel
theorem hq_Tra : plainName yX9_init.cls = true := by decide +kernel
theorem bl_0 : ∀ j, j < 2 → defaultValue (tyX0 j) = vp_V [.null, .int 0] j := by
  intro j hj
  rcases (by omega : j = 0 ∨ j = 1) with h | h <;> subst h <;> rfl
theorem bl_1 : ∀ j, j < 5 → defaultValue (tyX1 j) = vp_V [.null, .null, .int 0, .null, .null] j := by
  intro j hj
  rcases (by omega : j = 0 ∨ j = 1 ∨ j = 2 ∨ j = 3 ∨ j = 4) with h | h | h | h | h <;> subst h <;> rfl
theorem bl_2 : ∀ j, j < 1 → defaultValue (tyX2 j) = vp_V [.null] j := by
  intro j hj
  have h : j = 0 := by omega
  subst h
  rfl
theorem bl_3 : ∀ j, j < 15 → defaultValue (tyX4 j) = vp_V [.null, .null, .null, .null, .null, .int 0, .int 0, .null, .null, .null, .null, .null, .null, .null, .int 0] j := by
  intro j hj
  rcases (by omega : j = 0 ∨ j = 1 ∨ j = 2 ∨ j = 3 ∨ j = 4 ∨ j = 5 ∨ j = 6 ∨ j = 7 ∨ j = 8 ∨ j = 9 ∨ j = 10 ∨ j = 11 ∨ j = 12 ∨ j = 13 ∨ j = 14) with h | h | h | h | h | h | h | h | h | h | h | h | h | h | h <;> subst h <;> rfl
theorem bl_4 : ∀ j, j < 5 → defaultValue (tyX5 j) = vp_V [.null, .int 0, .null, .null, .null] j := by
  intro j hj
  rcases (by omega : j = 0 ∨ j = 1 ∨ j = 2 ∨ j = 3 ∨ j = 4) with h | h | h | h | h <;> subst h <;> rfl
theorem bl_5 : ∀ j, j < 12 → defaultValue (tyX7 j) = vp_V [.null, .null, .null, .int 0, .null, .null, .null, .null, .null, .null, .null, .null] j := by
  intro j hj
  rcases (by omega : j = 0 ∨ j = 1 ∨ j = 2 ∨ j = 3 ∨ j = 4 ∨ j = 5 ∨ j = 6 ∨ j = 7 ∨ j = 8 ∨ j = 9 ∨ j = 10 ∨ j = 11) with h | h | h | h | h | h | h | h | h | h | h | h <;> subst h <;> rfl
theorem bl_6 : ∀ j, j < 8 → defaultValue (tyX8 j) = vp_V [.null, .int 0, .int 0, .null, .int 0, .int 0, .long 0, .int 0] j := by
  intro j hj
  rcases (by omega : j = 0 ∨ j = 1 ∨ j = 2 ∨ j = 3 ∨ j = 4 ∨ j = 5 ∨ j = 6 ∨ j = 7) with h | h | h | h | h | h | h | h <;> subst h <;> rfl
theorem bl_7 : ∀ j, j < 13 → defaultValue (tyX9 j) = vp_V [.null, .int 0, .int 0, .int 0, .int 0, .int 0, .int 0, .null, .null, .int 0, .null, .null, .null] j := by
  intro j hj
  rcases (by omega : j = 0 ∨ j = 1 ∨ j = 2 ∨ j = 3 ∨ j = 4 ∨ j = 5 ∨ j = 6 ∨ j = 7 ∨ j = 8 ∨ j = 9 ∨ j = 10 ∨ j = 11 ∨ j = 12) with h | h | h | h | h | h | h | h | h | h | h | h | h <;> subst h <;> rfl
theorem bl_8 : ∀ j, j < 7 → defaultValue (tyX10 j) = vp_V [.null, .null, .null, .null, .null, .null, .null] j := by
  intro j hj
  rcases (by omega : j = 0 ∨ j = 1 ∨ j = 2 ∨ j = 3 ∨ j = 4 ∨ j = 5 ∨ j = 6) with h | h | h | h | h | h | h <;> subst h <;> rfl
theorem bl_9 : ∀ j, j < 18 → defaultValue (tyX11 j) = vp_V [.int 0, .null, .null, .null, .null, .null, .null, .null, .null, .null, .null, .int 0, .null, .null, .int 0, .int 0, .int 0, .int 0] j := by
  intro j hj
  rcases (by omega : j = 0 ∨ j = 1 ∨ j = 2 ∨ j = 3 ∨ j = 4 ∨ j = 5 ∨ j = 6 ∨ j = 7 ∨ j = 8 ∨ j = 9 ∨ j = 10 ∨ j = 11 ∨ j = 12 ∨ j = 13 ∨ j = 14 ∨ j = 15 ∨ j = 16 ∨ j = 17) with h | h | h | h | h | h | h | h | h | h | h | h | h | h | h | h | h | h <;> subst h <;> rfl
theorem k_Big (l : Launch) (D : va_G) (cy : Nat → ClassId) (b n : Nat) (f : Nat → va_E) (h : Nat) (x : Int32) (hh : h < n) (hf : f h = .inr (0, [.null, .int 0])) {N0 : Nat} (hx : rr_mx x 4 = nI N0) (h4 : N0 ≤ 100) (h0 : ¬ nI N0 < 0) : rc_Met l D cy yX0_init cX0_init 2 1 23 1 N0 [.ref (b + h), .int x] b n f (fun n1 f1 => n1 = n + 1 ∧ f1 h = .inr (0, [.ref (b + n), .int 1]) ∧ f1 n = .inl (cy 12, N0, .inr (.inl (fun _ => 0))) ∧ ∀ i, i < n → i ≠ h → f1 i = f i) := by
  refine rc_enter (lv0 := [(0, .ref (b + h)), (1, .int x)]) hq_Big rfl (Nat.le_of_ble_eq_true rfl) rfl (fun X hll C => ?_)
  replace C : rc_C X D cy cX0_init 2 "RootRows$Big" 1 23 1 N0 b := C
  refine ry_aload_n C 0 dX0_init_0 rfl ?_
  refine ry_obj (rest := []) C q_154 q_23 q_24 (by decide) (by decide) (Nat.le_of_ble_eq_true rfl) dX0_init_1 ?_
  refine ry_aload_n C 0 dX0_init_4 rfl ?_
  refine ry_iload_n C 1 dX0_init_5 rfl ?_
  refine ry_iconst (v := 4) C dX0_init_6 rfl ?_
  refine ry_mmax (rest := [.ref (b + h)]) C q_155 (by decide) (by decide) (Nat.zero_le _) (Nat.zero_le _) (Nat.le_of_ble_eq_true rfl) hx dX0_init_7 ?_
  refine ry_newa_l (N0 := N0) C h0 (nI_clamp (by omega)) (by omega) (by omega) (by omega) dX0_init_10 ?_
  refine ry_put (i := h) (fs := [.null, .int 0]) (fs1 := [.ref (b + n), .int 0]) C 0 0 tyX0 tyX0_ok nmX0 inX0 rfl (by decide) q_158 rfl rfl (by omega) (by rw [va_up_ne _ _ (by omega), hf]) (Nat.le_of_ble_eq_true rfl) rfl rfl rfl dX0_init_12 ?_
  refine ry_aload_n C 0 dX0_init_15 rfl ?_
  refine ry_iconst (v := 1) C dX0_init_16 rfl ?_
  refine ry_put (i := h) (fs := [.ref (b + n), .int 0]) (fs1 := [.ref (b + n), .int 1]) C 0 1 tyX0 tyX0_ok nmX0 inX0 rfl (by decide) q_159 rfl rfl (by omega) (by rw [va_up_self]) (Nat.le_of_ble_eq_true rfl) rfl rfl rfl dX0_init_17 ?_
  have e1 : 0 + N0 = N0 := Nat.zero_add _
  rw [e1]
  exact ry_ret C dX0_init_20 ⟨rfl, by rw [va_up_self], by rw [va_up_ne _ _ (by omega), va_up_ne _ _ (by omega), va_up_self], fun i h1 h2 => by rw [va_up_ne _ _ h2, va_up_ne _ _ h2, va_up_ne _ _ (by omega)]⟩
theorem k_Mak (l : Launch) (D : va_G) (cy : Nat → ClassId) (b n : Nat) (f : Nat → va_E) (h : Nat) (hh : h < n) (hf : f h = .inr (2, [.null])) : rc_Met l D cy yX2_init cX2_init 1 1 20 1 17 [.ref (b + h)] b n f (fun n1 f1 => n1 = n + 1 ∧ f1 h = .inr (2, [.ref (b + n)]) ∧ f1 (n) = .inl (cy 12, 17, .inr (.inl (fun _ => 0))) ∧ ∀ i, i < n → i ≠ h → f1 i = f i) := by
  refine rc_enter (lv0 := [(0, .ref (b + h))]) hq_Mak rfl (Nat.le_of_ble_eq_true rfl) rfl (fun X hll C => ?_)
  replace C : rc_C X D cy cX2_init 1 "RootRows$Maker" 1 20 1 17 b := C
  refine ry_aload_n C 0 dX2_init_0 rfl ?_
  refine ry_obj (rest := []) C q_136 q_23 q_24 (by decide) (by decide) (Nat.le_of_ble_eq_true rfl) dX2_init_1 ?_
  refine ry_aload_n C 0 dX2_init_4 rfl ?_
  refine ry_bipush (v := 17) C dX2_init_5 rfl ?_
  refine ry_newa_l (N0 := 17) C (by decide) (by decide) (by decide) (by omega) (by omega) dX2_init_7 ?_
  refine ry_put (i := h) (fs := [.null]) (fs1 := [.ref (b + n)]) C 2 0 tyX2 tyX2_ok nmX2 inX2 rfl (by decide) q_137 rfl rfl (by omega) (by rw [va_up_ne _ _ (by omega), hf]) (Nat.le_of_ble_eq_true rfl) rfl rfl rfl dX2_init_9 ?_
  exact ry_ret C dX2_init_12 ⟨rfl, by rw [va_up_self], by rw [va_up_ne _ _ (by omega), va_up_self], fun i h1 h2 => by rw [va_up_ne _ _ (by omega), va_up_ne _ _ (by omega)]⟩
theorem k_Tap (l : Launch) (D : va_G) (cy : Nat → ClassId) (b n : Nat) (f : Nat → va_E) (h : Nat) (hh : h < n) (hf : f h = .inr (6, [.null, .int 0, .int 0, .null, .int 0, .int 0, .long 0, .int 0])) : rc_Met l D cy yX8_init cX8_init 1 1 20 2 209 [.ref (b + h)] b n f (fun n1 f1 => n1 = n + 2 ∧ f1 h = .inr (6, [.ref (b + n), .int 0, .int 0, .ref (b + (n + 1)), .int 0, .int 0, .long 0, .int 0]) ∧ f1 (n) = .inl (cy 11, 200, .inl (fun _ => 0)) ∧ f1 (n + 1) = .inl (cy 12, 9, .inr (.inl (fun _ => 0))) ∧ ∀ i, i < n → i ≠ h → f1 i = f i) := by
  refine rc_enter (lv0 := [(0, .ref (b + h))]) hq_Tap rfl (Nat.le_of_ble_eq_true rfl) rfl (fun X hll C => ?_)
  replace C : rc_C X D cy cX8_init 1 "RootRows$Tape" 1 20 2 209 b := C
  refine ry_aload_n C 0 dX8_init_0 rfl ?_
  refine ry_obj (rest := []) C q_102 q_23 q_24 (by decide) (by decide) (Nat.le_of_ble_eq_true rfl) dX8_init_1 ?_
  refine ry_aload_n C 0 dX8_init_4 rfl ?_
  refine ry_sipush (v := 200) C dX8_init_5 rfl ?_
  refine ry_newa_i (N0 := 200) C (by decide) (by decide) (by decide) (by omega) (by omega) dX8_init_8 ?_
  refine ry_put (i := h) (fs := [.null, .int 0, .int 0, .null, .int 0, .int 0, .long 0, .int 0]) (fs1 := [.ref (b + n), .int 0, .int 0, .null, .int 0, .int 0, .long 0, .int 0]) C 6 0 tyX8 tyX8_ok nmX8 inX8 rfl (by decide) q_103 rfl rfl (by omega) (by rw [va_up_ne _ _ (by omega), hf]) (Nat.le_of_ble_eq_true rfl) rfl rfl rfl dX8_init_10 ?_
  refine ry_aload_n C 0 dX8_init_13 rfl ?_
  refine ry_bipush (v := 9) C dX8_init_14 rfl ?_
  refine ry_newa_l (N0 := 9) C (by decide) (by decide) (by decide) (by omega) (by omega) dX8_init_16 ?_
  refine ry_put (i := h) (fs := [.ref (b + n), .int 0, .int 0, .null, .int 0, .int 0, .long 0, .int 0]) (fs1 := [.ref (b + n), .int 0, .int 0, .ref (b + (n + 1)), .int 0, .int 0, .long 0, .int 0]) C 6 3 tyX8 tyX8_ok nmX8 inX8 rfl (by decide) q_108 rfl rfl (by omega) (by rw [va_up_ne _ _ (by omega), va_up_self]) (Nat.le_of_ble_eq_true rfl) rfl rfl rfl dX8_init_18 ?_
  exact ry_ret C dX8_init_21 ⟨rfl, by rw [va_up_self], by rw [va_up_ne _ _ (by omega), va_up_ne _ _ (by omega), va_up_ne _ _ (by omega), va_up_self], by rw [va_up_ne _ _ (by omega), va_up_self], fun i h1 h2 => by rw [va_up_ne _ _ (by omega), va_up_ne _ _ (by omega), va_up_ne _ _ (by omega), va_up_ne _ _ (by omega)]⟩
theorem k_Tra (l : Launch) (D : va_G) (cy : Nat → ClassId) (b n : Nat) (f : Nat → va_E) (h : Nat) (hh : h < n) (hf : f h = .inr (7, [.null, .int 0, .int 0, .int 0, .int 0, .int 0, .int 0, .null, .null, .int 0, .null, .null, .null])) : rc_Met l D cy yX9_init cX9_init 1 1 20 6 53 [.ref (b + h)] b n f (fun n1 f1 => n1 = n + 6 ∧ f1 h = .inr (7, [.ref (b + n), .int 0, .int 0, .int 0, .int 0, .int 0, .int 0, .ref (b + (n + 1)), .ref (b + (n + 2)), .int 0, .ref (b + (n + 3)), .ref (b + (n + 4)), .ref (b + (n + 5))]) ∧ f1 (n) = .inl (cy 12, 9, .inr (.inl (fun _ => 0))) ∧ f1 (n + 1) = .inl (cy 11, 10, .inl (fun _ => 0)) ∧ f1 (n + 2) = .inl (cy 11, 10, .inl (fun _ => 0)) ∧ f1 (n + 3) = .inl (cy 12, 8, .inr (.inl (fun _ => 0))) ∧ f1 (n + 4) = .inl (cy 13, 8, .inl (fun _ => 0)) ∧ f1 (n + 5) = .inl (cy 11, 8, .inl (fun _ => 0)) ∧ ∀ i, i < n → i ≠ h → f1 i = f i) := by
  refine rc_enter (lv0 := [(0, .ref (b + h))]) hq_Tra rfl (Nat.le_of_ble_eq_true rfl) rfl (fun X hll C => ?_)
  replace C : rc_C X D cy cX9_init 1 "RootRows$Tray" 1 20 6 53 b := C
  refine ry_aload_n C 0 dX9_init_0 rfl ?_
  refine ry_obj (rest := []) C q_31 q_23 q_24 (by decide) (by decide) (Nat.le_of_ble_eq_true rfl) dX9_init_1 ?_
  refine ry_aload_n C 0 dX9_init_4 rfl ?_
  refine ry_bipush (v := 9) C dX9_init_5 rfl ?_
  refine ry_newa_l (N0 := 9) C (by decide) (by decide) (by decide) (by omega) (by omega) dX9_init_7 ?_
  refine ry_put (i := h) (fs := [.null, .int 0, .int 0, .int 0, .int 0, .int 0, .int 0, .null, .null, .int 0, .null, .null, .null]) (fs1 := [.ref (b + n), .int 0, .int 0, .int 0, .int 0, .int 0, .int 0, .null, .null, .int 0, .null, .null, .null]) C 7 0 tyX9 tyX9_ok nmX9 inX9 rfl (by decide) q_32 rfl rfl (by omega) (by rw [va_up_ne _ _ (by omega), hf]) (Nat.le_of_ble_eq_true rfl) rfl rfl rfl dX9_init_9 ?_
  refine ry_aload_n C 0 dX9_init_12 rfl ?_
  refine ry_bipush (v := 10) C dX9_init_13 rfl ?_
  refine ry_newa_i (N0 := 10) C (by decide) (by decide) (by decide) (by omega) (by omega) dX9_init_15 ?_
  refine ry_put (i := h) (fs := [.ref (b + n), .int 0, .int 0, .int 0, .int 0, .int 0, .int 0, .null, .null, .int 0, .null, .null, .null]) (fs1 := [.ref (b + n), .int 0, .int 0, .int 0, .int 0, .int 0, .int 0, .ref (b + (n + 1)), .null, .int 0, .null, .null, .null]) C 7 7 tyX9 tyX9_ok nmX9 inX9 rfl (by decide) q_52 rfl rfl (by omega) (by rw [va_up_ne _ _ (by omega), va_up_self]) (Nat.le_of_ble_eq_true rfl) rfl rfl rfl dX9_init_17 ?_
  refine ry_aload_n C 0 dX9_init_20 rfl ?_
  refine ry_bipush (v := 10) C dX9_init_21 rfl ?_
  refine ry_newa_i (N0 := 10) C (by decide) (by decide) (by decide) (by omega) (by omega) dX9_init_23 ?_
  refine ry_put (i := h) (fs := [.ref (b + n), .int 0, .int 0, .int 0, .int 0, .int 0, .int 0, .ref (b + (n + 1)), .null, .int 0, .null, .null, .null]) (fs1 := [.ref (b + n), .int 0, .int 0, .int 0, .int 0, .int 0, .int 0, .ref (b + (n + 1)), .ref (b + (n + 2)), .int 0, .null, .null, .null]) C 7 8 tyX9 tyX9_ok nmX9 inX9 rfl (by decide) q_55 rfl rfl (by omega) (by rw [va_up_ne _ _ (by omega), va_up_self]) (Nat.le_of_ble_eq_true rfl) rfl rfl rfl dX9_init_25 ?_
  refine ry_aload_n C 0 dX9_init_28 rfl ?_
  refine ry_bipush (v := 8) C dX9_init_29 rfl ?_
  refine ry_newa_l (N0 := 8) C (by decide) (by decide) (by decide) (by omega) (by omega) dX9_init_31 ?_
  refine ry_put (i := h) (fs := [.ref (b + n), .int 0, .int 0, .int 0, .int 0, .int 0, .int 0, .ref (b + (n + 1)), .ref (b + (n + 2)), .int 0, .null, .null, .null]) (fs1 := [.ref (b + n), .int 0, .int 0, .int 0, .int 0, .int 0, .int 0, .ref (b + (n + 1)), .ref (b + (n + 2)), .int 0, .ref (b + (n + 3)), .null, .null]) C 7 10 tyX9 tyX9_ok nmX9 inX9 rfl (by decide) q_60 rfl rfl (by omega) (by rw [va_up_ne _ _ (by omega), va_up_self]) (Nat.le_of_ble_eq_true rfl) rfl rfl rfl dX9_init_33 ?_
  refine ry_aload_n C 0 dX9_init_36 rfl ?_
  refine ry_bipush (v := 8) C dX9_init_37 rfl ?_
  refine ry_newa_z (N0 := 8) C (by decide) (by decide) (by decide) (by omega) (by omega) dX9_init_39 ?_
  refine ry_put (i := h) (fs := [.ref (b + n), .int 0, .int 0, .int 0, .int 0, .int 0, .int 0, .ref (b + (n + 1)), .ref (b + (n + 2)), .int 0, .ref (b + (n + 3)), .null, .null]) (fs1 := [.ref (b + n), .int 0, .int 0, .int 0, .int 0, .int 0, .int 0, .ref (b + (n + 1)), .ref (b + (n + 2)), .int 0, .ref (b + (n + 3)), .ref (b + (n + 4)), .null]) C 7 11 tyX9 tyX9_ok nmX9 inX9 rfl (by decide) q_62 rfl rfl (by omega) (by rw [va_up_ne _ _ (by omega), va_up_self]) (Nat.le_of_ble_eq_true rfl) rfl rfl rfl dX9_init_41 ?_
  refine ry_aload_n C 0 dX9_init_44 rfl ?_
  refine ry_bipush (v := 8) C dX9_init_45 rfl ?_
  refine ry_newa_i (N0 := 8) C (by decide) (by decide) (by decide) (by omega) (by omega) dX9_init_47 ?_
  refine ry_put (i := h) (fs := [.ref (b + n), .int 0, .int 0, .int 0, .int 0, .int 0, .int 0, .ref (b + (n + 1)), .ref (b + (n + 2)), .int 0, .ref (b + (n + 3)), .ref (b + (n + 4)), .null]) (fs1 := [.ref (b + n), .int 0, .int 0, .int 0, .int 0, .int 0, .int 0, .ref (b + (n + 1)), .ref (b + (n + 2)), .int 0, .ref (b + (n + 3)), .ref (b + (n + 4)), .ref (b + (n + 5))]) C 7 12 tyX9 tyX9_ok nmX9 inX9 rfl (by decide) q_64 rfl rfl (by omega) (by rw [va_up_ne _ _ (by omega), va_up_self]) (Nat.le_of_ble_eq_true rfl) rfl rfl rfl dX9_init_49 ?_
  exact ry_ret C dX9_init_52 ⟨rfl, by rw [va_up_self], by rw [va_up_ne _ _ (by omega), va_up_ne _ _ (by omega), va_up_ne _ _ (by omega), va_up_ne _ _ (by omega), va_up_ne _ _ (by omega), va_up_ne _ _ (by omega), va_up_ne _ _ (by omega), va_up_ne _ _ (by omega), va_up_ne _ _ (by omega), va_up_ne _ _ (by omega), va_up_ne _ _ (by omega), va_up_self], by rw [va_up_ne _ _ (by omega), va_up_ne _ _ (by omega), va_up_ne _ _ (by omega), va_up_ne _ _ (by omega), va_up_ne _ _ (by omega), va_up_ne _ _ (by omega), va_up_ne _ _ (by omega), va_up_ne _ _ (by omega), va_up_ne _ _ (by omega), va_up_self], by rw [va_up_ne _ _ (by omega), va_up_ne _ _ (by omega), va_up_ne _ _ (by omega), va_up_ne _ _ (by omega), va_up_ne _ _ (by omega), va_up_ne _ _ (by omega), va_up_ne _ _ (by omega), va_up_self], by rw [va_up_ne _ _ (by omega), va_up_ne _ _ (by omega), va_up_ne _ _ (by omega), va_up_ne _ _ (by omega), va_up_ne _ _ (by omega), va_up_self], by rw [va_up_ne _ _ (by omega), va_up_ne _ _ (by omega), va_up_ne _ _ (by omega), va_up_self], by rw [va_up_ne _ _ (by omega), va_up_self], fun i h1 h2 => by rw [va_up_ne _ _ (by omega), va_up_ne _ _ (by omega), va_up_ne _ _ (by omega), va_up_ne _ _ (by omega), va_up_ne _ _ (by omega), va_up_ne _ _ (by omega), va_up_ne _ _ (by omega), va_up_ne _ _ (by omega), va_up_ne _ _ (by omega), va_up_ne _ _ (by omega), va_up_ne _ _ (by omega), va_up_ne _ _ (by omega)]⟩
theorem k_Mod (l : Launch) (D : va_G) (cy : Nat → ClassId) (b n : Nat) (f : Nat → va_E) (h : Nat) (hh : h < n) (hf : f h = .inr (9, [.int 0, .null, .null, .null, .null, .null, .null, .null, .null, .null, .null, .int 0, .null, .null, .int 0, .int 0, .int 0, .int 0])) : rc_Met l D cy yX11_init cX11_init 1 1 20 12 94124 [.ref (b + h)] b n f (fun n1 f1 => n1 = n + 12 ∧ f1 h = .inr (9, [.int 0, .ref (b + n), .ref (b + (n + 1)), .ref (b + (n + 2)), .ref (b + (n + 3)), .ref (b + (n + 4)), .ref (b + (n + 5)), .ref (b + (n + 6)), .ref (b + (n + 7)), .ref (b + (n + 8)), .ref (b + (n + 9)), .int 0, .ref (b + (n + 10)), .ref (b + (n + 11)), .int 0, .int 0, .int 0, .int 0]) ∧ f1 (n) = .inl (cy 11, 92000, .inl (fun _ => 0)) ∧ f1 (n + 1) = .inl (cy 11, 460, .inl (fun _ => 0)) ∧ f1 (n + 2) = .inl (cy 11, 460, .inl (fun _ => 0)) ∧ f1 (n + 3) = .inl (cy 12, 401, .inr (.inl (fun _ => 0))) ∧ f1 (n + 4) = .inl (cy 12, 201, .inr (.inl (fun _ => 0))) ∧ f1 (n + 5) = .inl (cy 11, 48, .inl (fun _ => 0)) ∧ f1 (n + 6) = .inl (cy 11, 48, .inl (fun _ => 0)) ∧ f1 (n + 7) = .inl (cy 12, 207, .inr (.inl (fun _ => 0))) ∧ f1 (n + 8) = .inl (cy 11, 9, .inl (fun _ => 0)) ∧ f1 (n + 9) = .inl (cy 11, 9, .inl (fun _ => 0)) ∧ f1 (n + 10) = .inl (cy 12, 81, .inr (.inl (fun _ => 0))) ∧ f1 (n + 11) = .inl (cy 10, 200, .inl (fun _ => 0)) ∧ ∀ i, i < n → i ≠ h → f1 i = f i) := by
  refine rc_enter (lv0 := [(0, .ref (b + h))]) hq_Mod rfl (Nat.le_of_ble_eq_true rfl) rfl (fun X hll C => ?_)
  replace C : rc_C X D cy cX11_init 1 "RootRowsModel" 1 20 12 94124 b := C
  refine ry_aload_n C 0 dX11_init_0 rfl ?_
  refine ry_obj (rest := []) C q_839 q_23 q_24 (by decide) (by decide) (Nat.le_of_ble_eq_true rfl) dX11_init_1 ?_
  refine ry_aload_n C 0 dX11_init_4 rfl ?_
  refine ry_ldc C q_840 dX11_init_5 ?_
  refine ry_newa_i (N0 := 92000) C (by decide) (by decide) (by decide) (by omega) (by omega) dX11_init_7 ?_
  refine ry_put (i := h) (fs := [.int 0, .null, .null, .null, .null, .null, .null, .null, .null, .null, .null, .int 0, .null, .null, .int 0, .int 0, .int 0, .int 0]) (fs1 := [.int 0, .ref (b + n), .null, .null, .null, .null, .null, .null, .null, .null, .null, .int 0, .null, .null, .int 0, .int 0, .int 0, .int 0]) C 9 1 tyX11 tyX11_ok nmX11 inX11 rfl (by decide) q_842 rfl rfl (by omega) (by rw [va_up_ne _ _ (by omega), hf]) (Nat.le_of_ble_eq_true rfl) rfl rfl rfl dX11_init_9 ?_
  refine ry_aload_n C 0 dX11_init_12 rfl ?_
  refine ry_sipush (v := 460) C dX11_init_13 rfl ?_
  refine ry_newa_i (N0 := 460) C (by decide) (by decide) (by decide) (by omega) (by omega) dX11_init_16 ?_
  refine ry_put (i := h) (fs := [.int 0, .ref (b + n), .null, .null, .null, .null, .null, .null, .null, .null, .null, .int 0, .null, .null, .int 0, .int 0, .int 0, .int 0]) (fs1 := [.int 0, .ref (b + n), .ref (b + (n + 1)), .null, .null, .null, .null, .null, .null, .null, .null, .int 0, .null, .null, .int 0, .int 0, .int 0, .int 0]) C 9 2 tyX11 tyX11_ok nmX11 inX11 rfl (by decide) q_843 rfl rfl (by omega) (by rw [va_up_ne _ _ (by omega), va_up_self]) (Nat.le_of_ble_eq_true rfl) rfl rfl rfl dX11_init_18 ?_
  refine ry_aload_n C 0 dX11_init_21 rfl ?_
  refine ry_sipush (v := 460) C dX11_init_22 rfl ?_
  refine ry_newa_i (N0 := 460) C (by decide) (by decide) (by decide) (by omega) (by omega) dX11_init_25 ?_
  refine ry_put (i := h) (fs := [.int 0, .ref (b + n), .ref (b + (n + 1)), .null, .null, .null, .null, .null, .null, .null, .null, .int 0, .null, .null, .int 0, .int 0, .int 0, .int 0]) (fs1 := [.int 0, .ref (b + n), .ref (b + (n + 1)), .ref (b + (n + 2)), .null, .null, .null, .null, .null, .null, .null, .int 0, .null, .null, .int 0, .int 0, .int 0, .int 0]) C 9 3 tyX11 tyX11_ok nmX11 inX11 rfl (by decide) q_844 rfl rfl (by omega) (by rw [va_up_ne _ _ (by omega), va_up_self]) (Nat.le_of_ble_eq_true rfl) rfl rfl rfl dX11_init_27 ?_
  refine ry_aload_n C 0 dX11_init_30 rfl ?_
  refine ry_sipush (v := 401) C dX11_init_31 rfl ?_
  refine ry_newa_l (N0 := 401) C (by decide) (by decide) (by decide) (by omega) (by omega) dX11_init_34 ?_
  refine ry_put (i := h) (fs := [.int 0, .ref (b + n), .ref (b + (n + 1)), .ref (b + (n + 2)), .null, .null, .null, .null, .null, .null, .null, .int 0, .null, .null, .int 0, .int 0, .int 0, .int 0]) (fs1 := [.int 0, .ref (b + n), .ref (b + (n + 1)), .ref (b + (n + 2)), .ref (b + (n + 3)), .null, .null, .null, .null, .null, .null, .int 0, .null, .null, .int 0, .int 0, .int 0, .int 0]) C 9 4 tyX11 tyX11_ok nmX11 inX11 rfl (by decide) q_845 rfl rfl (by omega) (by rw [va_up_ne _ _ (by omega), va_up_self]) (Nat.le_of_ble_eq_true rfl) rfl rfl rfl dX11_init_36 ?_
  refine ry_aload_n C 0 dX11_init_39 rfl ?_
  refine ry_sipush (v := 201) C dX11_init_40 rfl ?_
  refine ry_newa_l (N0 := 201) C (by decide) (by decide) (by decide) (by omega) (by omega) dX11_init_43 ?_
  refine ry_put (i := h) (fs := [.int 0, .ref (b + n), .ref (b + (n + 1)), .ref (b + (n + 2)), .ref (b + (n + 3)), .null, .null, .null, .null, .null, .null, .int 0, .null, .null, .int 0, .int 0, .int 0, .int 0]) (fs1 := [.int 0, .ref (b + n), .ref (b + (n + 1)), .ref (b + (n + 2)), .ref (b + (n + 3)), .ref (b + (n + 4)), .null, .null, .null, .null, .null, .int 0, .null, .null, .int 0, .int 0, .int 0, .int 0]) C 9 5 tyX11 tyX11_ok nmX11 inX11 rfl (by decide) q_846 rfl rfl (by omega) (by rw [va_up_ne _ _ (by omega), va_up_self]) (Nat.le_of_ble_eq_true rfl) rfl rfl rfl dX11_init_45 ?_
  refine ry_aload_n C 0 dX11_init_48 rfl ?_
  refine ry_bipush (v := 48) C dX11_init_49 rfl ?_
  refine ry_newa_i (N0 := 48) C (by decide) (by decide) (by decide) (by omega) (by omega) dX11_init_51 ?_
  refine ry_put (i := h) (fs := [.int 0, .ref (b + n), .ref (b + (n + 1)), .ref (b + (n + 2)), .ref (b + (n + 3)), .ref (b + (n + 4)), .null, .null, .null, .null, .null, .int 0, .null, .null, .int 0, .int 0, .int 0, .int 0]) (fs1 := [.int 0, .ref (b + n), .ref (b + (n + 1)), .ref (b + (n + 2)), .ref (b + (n + 3)), .ref (b + (n + 4)), .ref (b + (n + 5)), .null, .null, .null, .null, .int 0, .null, .null, .int 0, .int 0, .int 0, .int 0]) C 9 6 tyX11 tyX11_ok nmX11 inX11 rfl (by decide) q_847 rfl rfl (by omega) (by rw [va_up_ne _ _ (by omega), va_up_self]) (Nat.le_of_ble_eq_true rfl) rfl rfl rfl dX11_init_53 ?_
  refine ry_aload_n C 0 dX11_init_56 rfl ?_
  refine ry_bipush (v := 48) C dX11_init_57 rfl ?_
  refine ry_newa_i (N0 := 48) C (by decide) (by decide) (by decide) (by omega) (by omega) dX11_init_59 ?_
  refine ry_put (i := h) (fs := [.int 0, .ref (b + n), .ref (b + (n + 1)), .ref (b + (n + 2)), .ref (b + (n + 3)), .ref (b + (n + 4)), .ref (b + (n + 5)), .null, .null, .null, .null, .int 0, .null, .null, .int 0, .int 0, .int 0, .int 0]) (fs1 := [.int 0, .ref (b + n), .ref (b + (n + 1)), .ref (b + (n + 2)), .ref (b + (n + 3)), .ref (b + (n + 4)), .ref (b + (n + 5)), .ref (b + (n + 6)), .null, .null, .null, .int 0, .null, .null, .int 0, .int 0, .int 0, .int 0]) C 9 7 tyX11 tyX11_ok nmX11 inX11 rfl (by decide) q_848 rfl rfl (by omega) (by rw [va_up_ne _ _ (by omega), va_up_self]) (Nat.le_of_ble_eq_true rfl) rfl rfl rfl dX11_init_61 ?_
  refine ry_aload_n C 0 dX11_init_64 rfl ?_
  refine ry_sipush (v := 207) C dX11_init_65 rfl ?_
  refine ry_newa_l (N0 := 207) C (by decide) (by decide) (by decide) (by omega) (by omega) dX11_init_68 ?_
  refine ry_put (i := h) (fs := [.int 0, .ref (b + n), .ref (b + (n + 1)), .ref (b + (n + 2)), .ref (b + (n + 3)), .ref (b + (n + 4)), .ref (b + (n + 5)), .ref (b + (n + 6)), .null, .null, .null, .int 0, .null, .null, .int 0, .int 0, .int 0, .int 0]) (fs1 := [.int 0, .ref (b + n), .ref (b + (n + 1)), .ref (b + (n + 2)), .ref (b + (n + 3)), .ref (b + (n + 4)), .ref (b + (n + 5)), .ref (b + (n + 6)), .ref (b + (n + 7)), .null, .null, .int 0, .null, .null, .int 0, .int 0, .int 0, .int 0]) C 9 8 tyX11 tyX11_ok nmX11 inX11 rfl (by decide) q_849 rfl rfl (by omega) (by rw [va_up_ne _ _ (by omega), va_up_self]) (Nat.le_of_ble_eq_true rfl) rfl rfl rfl dX11_init_70 ?_
  refine ry_aload_n C 0 dX11_init_73 rfl ?_
  refine ry_bipush (v := 9) C dX11_init_74 rfl ?_
  refine ry_newa_i (N0 := 9) C (by decide) (by decide) (by decide) (by omega) (by omega) dX11_init_76 ?_
  refine ry_put (i := h) (fs := [.int 0, .ref (b + n), .ref (b + (n + 1)), .ref (b + (n + 2)), .ref (b + (n + 3)), .ref (b + (n + 4)), .ref (b + (n + 5)), .ref (b + (n + 6)), .ref (b + (n + 7)), .null, .null, .int 0, .null, .null, .int 0, .int 0, .int 0, .int 0]) (fs1 := [.int 0, .ref (b + n), .ref (b + (n + 1)), .ref (b + (n + 2)), .ref (b + (n + 3)), .ref (b + (n + 4)), .ref (b + (n + 5)), .ref (b + (n + 6)), .ref (b + (n + 7)), .ref (b + (n + 8)), .null, .int 0, .null, .null, .int 0, .int 0, .int 0, .int 0]) C 9 9 tyX11 tyX11_ok nmX11 inX11 rfl (by decide) q_850 rfl rfl (by omega) (by rw [va_up_ne _ _ (by omega), va_up_self]) (Nat.le_of_ble_eq_true rfl) rfl rfl rfl dX11_init_78 ?_
  refine ry_aload_n C 0 dX11_init_81 rfl ?_
  refine ry_bipush (v := 9) C dX11_init_82 rfl ?_
  refine ry_newa_i (N0 := 9) C (by decide) (by decide) (by decide) (by omega) (by omega) dX11_init_84 ?_
  refine ry_put (i := h) (fs := [.int 0, .ref (b + n), .ref (b + (n + 1)), .ref (b + (n + 2)), .ref (b + (n + 3)), .ref (b + (n + 4)), .ref (b + (n + 5)), .ref (b + (n + 6)), .ref (b + (n + 7)), .ref (b + (n + 8)), .null, .int 0, .null, .null, .int 0, .int 0, .int 0, .int 0]) (fs1 := [.int 0, .ref (b + n), .ref (b + (n + 1)), .ref (b + (n + 2)), .ref (b + (n + 3)), .ref (b + (n + 4)), .ref (b + (n + 5)), .ref (b + (n + 6)), .ref (b + (n + 7)), .ref (b + (n + 8)), .ref (b + (n + 9)), .int 0, .null, .null, .int 0, .int 0, .int 0, .int 0]) C 9 10 tyX11 tyX11_ok nmX11 inX11 rfl (by decide) q_851 rfl rfl (by omega) (by rw [va_up_ne _ _ (by omega), va_up_self]) (Nat.le_of_ble_eq_true rfl) rfl rfl rfl dX11_init_86 ?_
  refine ry_aload_n C 0 dX11_init_89 rfl ?_
  refine ry_bipush (v := 81) C dX11_init_90 rfl ?_
  refine ry_newa_l (N0 := 81) C (by decide) (by decide) (by decide) (by omega) (by omega) dX11_init_92 ?_
  refine ry_put (i := h) (fs := [.int 0, .ref (b + n), .ref (b + (n + 1)), .ref (b + (n + 2)), .ref (b + (n + 3)), .ref (b + (n + 4)), .ref (b + (n + 5)), .ref (b + (n + 6)), .ref (b + (n + 7)), .ref (b + (n + 8)), .ref (b + (n + 9)), .int 0, .null, .null, .int 0, .int 0, .int 0, .int 0]) (fs1 := [.int 0, .ref (b + n), .ref (b + (n + 1)), .ref (b + (n + 2)), .ref (b + (n + 3)), .ref (b + (n + 4)), .ref (b + (n + 5)), .ref (b + (n + 6)), .ref (b + (n + 7)), .ref (b + (n + 8)), .ref (b + (n + 9)), .int 0, .ref (b + (n + 10)), .null, .int 0, .int 0, .int 0, .int 0]) C 9 12 tyX11 tyX11_ok nmX11 inX11 rfl (by decide) q_853 rfl rfl (by omega) (by rw [va_up_ne _ _ (by omega), va_up_self]) (Nat.le_of_ble_eq_true rfl) rfl rfl rfl dX11_init_94 ?_
  refine ry_aload_n C 0 dX11_init_97 rfl ?_
  refine ry_sipush (v := 200) C dX11_init_98 rfl ?_
  refine ry_newa_b (N0 := 200) C (by decide) (by decide) (by decide) (by omega) (by omega) dX11_init_101 ?_
  refine ry_put (i := h) (fs := [.int 0, .ref (b + n), .ref (b + (n + 1)), .ref (b + (n + 2)), .ref (b + (n + 3)), .ref (b + (n + 4)), .ref (b + (n + 5)), .ref (b + (n + 6)), .ref (b + (n + 7)), .ref (b + (n + 8)), .ref (b + (n + 9)), .int 0, .ref (b + (n + 10)), .null, .int 0, .int 0, .int 0, .int 0]) (fs1 := [.int 0, .ref (b + n), .ref (b + (n + 1)), .ref (b + (n + 2)), .ref (b + (n + 3)), .ref (b + (n + 4)), .ref (b + (n + 5)), .ref (b + (n + 6)), .ref (b + (n + 7)), .ref (b + (n + 8)), .ref (b + (n + 9)), .int 0, .ref (b + (n + 10)), .ref (b + (n + 11)), .int 0, .int 0, .int 0, .int 0]) C 9 13 tyX11 tyX11_ok nmX11 inX11 rfl (by decide) q_854 rfl rfl (by omega) (by rw [va_up_ne _ _ (by omega), va_up_self]) (Nat.le_of_ble_eq_true rfl) rfl rfl rfl dX11_init_103 ?_
  exact ry_ret C dX11_init_106 ⟨rfl, by rw [va_up_self], by rw [va_up_ne _ _ (by omega), va_up_ne _ _ (by omega), va_up_ne _ _ (by omega), va_up_ne _ _ (by omega), va_up_ne _ _ (by omega), va_up_ne _ _ (by omega), va_up_ne _ _ (by omega), va_up_ne _ _ (by omega), va_up_ne _ _ (by omega), va_up_ne _ _ (by omega), va_up_ne _ _ (by omega), va_up_ne _ _ (by omega), va_up_ne _ _ (by omega), va_up_ne _ _ (by omega), va_up_ne _ _ (by omega), va_up_ne _ _ (by omega), va_up_ne _ _ (by omega), va_up_ne _ _ (by omega), va_up_ne _ _ (by omega), va_up_ne _ _ (by omega), va_up_ne _ _ (by omega), va_up_ne _ _ (by omega), va_up_ne _ _ (by omega), va_up_self], by rw [va_up_ne _ _ (by omega), va_up_ne _ _ (by omega), va_up_ne _ _ (by omega), va_up_ne _ _ (by omega), va_up_ne _ _ (by omega), va_up_ne _ _ (by omega), va_up_ne _ _ (by omega), va_up_ne _ _ (by omega), va_up_ne _ _ (by omega), va_up_ne _ _ (by omega), va_up_ne _ _ (by omega), va_up_ne _ _ (by omega), va_up_ne _ _ (by omega), va_up_ne _ _ (by omega), va_up_ne _ _ (by omega), va_up_ne _ _ (by omega), va_up_ne _ _ (by omega), va_up_ne _ _ (by omega), va_up_ne _ _ (by omega), va_up_ne _ _ (by omega), va_up_ne _ _ (by omega), va_up_self], by rw [va_up_ne _ _ (by omega), va_up_ne _ _ (by omega), va_up_ne _ _ (by omega), va_up_ne _ _ (by omega), va_up_ne _ _ (by omega), va_up_ne _ _ (by omega), va_up_ne _ _ (by omega), va_up_ne _ _ (by omega), va_up_ne _ _ (by omega), va_up_ne _ _ (by omega), va_up_ne _ _ (by omega), va_up_ne _ _ (by omega), va_up_ne _ _ (by omega), va_up_ne _ _ (by omega), va_up_ne _ _ (by omega), va_up_ne _ _ (by omega), va_up_ne _ _ (by omega), va_up_ne _ _ (by omega), va_up_ne _ _ (by omega), va_up_self], by rw [va_up_ne _ _ (by omega), va_up_ne _ _ (by omega), va_up_ne _ _ (by omega), va_up_ne _ _ (by omega), va_up_ne _ _ (by omega), va_up_ne _ _ (by omega), va_up_ne _ _ (by omega), va_up_ne _ _ (by omega), va_up_ne _ _ (by omega), va_up_ne _ _ (by omega), va_up_ne _ _ (by omega), va_up_ne _ _ (by omega), va_up_ne _ _ (by omega), va_up_ne _ _ (by omega), va_up_ne _ _ (by omega), va_up_ne _ _ (by omega), va_up_ne _ _ (by omega), va_up_self], by rw [va_up_ne _ _ (by omega), va_up_ne _ _ (by omega), va_up_ne _ _ (by omega), va_up_ne _ _ (by omega), va_up_ne _ _ (by omega), va_up_ne _ _ (by omega), va_up_ne _ _ (by omega), va_up_ne _ _ (by omega), va_up_ne _ _ (by omega), va_up_ne _ _ (by omega), va_up_ne _ _ (by omega), va_up_ne _ _ (by omega), va_up_ne _ _ (by omega), va_up_ne _ _ (by omega), va_up_ne _ _ (by omega), va_up_self], by rw [va_up_ne _ _ (by omega), va_up_ne _ _ (by omega), va_up_ne _ _ (by omega), va_up_ne _ _ (by omega), va_up_ne _ _ (by omega), va_up_ne _ _ (by omega), va_up_ne _ _ (by omega), va_up_ne _ _ (by omega), va_up_ne _ _ (by omega), va_up_ne _ _ (by omega), va_up_ne _ _ (by omega), va_up_ne _ _ (by omega), va_up_ne _ _ (by omega), va_up_self], by rw [va_up_ne _ _ (by omega), va_up_ne _ _ (by omega), va_up_ne _ _ (by omega), va_up_ne _ _ (by omega), va_up_ne _ _ (by omega), va_up_ne _ _ (by omega), va_up_ne _ _ (by omega), va_up_ne _ _ (by omega), va_up_ne _ _ (by omega), va_up_ne _ _ (by omega), va_up_ne _ _ (by omega), va_up_self], by rw [va_up_ne _ _ (by omega), va_up_ne _ _ (by omega), va_up_ne _ _ (by omega), va_up_ne _ _ (by omega), va_up_ne _ _ (by omega), va_up_ne _ _ (by omega), va_up_ne _ _ (by omega), va_up_ne _ _ (by omega), va_up_ne _ _ (by omega), va_up_self], by rw [va_up_ne _ _ (by omega), va_up_ne _ _ (by omega), va_up_ne _ _ (by omega), va_up_ne _ _ (by omega), va_up_ne _ _ (by omega), va_up_ne _ _ (by omega), va_up_ne _ _ (by omega), va_up_self], by rw [va_up_ne _ _ (by omega), va_up_ne _ _ (by omega), va_up_ne _ _ (by omega), va_up_ne _ _ (by omega), va_up_ne _ _ (by omega), va_up_self], by rw [va_up_ne _ _ (by omega), va_up_ne _ _ (by omega), va_up_ne _ _ (by omega), va_up_self], by rw [va_up_ne _ _ (by omega), va_up_self], fun i h1 h2 => by rw [va_up_ne _ _ (by omega), va_up_ne _ _ (by omega), va_up_ne _ _ (by omega), va_up_ne _ _ (by omega), va_up_ne _ _ (by omega), va_up_ne _ _ (by omega), va_up_ne _ _ (by omega), va_up_ne _ _ (by omega), va_up_ne _ _ (by omega), va_up_ne _ _ (by omega), va_up_ne _ _ (by omega), va_up_ne _ _ (by omega), va_up_ne _ _ (by omega), va_up_ne _ _ (by omega), va_up_ne _ _ (by omega), va_up_ne _ _ (by omega), va_up_ne _ _ (by omega), va_up_ne _ _ (by omega), va_up_ne _ _ (by omega), va_up_ne _ _ (by omega), va_up_ne _ _ (by omega), va_up_ne _ _ (by omega), va_up_ne _ _ (by omega), va_up_ne _ _ (by omega)]⟩
theorem k_Lev (l : Launch) (D : va_G) (cy : Nat → ClassId) (b n : Nat) (f : Nat → va_E) (h q : Nat) (hh : h < n) (hf : f h = .inr (1, [.null, .null, .int 0, .null, .null])) : rc_Met l D cy yX1_init cX1_init 2 1 20 12 108 [.ref (b + h), .ref (b + q)] b n f (fun n1 f1 => n1 = n + 12 ∧ f1 h = .inr (1, [.ref (b + n), .ref (b + (n + 10)), .int 0, .ref (b + q), .ref (b + (n + 11))]) ∧ f1 n = .inl (cy 16, 9, .inr (.inr (.inr (.inr (fun j => if j < 9 then some (b + (n + 1 + j)) else none))))) ∧ (∀ j, j < 9 → f1 (n + 1 + j) = .inl (cy 12, 9, .inr (.inl (fun _ => 0)))) ∧ f1 (n + 10) = .inl (cy 11, 9, .inl (fun _ => 0)) ∧ f1 (n + 11) = .inl (cy 12, 9, .inr (.inl (fun _ => 0))) ∧ ∀ i, i < n → i ≠ h → f1 i = f i) := by
  refine rc_enter (lv0 := [(0, .ref (b + h)), (1, .ref (b + q))]) hq_Lev rfl (Nat.le_of_ble_eq_true rfl) rfl (fun X hll C => ?_)
  replace C : rc_C X D cy cX1_init 2 "RootRows$Levels" 1 20 12 108 b := C
  refine ry_aload_n C 0 dX1_init_0 rfl ?_
  refine ry_obj (rest := []) C q_239 q_23 q_24 (by decide) (by decide) (Nat.le_of_ble_eq_true rfl) dX1_init_1 ?_
  refine ry_aload_n C 0 dX1_init_4 rfl ?_
  refine ry_bipush (v := 9) C dX1_init_5 rfl ?_
  refine ry_bipush (v := 9) C dX1_init_7 rfl ?_
  refine ry_mna C q_240 (by omega) (by omega) dX1_init_9 (fun g0 g0_1 g0_2 g0_3 => ?_)
  refine ry_put (i := h) (fs := [.null, .null, .int 0, .null, .null]) (fs1 := [.ref (b + n), .null, .int 0, .null, .null]) C 1 0 tyX1 tyX1_ok nmX1 inX1 rfl (by decide) q_242 rfl rfl (by omega) (by rw [g0_3 _ (by omega), hf]) (Nat.le_of_ble_eq_true rfl) rfl rfl rfl dX1_init_13 ?_
  refine ry_aload_n C 0 dX1_init_16 rfl ?_
  refine ry_bipush (v := 9) C dX1_init_17 rfl ?_
  refine ry_newa_i (N0 := 9) C (by decide) (by decide) (by decide) (by omega) (by omega) dX1_init_19 ?_
  refine ry_put (i := h) (fs := [.ref (b + n), .null, .int 0, .null, .null]) (fs1 := [.ref (b + n), .ref (b + (n + 10)), .int 0, .null, .null]) C 1 1 tyX1 tyX1_ok nmX1 inX1 rfl (by decide) q_244 rfl rfl (by omega) (by rw [va_up_ne _ _ (by omega), va_up_self]) (Nat.le_of_ble_eq_true rfl) rfl rfl rfl dX1_init_21 ?_
  refine ry_aload_n C 0 dX1_init_24 rfl ?_
  refine ry_bipush (v := 9) C dX1_init_25 rfl ?_
  refine ry_newa_l (N0 := 9) C (by decide) (by decide) (by decide) (by omega) (by omega) dX1_init_27 ?_
  refine ry_put (i := h) (fs := [.ref (b + n), .ref (b + (n + 10)), .int 0, .null, .null]) (fs1 := [.ref (b + n), .ref (b + (n + 10)), .int 0, .null, .ref (b + (n + 11))]) C 1 4 tyX1 tyX1_ok nmX1 inX1 rfl (by decide) q_249 rfl rfl (by omega) (by rw [va_up_ne _ _ (by omega), va_up_self]) (Nat.le_of_ble_eq_true rfl) rfl rfl rfl dX1_init_29 ?_
  refine ry_aload_n C 0 dX1_init_32 rfl ?_
  refine ry_aload_n C 1 dX1_init_33 rfl ?_
  refine ry_put (i := h) (fs := [.ref (b + n), .ref (b + (n + 10)), .int 0, .null, .ref (b + (n + 11))]) (fs1 := [.ref (b + n), .ref (b + (n + 10)), .int 0, .ref (b + q), .ref (b + (n + 11))]) C 1 3 tyX1 tyX1_ok nmX1 inX1 rfl (by decide) q_248 rfl rfl (by omega) (by rw [va_up_self]) (Nat.le_of_ble_eq_true rfl) rfl rfl rfl dX1_init_34 ?_
  exact ry_ret C dX1_init_37 ⟨rfl, by rw [va_up_self], by rw [va_up_ne _ _ (by omega), va_up_ne _ _ (by omega), va_up_ne _ _ (by omega), va_up_ne _ _ (by omega), va_up_ne _ _ (by omega), va_up_ne _ _ (by omega), g0_1], fun j hj => by rw [va_up_ne _ _ (by omega), va_up_ne _ _ (by omega), va_up_ne _ _ (by omega), va_up_ne _ _ (by omega), va_up_ne _ _ (by omega), va_up_ne _ _ (by omega), g0_2 j hj], by rw [va_up_ne _ _ (by omega), va_up_ne _ _ (by omega), va_up_ne _ _ (by omega), va_up_ne _ _ (by omega), va_up_self], by rw [va_up_ne _ _ (by omega), va_up_ne _ _ (by omega), va_up_self], fun i h1 h2 => by rw [va_up_ne _ _ (by omega), va_up_ne _ _ (by omega), va_up_ne _ _ (by omega), va_up_ne _ _ (by omega), va_up_ne _ _ (by omega), va_up_ne _ _ (by omega), g0_3 _ (by omega)]⟩
theorem kl_Seq1 {X : rr_X} {D : va_G} {cy : Nat → ClassId} {l : Launch} {Q : State → Prop} {lo mc ms b : Nat} {fr : Nat} (hfr : 2 ≤ fr) (hlo : 44 ≤ lo) (hll : X.2.1 = l) (C : rc_C X D cy cX7_init 2 "RootRows$Sequence" fr lo mc ms b) (base h ar ce0 sl0 : Nat) (f0 : Nat → va_E) (OBJ : List Value) (hh : h < base) (ha : ar < base) (hne : h ≠ ar) (hce : ce0 + 180 ≤ mc) (hsl : sl0 + 2340 ≤ ms) (hf0 : f0 h = .inr (5, OBJ)) (hv : OBJ[0]? = some (.ref (b + ar))) (kont : ∀ f1 : Nat → va_E, f1 ar = .inl (cy 14, 90, .inr (.inr (.inr (.inr (fun j => if j < 90 then some (b + (base + 2 * j)) else none))))) → (∀ j, j < 90 → f1 (base + 2 * j) = .inr (0, [.ref (b + (base + 2 * j + 1)), .int 1]) ∧ f1 (base + 2 * j + 1) = .inl (cy 12, 24, .inr (.inl (fun _ => 0)))) → (∀ i, i < base → i ≠ ar → f1 i = f0 i) → rc_J X D 2 Q b (base + 180) f1 (ce0 + 180) (sl0 + 2340) 161 [(1, .int (nI 90)), (0, .ref (b + h))] []) : ∀ (z k : Nat), k + z = 90 → ∀ f : Nat → va_E, f ar = .inl (cy 14, 90, .inr (.inr (.inr (.inr (fun j => if j < k then some (b + (base + 2 * j)) else none))))) → (∀ j, j < k → f (base + 2 * j) = .inr (0, [.ref (b + (base + 2 * j + 1)), .int 1]) ∧ f (base + 2 * j + 1) = .inl (cy 12, 24, .inr (.inl (fun _ => 0)))) → (∀ i, i < base → i ≠ ar → f i = f0 i) → rc_J X D 2 Q b (base + 2 * k) f (ce0 + 2 * k) (sl0 + 26 * k) 131 [(1, .int (nI k)), (0, .ref (b + h))] [] := by
  intro z
  induction z with
  | zero =>
    intro k hk f har hbg hot
    have hk : k = 90 := by omega
    subst hk
    refine ry_iload_n C 0 dX7_init_131 rfl ?_
    refine ry_aload_n C 1 dX7_init_132 rfl ?_
    refine ry_get (i := h) (fs := OBJ) (v := .ref (b + ar)) C 5 0 inX7 rfl (by decide) q_165 (by omega) (by rw [hot _ (by omega) (by omega), hf0]) hv dX7_init_133 ?_
    refine ry_alen (kd := 14) (v := nI 90) C (Or.inl rfl) (by omega) har rfl dX7_init_136 ?_
    refine ry_icmp_ge (tgt := 161) C dX7_init_137 (by decide) (fun hc => ?_) (fun hc => ?_)
    · exact kont f har hbg hot
    · exact absurd (nI_le (Nat.le_refl _) (by omega)) hc
  | succ z ih =>
    intro k hk f har hbg hot
    refine ry_iload_n C 0 dX7_init_131 rfl ?_
    refine ry_aload_n C 1 dX7_init_132 rfl ?_
    refine ry_get (i := h) (fs := OBJ) (v := .ref (b + ar)) C 5 0 inX7 rfl (by decide) q_165 (by omega) (by rw [hot _ (by omega) (by omega), hf0]) hv dX7_init_133 ?_
    refine ry_alen (kd := 14) (v := nI 90) C (Or.inl rfl) (by omega) har rfl dX7_init_136 ?_
    refine ry_icmp_ge (tgt := 161) C dX7_init_137 (by decide) (fun hc => ?_) (fun hc => ?_)
    · exact absurd ((nI_leI (by omega) (by omega)).mp hc) (by omega)
    refine ry_aload_n C 1 dX7_init_140 rfl ?_
    refine ry_get (i := h) (fs := OBJ) (v := .ref (b + ar)) C 5 0 inX7 rfl (by decide) q_165 (by omega) (by rw [hot _ (by omega) (by omega), hf0]) hv dX7_init_141 ?_
    refine ry_iload_n C 0 dX7_init_144 rfl ?_
    refine ry_new (ci := 0) (fs := [.null, .int 0]) C tyX0 tyX0_ok inX0 rfl q_148 q_150 q_6 bl_0 (by omega) (by omega) dX7_init_145 ?_
    refine ry_dup C dX7_init_148 rfl ?_
    refine ry_bipush (v := 24) C dX7_init_149 rfl ?_
    refine ry_call (i := base + 2 * k) (rest := [.ref (b + (base + 2 * k)), .int (nI k), .ref (b + ar)]) C hll (k_Big l D cy b (base + 2 * k + 1) _ (base + 2 * k) 24 (by omega) (by rw [va_up_self]) (N0 := 24) rfl (by decide) (by decide)) q_151 q_152 q_6 q_153 rfl hk_Big ⟨by omega, by omega⟩ (by omega) (by omega) rfl rfl (Nat.le_of_ble_eq_true rfl) dX7_init_151 (fun nF fF hF => ?_)
    obtain ⟨eF, hF1, hF2, hF3⟩ := hF
    subst eF
    refine ry_aast (t0 := 4) (kd := 14) (ci := 0) (r := (RX0, TX0, 2)) (vs := [.ref (b + (base + 2 * k + 1)), .int 1]) (g := fun j => if j < k then some (b + (base + 2 * j)) else none) (N0 := 90) C rfl rfl (by omega) (by rw [hF3 _ (by omega) (by omega), va_up_ne _ _ (by omega), har]) (by omega) hF1 (vp_in_nI (by omega) (by omega)) dX7_init_154 ?_
    refine ry_iinc (v := nI (k + 1)) (lv1 := [(1, .int (nI (k + 1))), (0, .ref (b + h))]) C 0 dX7_init_155 rfl (nI_1 k) (by omega) rfl ?_
    refine ry_goto (tgt := 131) C dX7_init_158 (by decide) ?_
    rw [show base + 2 * k + 1 + 1 = base + 2 * (k + 1) by omega, show ce0 + 2 * k + 1 + 1 = ce0 + 2 * (k + 1) by omega, show sl0 + 26 * k + 2 + 24 = sl0 + 26 * (k + 1) by omega]
    refine ih (k + 1) (by omega) _ ?_ ?_ ?_
    · rw [va_up_self]
      congr 7
      funext j
      rw [nI_clamp (by omega)]
      by_cases hj : j = k
      · subst hj
        rw [va_up_self, if_pos (by omega)]
      · rw [va_up_ne _ _ hj]
        by_cases h2 : j < k
        · rw [if_pos h2, if_pos (by omega)]
        · rw [if_neg h2, if_neg (by omega)]
    · intro j hj
      by_cases h2 : j = k
      · subst h2
        exact ⟨by rw [va_up_ne _ _ (by omega), hF1], by rw [va_up_ne _ _ (by omega), hF2]⟩
      · have h3 := hbg j (by omega)
        exact ⟨by rw [va_up_ne _ _ (by omega), hF3 _ (by omega) (by omega), va_up_ne _ _ (by omega), h3.1], by rw [va_up_ne _ _ (by omega), hF3 _ (by omega) (by omega), va_up_ne _ _ (by omega), h3.2]⟩
    · intro i h1 h2
      rw [va_up_ne _ _ h2, hF3 _ (by omega) (by omega), va_up_ne _ _ (by omega)]
      exact hot i h1 h2
theorem kl_Seq2 {X : rr_X} {D : va_G} {cy : Nat → ClassId} {l : Launch} {Q : State → Prop} {lo mc ms b : Nat} {fr : Nat} (hfr : 2 ≤ fr) (hlo : 44 ≤ lo) (hll : X.2.1 = l) (C : rc_C X D cy cX7_init 2 "RootRows$Sequence" fr lo mc ms b) (base h ar ce0 sl0 : Nat) (f0 : Nat → va_E) (OBJ : List Value) (hh : h < base) (ha : ar < base) (hne : h ≠ ar) (hce : ce0 + 18 ≤ mc) (hsl : sl0 + 882 ≤ ms) (hf0 : f0 h = .inr (5, OBJ)) (hv : OBJ[4]? = some (.ref (b + ar))) (kont : ∀ f1 : Nat → va_E, f1 ar = .inl (cy 14, 9, .inr (.inr (.inr (.inr (fun j => if j < 9 then some (b + (base + 2 * j)) else none))))) → (∀ j, j < 9 → f1 (base + 2 * j) = .inr (0, [.ref (b + (base + 2 * j + 1)), .int 1]) ∧ f1 (base + 2 * j + 1) = .inl (cy 12, 96, .inr (.inl (fun _ => 0)))) → (∀ i, i < base → i ≠ ar → f1 i = f0 i) → rc_J X D 2 Q b (base + 18) f1 (ce0 + 18) (sl0 + 882) 190 [(1, .int (nI 9)), (0, .ref (b + h))] []) : ∀ (z k : Nat), k + z = 9 → ∀ f : Nat → va_E, f ar = .inl (cy 14, 9, .inr (.inr (.inr (.inr (fun j => if j < k then some (b + (base + 2 * j)) else none))))) → (∀ j, j < k → f (base + 2 * j) = .inr (0, [.ref (b + (base + 2 * j + 1)), .int 1]) ∧ f (base + 2 * j + 1) = .inl (cy 12, 96, .inr (.inl (fun _ => 0)))) → (∀ i, i < base → i ≠ ar → f i = f0 i) → rc_J X D 2 Q b (base + 2 * k) f (ce0 + 2 * k) (sl0 + 98 * k) 163 [(1, .int (nI k)), (0, .ref (b + h))] [] := by
  intro z
  induction z with
  | zero =>
    intro k hk f har hbg hot
    have hk : k = 9 := by omega
    subst hk
    refine ry_iload_n C 0 dX7_init_163 rfl ?_
    refine ry_bipush (v := nI 9) C dX7_init_164 rfl ?_
    refine ry_icmp_ge (tgt := 190) C dX7_init_166 (by decide) (fun hc => ?_) (fun hc => ?_)
    · exact kont f har hbg hot
    · exact absurd (nI_le (Nat.le_refl _) (by omega)) hc
  | succ z ih =>
    intro k hk f har hbg hot
    refine ry_iload_n C 0 dX7_init_163 rfl ?_
    refine ry_bipush (v := nI 9) C dX7_init_164 rfl ?_
    refine ry_icmp_ge (tgt := 190) C dX7_init_166 (by decide) (fun hc => ?_) (fun hc => ?_)
    · exact absurd ((nI_leI (by omega) (by omega)).mp hc) (by omega)
    refine ry_aload_n C 1 dX7_init_169 rfl ?_
    refine ry_get (i := h) (fs := OBJ) (v := .ref (b + ar)) C 5 4 inX7 rfl (by decide) q_177 (by omega) (by rw [hot _ (by omega) (by omega), hf0]) hv dX7_init_170 ?_
    refine ry_iload_n C 0 dX7_init_173 rfl ?_
    refine ry_new (ci := 0) (fs := [.null, .int 0]) C tyX0 tyX0_ok inX0 rfl q_148 q_150 q_6 bl_0 (by omega) (by omega) dX7_init_174 ?_
    refine ry_dup C dX7_init_177 rfl ?_
    refine ry_bipush (v := 96) C dX7_init_178 rfl ?_
    refine ry_call (i := base + 2 * k) (rest := [.ref (b + (base + 2 * k)), .int (nI k), .ref (b + ar)]) C hll (k_Big l D cy b (base + 2 * k + 1) _ (base + 2 * k) 96 (by omega) (by rw [va_up_self]) (N0 := 96) rfl (by decide) (by decide)) q_151 q_152 q_6 q_153 rfl hk_Big ⟨by omega, by omega⟩ (by omega) (by omega) rfl rfl (Nat.le_of_ble_eq_true rfl) dX7_init_180 (fun nF fF hF => ?_)
    obtain ⟨eF, hF1, hF2, hF3⟩ := hF
    subst eF
    refine ry_aast (t0 := 4) (kd := 14) (ci := 0) (r := (RX0, TX0, 2)) (vs := [.ref (b + (base + 2 * k + 1)), .int 1]) (g := fun j => if j < k then some (b + (base + 2 * j)) else none) (N0 := 9) C rfl rfl (by omega) (by rw [hF3 _ (by omega) (by omega), va_up_ne _ _ (by omega), har]) (by omega) hF1 (vp_in_nI (by omega) (by omega)) dX7_init_183 ?_
    refine ry_iinc (v := nI (k + 1)) (lv1 := [(1, .int (nI (k + 1))), (0, .ref (b + h))]) C 0 dX7_init_184 rfl (nI_1 k) (by omega) rfl ?_
    refine ry_goto (tgt := 163) C dX7_init_187 (by decide) ?_
    rw [show base + 2 * k + 1 + 1 = base + 2 * (k + 1) by omega, show ce0 + 2 * k + 1 + 1 = ce0 + 2 * (k + 1) by omega, show sl0 + 98 * k + 2 + 96 = sl0 + 98 * (k + 1) by omega]
    refine ih (k + 1) (by omega) _ ?_ ?_ ?_
    · rw [va_up_self]
      congr 7
      funext j
      rw [nI_clamp (by omega)]
      by_cases hj : j = k
      · subst hj
        rw [va_up_self, if_pos (by omega)]
      · rw [va_up_ne _ _ hj]
        by_cases h2 : j < k
        · rw [if_pos h2, if_pos (by omega)]
        · rw [if_neg h2, if_neg (by omega)]
    · intro j hj
      by_cases h2 : j = k
      · subst h2
        exact ⟨by rw [va_up_ne _ _ (by omega), hF1], by rw [va_up_ne _ _ (by omega), hF2]⟩
      · have h3 := hbg j (by omega)
        exact ⟨by rw [va_up_ne _ _ (by omega), hF3 _ (by omega) (by omega), va_up_ne _ _ (by omega), h3.1], by rw [va_up_ne _ _ (by omega), hF3 _ (by omega) (by omega), va_up_ne _ _ (by omega), h3.2]⟩
    · intro i h1 h2
      rw [va_up_ne _ _ h2, hF3 _ (by omega) (by omega), va_up_ne _ _ (by omega)]
      exact hot i h1 h2
theorem kl_Poi1 {X : rr_X} {D : va_G} {cy : Nat → ClassId} {l : Launch} {Q : State → Prop} {lo mc ms b : Nat} {fr : Nat} (hfr : 2 ≤ fr) (hlo : 44 ≤ lo) (hll : X.2.1 = l) (C : rc_C X D cy cX5_init 2 "RootRows$Point" fr lo mc ms b) (base h ar ce0 sl0 : Nat) (f0 : Nat → va_E) (OBJ : List Value) (hh : h < base) (ha : ar < base) (hne : h ≠ ar) (hce : ce0 + 18 ≤ mc) (hsl : sl0 + 54 ≤ ms) (hf0 : f0 h = .inr (4, OBJ)) (hv : OBJ[2]? = some (.ref (b + ar))) (kont : ∀ f1 : Nat → va_E, f1 ar = .inl (cy 14, 9, .inr (.inr (.inr (.inr (fun j => if j < 9 then some (b + (base + 2 * j)) else none))))) → (∀ j, j < 9 → f1 (base + 2 * j) = .inr (0, [.ref (b + (base + 2 * j + 1)), .int 1]) ∧ f1 (base + 2 * j + 1) = .inl (cy 12, 4, .inr (.inl (fun _ => 0)))) → (∀ i, i < base → i ≠ ar → f1 i = f0 i) → rc_J X D 2 Q b (base + 18) f1 (ce0 + 18) (sl0 + 54) 80 [(1, .int (nI 9)), (0, .ref (b + h))] []) : ∀ (z k : Nat), k + z = 9 → ∀ f : Nat → va_E, f ar = .inl (cy 14, 9, .inr (.inr (.inr (.inr (fun j => if j < k then some (b + (base + 2 * j)) else none))))) → (∀ j, j < k → f (base + 2 * j) = .inr (0, [.ref (b + (base + 2 * j + 1)), .int 1]) ∧ f (base + 2 * j + 1) = .inl (cy 12, 4, .inr (.inl (fun _ => 0)))) → (∀ i, i < base → i ≠ ar → f i = f0 i) → rc_J X D 2 Q b (base + 2 * k) f (ce0 + 2 * k) (sl0 + 6 * k) 54 [(1, .int (nI k)), (0, .ref (b + h))] [] := by
  intro z
  induction z with
  | zero =>
    intro k hk f har hbg hot
    have hk : k = 9 := by omega
    subst hk
    refine ry_iload_n C 0 dX5_init_54 rfl ?_
    refine ry_bipush (v := nI 9) C dX5_init_55 rfl ?_
    refine ry_icmp_ge (tgt := 80) C dX5_init_57 (by decide) (fun hc => ?_) (fun hc => ?_)
    · exact kont f har hbg hot
    · exact absurd (nI_le (Nat.le_refl _) (by omega)) hc
  | succ z ih =>
    intro k hk f har hbg hot
    refine ry_iload_n C 0 dX5_init_54 rfl ?_
    refine ry_bipush (v := nI 9) C dX5_init_55 rfl ?_
    refine ry_icmp_ge (tgt := 80) C dX5_init_57 (by decide) (fun hc => ?_) (fun hc => ?_)
    · exact absurd ((nI_leI (by omega) (by omega)).mp hc) (by omega)
    refine ry_aload_n C 1 dX5_init_60 rfl ?_
    refine ry_get (i := h) (fs := OBJ) (v := .ref (b + ar)) C 4 2 inX5 rfl (by decide) q_220 (by omega) (by rw [hot _ (by omega) (by omega), hf0]) hv dX5_init_61 ?_
    refine ry_iload_n C 0 dX5_init_64 rfl ?_
    refine ry_new (ci := 0) (fs := [.null, .int 0]) C tyX0 tyX0_ok inX0 rfl q_216 q_150 q_6 bl_0 (by omega) (by omega) dX5_init_65 ?_
    refine ry_dup C dX5_init_68 rfl ?_
    refine ry_iconst (v := 4) C dX5_init_69 rfl ?_
    refine ry_call (i := base + 2 * k) (rest := [.ref (b + (base + 2 * k)), .int (nI k), .ref (b + ar)]) C hll (k_Big l D cy b (base + 2 * k + 1) _ (base + 2 * k) 4 (by omega) (by rw [va_up_self]) (N0 := 4) rfl (by decide) (by decide)) q_217 q_152 q_6 q_153 rfl hk_Big ⟨by omega, by omega⟩ (by omega) (by omega) rfl rfl (Nat.le_of_ble_eq_true rfl) dX5_init_70 (fun nF fF hF => ?_)
    obtain ⟨eF, hF1, hF2, hF3⟩ := hF
    subst eF
    refine ry_aast (t0 := 4) (kd := 14) (ci := 0) (r := (RX0, TX0, 2)) (vs := [.ref (b + (base + 2 * k + 1)), .int 1]) (g := fun j => if j < k then some (b + (base + 2 * j)) else none) (N0 := 9) C rfl rfl (by omega) (by rw [hF3 _ (by omega) (by omega), va_up_ne _ _ (by omega), har]) (by omega) hF1 (vp_in_nI (by omega) (by omega)) dX5_init_73 ?_
    refine ry_iinc (v := nI (k + 1)) (lv1 := [(1, .int (nI (k + 1))), (0, .ref (b + h))]) C 0 dX5_init_74 rfl (nI_1 k) (by omega) rfl ?_
    refine ry_goto (tgt := 54) C dX5_init_77 (by decide) ?_
    rw [show base + 2 * k + 1 + 1 = base + 2 * (k + 1) by omega, show ce0 + 2 * k + 1 + 1 = ce0 + 2 * (k + 1) by omega, show sl0 + 6 * k + 2 + 4 = sl0 + 6 * (k + 1) by omega]
    refine ih (k + 1) (by omega) _ ?_ ?_ ?_
    · rw [va_up_self]
      congr 7
      funext j
      rw [nI_clamp (by omega)]
      by_cases hj : j = k
      · subst hj
        rw [va_up_self, if_pos (by omega)]
      · rw [va_up_ne _ _ hj]
        by_cases h2 : j < k
        · rw [if_pos h2, if_pos (by omega)]
        · rw [if_neg h2, if_neg (by omega)]
    · intro j hj
      by_cases h2 : j = k
      · subst h2
        exact ⟨by rw [va_up_ne _ _ (by omega), hF1], by rw [va_up_ne _ _ (by omega), hF2]⟩
      · have h3 := hbg j (by omega)
        exact ⟨by rw [va_up_ne _ _ (by omega), hF3 _ (by omega) (by omega), va_up_ne _ _ (by omega), h3.1], by rw [va_up_ne _ _ (by omega), hF3 _ (by omega) (by omega), va_up_ne _ _ (by omega), h3.2]⟩
    · intro i h1 h2
      rw [va_up_ne _ _ h2, hF3 _ (by omega) (by omega), va_up_ne _ _ (by omega)]
      exact hot i h1 h2
theorem k_Seq (l : Launch) (D : va_G) (cy : Nat → ClassId) (b n : Nat) (f : Nat → va_E) (h : Nat) (hh : h < n) (hf : f h = .inr (5, [.null, .null, .null, .int 0, .null, .null, .null, .null, .null, .null, .null, .null])) : rc_Met l D cy yX7_init cX7_init 2 2 44 216 3811 [.ref (b + h)] b n f (fun n1 f1 => n1 = n + 216 ∧ f1 h = .inr (5, [.ref (b + n), .ref (b + (n + 1)), .ref (b + (n + 2)), .int 0, .ref (b + (n + 3)), .ref (b + (n + 4)), .ref (b + (n + 6)), .ref (b + (n + 8)), .ref (b + (n + 10)), .ref (b + (n + 12)), .ref (b + (n + 14)), .ref (b + (n + 16))]) ∧ f1 (n) = .inl (cy 14, 90, .inr (.inr (.inr (.inr (fun j => if j < 90 then some (b + (n + 18 + 2 * j)) else none))))) ∧ f1 (n + 1) = .inl (cy 11, 10, .inl (fun _ => 0)) ∧ f1 (n + 2) = .inl (cy 11, 10, .inl (fun _ => 0)) ∧ f1 (n + 3) = .inl (cy 14, 9, .inr (.inr (.inr (.inr (fun j => if j < 9 then some (b + (n + 198 + 2 * j)) else none))))) ∧ f1 (n + 4) = .inr (0, [.ref (b + (n + 5)), .int 1]) ∧ f1 (n + 5) = .inl (cy 12, 96, .inr (.inl (fun _ => 0))) ∧ f1 (n + 6) = .inr (0, [.ref (b + (n + 7)), .int 1]) ∧ f1 (n + 7) = .inl (cy 12, 96, .inr (.inl (fun _ => 0))) ∧ f1 (n + 8) = .inr (0, [.ref (b + (n + 9)), .int 1]) ∧ f1 (n + 9) = .inl (cy 12, 96, .inr (.inl (fun _ => 0))) ∧ f1 (n + 10) = .inr (0, [.ref (b + (n + 11)), .int 1]) ∧ f1 (n + 11) = .inl (cy 12, 96, .inr (.inl (fun _ => 0))) ∧ f1 (n + 12) = .inr (0, [.ref (b + (n + 13)), .int 1]) ∧ f1 (n + 13) = .inl (cy 12, 24, .inr (.inl (fun _ => 0))) ∧ f1 (n + 14) = .inr (0, [.ref (b + (n + 15)), .int 1]) ∧ f1 (n + 15) = .inl (cy 12, 24, .inr (.inl (fun _ => 0))) ∧ f1 (n + 16) = .inr (0, [.ref (b + (n + 17)), .int 1]) ∧ f1 (n + 17) = .inl (cy 12, 24, .inr (.inl (fun _ => 0))) ∧ (∀ j, j < 90 → f1 (n + 18 + 2 * j) = .inr (0, [.ref (b + (n + 18 + 2 * j + 1)), .int 1]) ∧ f1 (n + 18 + 2 * j + 1) = .inl (cy 12, 24, .inr (.inl (fun _ => 0)))) ∧ (∀ j, j < 9 → f1 (n + 198 + 2 * j) = .inr (0, [.ref (b + (n + 198 + 2 * j + 1)), .int 1]) ∧ f1 (n + 198 + 2 * j + 1) = .inl (cy 12, 96, .inr (.inl (fun _ => 0)))) ∧ ∀ i, i < n → i ≠ h → f1 i = f i) := by
  refine rc_enter (lv0 := [(0, .ref (b + h))]) hq_Seq rfl (Nat.le_of_ble_eq_true rfl) rfl (fun X hll C => ?_)
  replace C : rc_C X D cy cX7_init 2 "RootRows$Sequence" 2 44 216 3811 b := C
  refine ry_aload_n C 0 dX7_init_0 rfl ?_
  refine ry_obj (rest := []) C q_147 q_23 q_24 (by decide) (by decide) (Nat.le_of_ble_eq_true rfl) dX7_init_1 ?_
  refine ry_aload_n C 0 dX7_init_4 rfl ?_
  refine ry_bipush (v := 90) C dX7_init_5 rfl ?_
  refine ry_newq_Big (N0 := 90) C q_148 (by decide) (by decide) (by decide) (by omega) (by omega) dX7_init_7 ?_
  refine ry_put (i := h) (fs := [.null, .null, .null, .int 0, .null, .null, .null, .null, .null, .null, .null, .null]) (fs1 := [.ref (b + n), .null, .null, .int 0, .null, .null, .null, .null, .null, .null, .null, .null]) C 5 0 tyX7 tyX7_ok nmX7 inX7 rfl (by decide) q_165 rfl rfl (by omega) (by rw [va_up_ne _ _ (by omega), hf]) (Nat.le_of_ble_eq_true rfl) rfl rfl rfl dX7_init_10 ?_
  refine ry_aload_n C 0 dX7_init_13 rfl ?_
  refine ry_bipush (v := 10) C dX7_init_14 rfl ?_
  refine ry_newa_i (N0 := 10) C (by decide) (by decide) (by decide) (by omega) (by omega) dX7_init_16 ?_
  refine ry_put (i := h) (fs := [.ref (b + n), .null, .null, .int 0, .null, .null, .null, .null, .null, .null, .null, .null]) (fs1 := [.ref (b + n), .ref (b + (n + 1)), .null, .int 0, .null, .null, .null, .null, .null, .null, .null, .null]) C 5 1 tyX7 tyX7_ok nmX7 inX7 rfl (by decide) q_167 rfl rfl (by omega) (by rw [va_up_ne _ _ (by omega), va_up_self]) (Nat.le_of_ble_eq_true rfl) rfl rfl rfl dX7_init_18 ?_
  refine ry_aload_n C 0 dX7_init_21 rfl ?_
  refine ry_bipush (v := 10) C dX7_init_22 rfl ?_
  refine ry_newa_i (N0 := 10) C (by decide) (by decide) (by decide) (by omega) (by omega) dX7_init_24 ?_
  refine ry_put (i := h) (fs := [.ref (b + n), .ref (b + (n + 1)), .null, .int 0, .null, .null, .null, .null, .null, .null, .null, .null]) (fs1 := [.ref (b + n), .ref (b + (n + 1)), .ref (b + (n + 2)), .int 0, .null, .null, .null, .null, .null, .null, .null, .null]) C 5 2 tyX7 tyX7_ok nmX7 inX7 rfl (by decide) q_170 rfl rfl (by omega) (by rw [va_up_ne _ _ (by omega), va_up_self]) (Nat.le_of_ble_eq_true rfl) rfl rfl rfl dX7_init_26 ?_
  refine ry_aload_n C 0 dX7_init_29 rfl ?_
  refine ry_bipush (v := 9) C dX7_init_30 rfl ?_
  refine ry_newq_Big (N0 := 9) C q_148 (by decide) (by decide) (by decide) (by omega) (by omega) dX7_init_32 ?_
  refine ry_put (i := h) (fs := [.ref (b + n), .ref (b + (n + 1)), .ref (b + (n + 2)), .int 0, .null, .null, .null, .null, .null, .null, .null, .null]) (fs1 := [.ref (b + n), .ref (b + (n + 1)), .ref (b + (n + 2)), .int 0, .ref (b + (n + 3)), .null, .null, .null, .null, .null, .null, .null]) C 5 4 tyX7 tyX7_ok nmX7 inX7 rfl (by decide) q_177 rfl rfl (by omega) (by rw [va_up_ne _ _ (by omega), va_up_self]) (Nat.le_of_ble_eq_true rfl) rfl rfl rfl dX7_init_35 ?_
  refine ry_aload_n C 0 dX7_init_38 rfl ?_
  refine ry_new (ci := 0) (fs := [.null, .int 0]) C tyX0 tyX0_ok inX0 rfl q_148 q_150 q_6 bl_0 (by omega) (by omega) dX7_init_39 ?_
  refine ry_dup C dX7_init_42 rfl ?_
  refine ry_bipush (v := 96) C dX7_init_43 rfl ?_
  refine ry_call (i := n + 4) (rest := [.ref (b + (n + 4)), .ref (b + h)]) C hll (k_Big l D cy b (n + 5) _ (n + 4) 96 (by omega) (by rw [va_up_self]) (N0 := 96) rfl (by decide) (by decide)) q_151 q_152 q_6 q_153 rfl hk_Big ⟨by decide, by decide⟩ (by omega) (by omega) rfl rfl (Nat.le_of_ble_eq_true rfl) dX7_init_45 (fun nF0 fF0 hF0 => ?_)
  obtain ⟨eF0, hF0⟩ := hF0
  subst eF0
  refine ry_put (i := h) (fs := [.ref (b + n), .ref (b + (n + 1)), .ref (b + (n + 2)), .int 0, .ref (b + (n + 3)), .null, .null, .null, .null, .null, .null, .null]) (fs1 := [.ref (b + n), .ref (b + (n + 1)), .ref (b + (n + 2)), .int 0, .ref (b + (n + 3)), .ref (b + (n + 4)), .null, .null, .null, .null, .null, .null]) C 5 5 tyX7 tyX7_ok nmX7 inX7 rfl (by decide) q_178 rfl rfl (by omega) (by rw [hF0.2.2 _ (by omega) (by omega), va_up_ne _ _ (by omega), va_up_self]) (Nat.le_of_ble_eq_true rfl) rfl rfl rfl dX7_init_48 ?_
  refine ry_aload_n C 0 dX7_init_51 rfl ?_
  refine ry_new (ci := 0) (fs := [.null, .int 0]) C tyX0 tyX0_ok inX0 rfl q_148 q_150 q_6 bl_0 (by omega) (by omega) dX7_init_52 ?_
  refine ry_dup C dX7_init_55 rfl ?_
  refine ry_bipush (v := 96) C dX7_init_56 rfl ?_
  refine ry_call (i := n + 6) (rest := [.ref (b + (n + 6)), .ref (b + h)]) C hll (k_Big l D cy b (n + 7) _ (n + 6) 96 (by omega) (by rw [va_up_self]) (N0 := 96) rfl (by decide) (by decide)) q_151 q_152 q_6 q_153 rfl hk_Big ⟨by decide, by decide⟩ (by omega) (by omega) rfl rfl (Nat.le_of_ble_eq_true rfl) dX7_init_58 (fun nF1 fF1 hF1 => ?_)
  obtain ⟨eF1, hF1⟩ := hF1
  subst eF1
  refine ry_put (i := h) (fs := [.ref (b + n), .ref (b + (n + 1)), .ref (b + (n + 2)), .int 0, .ref (b + (n + 3)), .ref (b + (n + 4)), .null, .null, .null, .null, .null, .null]) (fs1 := [.ref (b + n), .ref (b + (n + 1)), .ref (b + (n + 2)), .int 0, .ref (b + (n + 3)), .ref (b + (n + 4)), .ref (b + (n + 6)), .null, .null, .null, .null, .null]) C 5 6 tyX7 tyX7_ok nmX7 inX7 rfl (by decide) q_179 rfl rfl (by omega) (by rw [hF1.2.2 _ (by omega) (by omega), va_up_ne _ _ (by omega), va_up_self]) (Nat.le_of_ble_eq_true rfl) rfl rfl rfl dX7_init_61 ?_
  refine ry_aload_n C 0 dX7_init_64 rfl ?_
  refine ry_new (ci := 0) (fs := [.null, .int 0]) C tyX0 tyX0_ok inX0 rfl q_148 q_150 q_6 bl_0 (by omega) (by omega) dX7_init_65 ?_
  refine ry_dup C dX7_init_68 rfl ?_
  refine ry_bipush (v := 96) C dX7_init_69 rfl ?_
  refine ry_call (i := n + 8) (rest := [.ref (b + (n + 8)), .ref (b + h)]) C hll (k_Big l D cy b (n + 9) _ (n + 8) 96 (by omega) (by rw [va_up_self]) (N0 := 96) rfl (by decide) (by decide)) q_151 q_152 q_6 q_153 rfl hk_Big ⟨by decide, by decide⟩ (by omega) (by omega) rfl rfl (Nat.le_of_ble_eq_true rfl) dX7_init_71 (fun nF2 fF2 hF2 => ?_)
  obtain ⟨eF2, hF2⟩ := hF2
  subst eF2
  refine ry_put (i := h) (fs := [.ref (b + n), .ref (b + (n + 1)), .ref (b + (n + 2)), .int 0, .ref (b + (n + 3)), .ref (b + (n + 4)), .ref (b + (n + 6)), .null, .null, .null, .null, .null]) (fs1 := [.ref (b + n), .ref (b + (n + 1)), .ref (b + (n + 2)), .int 0, .ref (b + (n + 3)), .ref (b + (n + 4)), .ref (b + (n + 6)), .ref (b + (n + 8)), .null, .null, .null, .null]) C 5 7 tyX7 tyX7_ok nmX7 inX7 rfl (by decide) q_180 rfl rfl (by omega) (by rw [hF2.2.2 _ (by omega) (by omega), va_up_ne _ _ (by omega), va_up_self]) (Nat.le_of_ble_eq_true rfl) rfl rfl rfl dX7_init_74 ?_
  refine ry_aload_n C 0 dX7_init_77 rfl ?_
  refine ry_new (ci := 0) (fs := [.null, .int 0]) C tyX0 tyX0_ok inX0 rfl q_148 q_150 q_6 bl_0 (by omega) (by omega) dX7_init_78 ?_
  refine ry_dup C dX7_init_81 rfl ?_
  refine ry_bipush (v := 96) C dX7_init_82 rfl ?_
  refine ry_call (i := n + 10) (rest := [.ref (b + (n + 10)), .ref (b + h)]) C hll (k_Big l D cy b (n + 11) _ (n + 10) 96 (by omega) (by rw [va_up_self]) (N0 := 96) rfl (by decide) (by decide)) q_151 q_152 q_6 q_153 rfl hk_Big ⟨by decide, by decide⟩ (by omega) (by omega) rfl rfl (Nat.le_of_ble_eq_true rfl) dX7_init_84 (fun nF3 fF3 hF3 => ?_)
  obtain ⟨eF3, hF3⟩ := hF3
  subst eF3
  refine ry_put (i := h) (fs := [.ref (b + n), .ref (b + (n + 1)), .ref (b + (n + 2)), .int 0, .ref (b + (n + 3)), .ref (b + (n + 4)), .ref (b + (n + 6)), .ref (b + (n + 8)), .null, .null, .null, .null]) (fs1 := [.ref (b + n), .ref (b + (n + 1)), .ref (b + (n + 2)), .int 0, .ref (b + (n + 3)), .ref (b + (n + 4)), .ref (b + (n + 6)), .ref (b + (n + 8)), .ref (b + (n + 10)), .null, .null, .null]) C 5 8 tyX7 tyX7_ok nmX7 inX7 rfl (by decide) q_181 rfl rfl (by omega) (by rw [hF3.2.2 _ (by omega) (by omega), va_up_ne _ _ (by omega), va_up_self]) (Nat.le_of_ble_eq_true rfl) rfl rfl rfl dX7_init_87 ?_
  refine ry_aload_n C 0 dX7_init_90 rfl ?_
  refine ry_new (ci := 0) (fs := [.null, .int 0]) C tyX0 tyX0_ok inX0 rfl q_148 q_150 q_6 bl_0 (by omega) (by omega) dX7_init_91 ?_
  refine ry_dup C dX7_init_94 rfl ?_
  refine ry_bipush (v := 24) C dX7_init_95 rfl ?_
  refine ry_call (i := n + 12) (rest := [.ref (b + (n + 12)), .ref (b + h)]) C hll (k_Big l D cy b (n + 13) _ (n + 12) 24 (by omega) (by rw [va_up_self]) (N0 := 24) rfl (by decide) (by decide)) q_151 q_152 q_6 q_153 rfl hk_Big ⟨by decide, by decide⟩ (by omega) (by omega) rfl rfl (Nat.le_of_ble_eq_true rfl) dX7_init_97 (fun nF4 fF4 hF4 => ?_)
  obtain ⟨eF4, hF4⟩ := hF4
  subst eF4
  refine ry_put (i := h) (fs := [.ref (b + n), .ref (b + (n + 1)), .ref (b + (n + 2)), .int 0, .ref (b + (n + 3)), .ref (b + (n + 4)), .ref (b + (n + 6)), .ref (b + (n + 8)), .ref (b + (n + 10)), .null, .null, .null]) (fs1 := [.ref (b + n), .ref (b + (n + 1)), .ref (b + (n + 2)), .int 0, .ref (b + (n + 3)), .ref (b + (n + 4)), .ref (b + (n + 6)), .ref (b + (n + 8)), .ref (b + (n + 10)), .ref (b + (n + 12)), .null, .null]) C 5 9 tyX7 tyX7_ok nmX7 inX7 rfl (by decide) q_182 rfl rfl (by omega) (by rw [hF4.2.2 _ (by omega) (by omega), va_up_ne _ _ (by omega), va_up_self]) (Nat.le_of_ble_eq_true rfl) rfl rfl rfl dX7_init_100 ?_
  refine ry_aload_n C 0 dX7_init_103 rfl ?_
  refine ry_new (ci := 0) (fs := [.null, .int 0]) C tyX0 tyX0_ok inX0 rfl q_148 q_150 q_6 bl_0 (by omega) (by omega) dX7_init_104 ?_
  refine ry_dup C dX7_init_107 rfl ?_
  refine ry_bipush (v := 24) C dX7_init_108 rfl ?_
  refine ry_call (i := n + 14) (rest := [.ref (b + (n + 14)), .ref (b + h)]) C hll (k_Big l D cy b (n + 15) _ (n + 14) 24 (by omega) (by rw [va_up_self]) (N0 := 24) rfl (by decide) (by decide)) q_151 q_152 q_6 q_153 rfl hk_Big ⟨by decide, by decide⟩ (by omega) (by omega) rfl rfl (Nat.le_of_ble_eq_true rfl) dX7_init_110 (fun nF5 fF5 hF5 => ?_)
  obtain ⟨eF5, hF5⟩ := hF5
  subst eF5
  refine ry_put (i := h) (fs := [.ref (b + n), .ref (b + (n + 1)), .ref (b + (n + 2)), .int 0, .ref (b + (n + 3)), .ref (b + (n + 4)), .ref (b + (n + 6)), .ref (b + (n + 8)), .ref (b + (n + 10)), .ref (b + (n + 12)), .null, .null]) (fs1 := [.ref (b + n), .ref (b + (n + 1)), .ref (b + (n + 2)), .int 0, .ref (b + (n + 3)), .ref (b + (n + 4)), .ref (b + (n + 6)), .ref (b + (n + 8)), .ref (b + (n + 10)), .ref (b + (n + 12)), .ref (b + (n + 14)), .null]) C 5 10 tyX7 tyX7_ok nmX7 inX7 rfl (by decide) q_183 rfl rfl (by omega) (by rw [hF5.2.2 _ (by omega) (by omega), va_up_ne _ _ (by omega), va_up_self]) (Nat.le_of_ble_eq_true rfl) rfl rfl rfl dX7_init_113 ?_
  refine ry_aload_n C 0 dX7_init_116 rfl ?_
  refine ry_new (ci := 0) (fs := [.null, .int 0]) C tyX0 tyX0_ok inX0 rfl q_148 q_150 q_6 bl_0 (by omega) (by omega) dX7_init_117 ?_
  refine ry_dup C dX7_init_120 rfl ?_
  refine ry_bipush (v := 24) C dX7_init_121 rfl ?_
  refine ry_call (i := n + 16) (rest := [.ref (b + (n + 16)), .ref (b + h)]) C hll (k_Big l D cy b (n + 17) _ (n + 16) 24 (by omega) (by rw [va_up_self]) (N0 := 24) rfl (by decide) (by decide)) q_151 q_152 q_6 q_153 rfl hk_Big ⟨by decide, by decide⟩ (by omega) (by omega) rfl rfl (Nat.le_of_ble_eq_true rfl) dX7_init_123 (fun nF6 fF6 hF6 => ?_)
  obtain ⟨eF6, hF6⟩ := hF6
  subst eF6
  refine ry_put (i := h) (fs := [.ref (b + n), .ref (b + (n + 1)), .ref (b + (n + 2)), .int 0, .ref (b + (n + 3)), .ref (b + (n + 4)), .ref (b + (n + 6)), .ref (b + (n + 8)), .ref (b + (n + 10)), .ref (b + (n + 12)), .ref (b + (n + 14)), .null]) (fs1 := [.ref (b + n), .ref (b + (n + 1)), .ref (b + (n + 2)), .int 0, .ref (b + (n + 3)), .ref (b + (n + 4)), .ref (b + (n + 6)), .ref (b + (n + 8)), .ref (b + (n + 10)), .ref (b + (n + 12)), .ref (b + (n + 14)), .ref (b + (n + 16))]) C 5 11 tyX7 tyX7_ok nmX7 inX7 rfl (by decide) q_184 rfl rfl (by omega) (by rw [hF6.2.2 _ (by omega) (by omega), va_up_ne _ _ (by omega), va_up_self]) (Nat.le_of_ble_eq_true rfl) rfl rfl rfl dX7_init_126 ?_
  refine ry_iconst (v := nI 0) C dX7_init_129 rfl ?_
  refine ry_istore_n (lv1 := [(1, .int (nI 0)), (0, .ref (b + h))]) C dX7_init_130 (by decide) rfl ?_
  refine kl_Seq1 (by decide) (by decide) hll C (n + 18) h (n) 18 589 _ [.ref (b + n), .ref (b + (n + 1)), .ref (b + (n + 2)), .int 0, .ref (b + (n + 3)), .ref (b + (n + 4)), .ref (b + (n + 6)), .ref (b + (n + 8)), .ref (b + (n + 10)), .ref (b + (n + 12)), .ref (b + (n + 14)), .ref (b + (n + 16))] (by omega) (by omega) (by omega) (by omega) (by omega) (by rw [va_up_self]) rfl (fun fa ha_1 ha_2 ha_3 => ?_) 90 0 rfl _ (by rw [va_up_ne _ _ (by omega), hF6.2.2 _ (by omega) (by omega), va_up_ne _ _ (by omega), va_up_ne _ _ (by omega), hF5.2.2 _ (by omega) (by omega), va_up_ne _ _ (by omega), va_up_ne _ _ (by omega), hF4.2.2 _ (by omega) (by omega), va_up_ne _ _ (by omega), va_up_ne _ _ (by omega), hF3.2.2 _ (by omega) (by omega), va_up_ne _ _ (by omega), va_up_ne _ _ (by omega), hF2.2.2 _ (by omega) (by omega), va_up_ne _ _ (by omega), va_up_ne _ _ (by omega), hF1.2.2 _ (by omega) (by omega), va_up_ne _ _ (by omega), va_up_ne _ _ (by omega), hF0.2.2 _ (by omega) (by omega), va_up_ne _ _ (by omega), va_up_ne _ _ (by omega), va_up_ne _ _ (by omega), va_up_ne _ _ (by omega), va_up_ne _ _ (by omega), va_up_ne _ _ (by omega), va_up_ne _ _ (by omega), va_up_ne _ _ (by omega), va_up_self]; congr 7) (fun j hj => absurd hj (by omega)) (fun i _ _ => rfl)
  refine ry_iconst (v := nI 0) C dX7_init_161 rfl ?_
  refine ry_istore_n (lv1 := [(1, .int (nI 0)), (0, .ref (b + h))]) C dX7_init_162 (by decide) rfl ?_
  refine kl_Seq2 (by decide) (by decide) hll C (n + 198) h (n + 3) 198 2929 _ [.ref (b + n), .ref (b + (n + 1)), .ref (b + (n + 2)), .int 0, .ref (b + (n + 3)), .ref (b + (n + 4)), .ref (b + (n + 6)), .ref (b + (n + 8)), .ref (b + (n + 10)), .ref (b + (n + 12)), .ref (b + (n + 14)), .ref (b + (n + 16))] (by omega) (by omega) (by omega) (by omega) (by omega) (by rw [ha_3 _ (by omega) (by omega), va_up_self]) rfl (fun fb hb_1 hb_2 hb_3 => ?_) 9 0 rfl _ (by rw [ha_3 _ (by omega) (by omega), va_up_ne _ _ (by omega), hF6.2.2 _ (by omega) (by omega), va_up_ne _ _ (by omega), va_up_ne _ _ (by omega), hF5.2.2 _ (by omega) (by omega), va_up_ne _ _ (by omega), va_up_ne _ _ (by omega), hF4.2.2 _ (by omega) (by omega), va_up_ne _ _ (by omega), va_up_ne _ _ (by omega), hF3.2.2 _ (by omega) (by omega), va_up_ne _ _ (by omega), va_up_ne _ _ (by omega), hF2.2.2 _ (by omega) (by omega), va_up_ne _ _ (by omega), va_up_ne _ _ (by omega), hF1.2.2 _ (by omega) (by omega), va_up_ne _ _ (by omega), va_up_ne _ _ (by omega), hF0.2.2 _ (by omega) (by omega), va_up_ne _ _ (by omega), va_up_ne _ _ (by omega), va_up_self]; congr 7) (fun j hj => absurd hj (by omega)) (fun i _ _ => rfl)
  exact ry_ret C dX7_init_190 ⟨rfl, by rw [hb_3 _ (by omega) (by omega), ha_3 _ (by omega) (by omega), va_up_self], by rw [hb_3 _ (by omega) (by omega), ha_1], by rw [hb_3 _ (by omega) (by omega), ha_3 _ (by omega) (by omega), va_up_ne _ _ (by omega), hF6.2.2 _ (by omega) (by omega), va_up_ne _ _ (by omega), va_up_ne _ _ (by omega), hF5.2.2 _ (by omega) (by omega), va_up_ne _ _ (by omega), va_up_ne _ _ (by omega), hF4.2.2 _ (by omega) (by omega), va_up_ne _ _ (by omega), va_up_ne _ _ (by omega), hF3.2.2 _ (by omega) (by omega), va_up_ne _ _ (by omega), va_up_ne _ _ (by omega), hF2.2.2 _ (by omega) (by omega), va_up_ne _ _ (by omega), va_up_ne _ _ (by omega), hF1.2.2 _ (by omega) (by omega), va_up_ne _ _ (by omega), va_up_ne _ _ (by omega), hF0.2.2 _ (by omega) (by omega), va_up_ne _ _ (by omega), va_up_ne _ _ (by omega), va_up_ne _ _ (by omega), va_up_ne _ _ (by omega), va_up_ne _ _ (by omega), va_up_ne _ _ (by omega), va_up_self], by rw [hb_3 _ (by omega) (by omega), ha_3 _ (by omega) (by omega), va_up_ne _ _ (by omega), hF6.2.2 _ (by omega) (by omega), va_up_ne _ _ (by omega), va_up_ne _ _ (by omega), hF5.2.2 _ (by omega) (by omega), va_up_ne _ _ (by omega), va_up_ne _ _ (by omega), hF4.2.2 _ (by omega) (by omega), va_up_ne _ _ (by omega), va_up_ne _ _ (by omega), hF3.2.2 _ (by omega) (by omega), va_up_ne _ _ (by omega), va_up_ne _ _ (by omega), hF2.2.2 _ (by omega) (by omega), va_up_ne _ _ (by omega), va_up_ne _ _ (by omega), hF1.2.2 _ (by omega) (by omega), va_up_ne _ _ (by omega), va_up_ne _ _ (by omega), hF0.2.2 _ (by omega) (by omega), va_up_ne _ _ (by omega), va_up_ne _ _ (by omega), va_up_ne _ _ (by omega), va_up_ne _ _ (by omega), va_up_self], by rw [hb_1], by rw [hb_3 _ (by omega) (by omega), ha_3 _ (by omega) (by omega), va_up_ne _ _ (by omega), hF6.2.2 _ (by omega) (by omega), va_up_ne _ _ (by omega), va_up_ne _ _ (by omega), hF5.2.2 _ (by omega) (by omega), va_up_ne _ _ (by omega), va_up_ne _ _ (by omega), hF4.2.2 _ (by omega) (by omega), va_up_ne _ _ (by omega), va_up_ne _ _ (by omega), hF3.2.2 _ (by omega) (by omega), va_up_ne _ _ (by omega), va_up_ne _ _ (by omega), hF2.2.2 _ (by omega) (by omega), va_up_ne _ _ (by omega), va_up_ne _ _ (by omega), hF1.2.2 _ (by omega) (by omega), va_up_ne _ _ (by omega), va_up_ne _ _ (by omega), hF0.1], by rw [hb_3 _ (by omega) (by omega), ha_3 _ (by omega) (by omega), va_up_ne _ _ (by omega), hF6.2.2 _ (by omega) (by omega), va_up_ne _ _ (by omega), va_up_ne _ _ (by omega), hF5.2.2 _ (by omega) (by omega), va_up_ne _ _ (by omega), va_up_ne _ _ (by omega), hF4.2.2 _ (by omega) (by omega), va_up_ne _ _ (by omega), va_up_ne _ _ (by omega), hF3.2.2 _ (by omega) (by omega), va_up_ne _ _ (by omega), va_up_ne _ _ (by omega), hF2.2.2 _ (by omega) (by omega), va_up_ne _ _ (by omega), va_up_ne _ _ (by omega), hF1.2.2 _ (by omega) (by omega), va_up_ne _ _ (by omega), va_up_ne _ _ (by omega), hF0.2.1], by rw [hb_3 _ (by omega) (by omega), ha_3 _ (by omega) (by omega), va_up_ne _ _ (by omega), hF6.2.2 _ (by omega) (by omega), va_up_ne _ _ (by omega), va_up_ne _ _ (by omega), hF5.2.2 _ (by omega) (by omega), va_up_ne _ _ (by omega), va_up_ne _ _ (by omega), hF4.2.2 _ (by omega) (by omega), va_up_ne _ _ (by omega), va_up_ne _ _ (by omega), hF3.2.2 _ (by omega) (by omega), va_up_ne _ _ (by omega), va_up_ne _ _ (by omega), hF2.2.2 _ (by omega) (by omega), va_up_ne _ _ (by omega), va_up_ne _ _ (by omega), hF1.1], by rw [hb_3 _ (by omega) (by omega), ha_3 _ (by omega) (by omega), va_up_ne _ _ (by omega), hF6.2.2 _ (by omega) (by omega), va_up_ne _ _ (by omega), va_up_ne _ _ (by omega), hF5.2.2 _ (by omega) (by omega), va_up_ne _ _ (by omega), va_up_ne _ _ (by omega), hF4.2.2 _ (by omega) (by omega), va_up_ne _ _ (by omega), va_up_ne _ _ (by omega), hF3.2.2 _ (by omega) (by omega), va_up_ne _ _ (by omega), va_up_ne _ _ (by omega), hF2.2.2 _ (by omega) (by omega), va_up_ne _ _ (by omega), va_up_ne _ _ (by omega), hF1.2.1], by rw [hb_3 _ (by omega) (by omega), ha_3 _ (by omega) (by omega), va_up_ne _ _ (by omega), hF6.2.2 _ (by omega) (by omega), va_up_ne _ _ (by omega), va_up_ne _ _ (by omega), hF5.2.2 _ (by omega) (by omega), va_up_ne _ _ (by omega), va_up_ne _ _ (by omega), hF4.2.2 _ (by omega) (by omega), va_up_ne _ _ (by omega), va_up_ne _ _ (by omega), hF3.2.2 _ (by omega) (by omega), va_up_ne _ _ (by omega), va_up_ne _ _ (by omega), hF2.1], by rw [hb_3 _ (by omega) (by omega), ha_3 _ (by omega) (by omega), va_up_ne _ _ (by omega), hF6.2.2 _ (by omega) (by omega), va_up_ne _ _ (by omega), va_up_ne _ _ (by omega), hF5.2.2 _ (by omega) (by omega), va_up_ne _ _ (by omega), va_up_ne _ _ (by omega), hF4.2.2 _ (by omega) (by omega), va_up_ne _ _ (by omega), va_up_ne _ _ (by omega), hF3.2.2 _ (by omega) (by omega), va_up_ne _ _ (by omega), va_up_ne _ _ (by omega), hF2.2.1], by rw [hb_3 _ (by omega) (by omega), ha_3 _ (by omega) (by omega), va_up_ne _ _ (by omega), hF6.2.2 _ (by omega) (by omega), va_up_ne _ _ (by omega), va_up_ne _ _ (by omega), hF5.2.2 _ (by omega) (by omega), va_up_ne _ _ (by omega), va_up_ne _ _ (by omega), hF4.2.2 _ (by omega) (by omega), va_up_ne _ _ (by omega), va_up_ne _ _ (by omega), hF3.1], by rw [hb_3 _ (by omega) (by omega), ha_3 _ (by omega) (by omega), va_up_ne _ _ (by omega), hF6.2.2 _ (by omega) (by omega), va_up_ne _ _ (by omega), va_up_ne _ _ (by omega), hF5.2.2 _ (by omega) (by omega), va_up_ne _ _ (by omega), va_up_ne _ _ (by omega), hF4.2.2 _ (by omega) (by omega), va_up_ne _ _ (by omega), va_up_ne _ _ (by omega), hF3.2.1], by rw [hb_3 _ (by omega) (by omega), ha_3 _ (by omega) (by omega), va_up_ne _ _ (by omega), hF6.2.2 _ (by omega) (by omega), va_up_ne _ _ (by omega), va_up_ne _ _ (by omega), hF5.2.2 _ (by omega) (by omega), va_up_ne _ _ (by omega), va_up_ne _ _ (by omega), hF4.1], by rw [hb_3 _ (by omega) (by omega), ha_3 _ (by omega) (by omega), va_up_ne _ _ (by omega), hF6.2.2 _ (by omega) (by omega), va_up_ne _ _ (by omega), va_up_ne _ _ (by omega), hF5.2.2 _ (by omega) (by omega), va_up_ne _ _ (by omega), va_up_ne _ _ (by omega), hF4.2.1], by rw [hb_3 _ (by omega) (by omega), ha_3 _ (by omega) (by omega), va_up_ne _ _ (by omega), hF6.2.2 _ (by omega) (by omega), va_up_ne _ _ (by omega), va_up_ne _ _ (by omega), hF5.1], by rw [hb_3 _ (by omega) (by omega), ha_3 _ (by omega) (by omega), va_up_ne _ _ (by omega), hF6.2.2 _ (by omega) (by omega), va_up_ne _ _ (by omega), va_up_ne _ _ (by omega), hF5.2.1], by rw [hb_3 _ (by omega) (by omega), ha_3 _ (by omega) (by omega), va_up_ne _ _ (by omega), hF6.1], by rw [hb_3 _ (by omega) (by omega), ha_3 _ (by omega) (by omega), va_up_ne _ _ (by omega), hF6.2.1], fun j hj => ⟨by rw [hb_3 _ (by omega) (by omega), (ha_2 j hj).1], by rw [hb_3 _ (by omega) (by omega), (ha_2 j hj).2]⟩, hb_2, fun i h1 h2 => by rw [hb_3 _ (by omega) (by omega), ha_3 _ (by omega) (by omega), va_up_ne _ _ (by omega), hF6.2.2 _ (by omega) (by omega), va_up_ne _ _ (by omega), va_up_ne _ _ (by omega), hF5.2.2 _ (by omega) (by omega), va_up_ne _ _ (by omega), va_up_ne _ _ (by omega), hF4.2.2 _ (by omega) (by omega), va_up_ne _ _ (by omega), va_up_ne _ _ (by omega), hF3.2.2 _ (by omega) (by omega), va_up_ne _ _ (by omega), va_up_ne _ _ (by omega), hF2.2.2 _ (by omega) (by omega), va_up_ne _ _ (by omega), va_up_ne _ _ (by omega), hF1.2.2 _ (by omega) (by omega), va_up_ne _ _ (by omega), va_up_ne _ _ (by omega), hF0.2.2 _ (by omega) (by omega), va_up_ne _ _ (by omega), va_up_ne _ _ (by omega), va_up_ne _ _ (by omega), va_up_ne _ _ (by omega), va_up_ne _ _ (by omega), va_up_ne _ _ (by omega), va_up_ne _ _ (by omega), va_up_ne _ _ (by omega), va_up_ne _ _ (by omega)]⟩
theorem k_Poi (l : Launch) (D : va_G) (cy : Nat → ClassId) (b n : Nat) (f : Nat → va_E) (h : Nat) (hh : h < n) (hf : f h = .inr (4, [.null, .int 0, .null, .null, .null])) : rc_Met l D cy yX5_init cX5_init 2 2 44 25 281 [.ref (b + h)] b n f (fun n1 f1 => n1 = n + 25 ∧ f1 h = .inr (4, [.ref (b + n), .int 0, .ref (b + (n + 2)), .ref (b + (n + 3)), .ref (b + (n + 5))]) ∧ f1 (n) = .inr (0, [.ref (b + (n + 1)), .int 1]) ∧ f1 (n + 1) = .inl (cy 12, 20, .inr (.inl (fun _ => 0))) ∧ f1 (n + 2) = .inl (cy 14, 9, .inr (.inr (.inr (.inr (fun j => if j < 9 then some (b + (n + 7 + 2 * j)) else none))))) ∧ f1 (n + 3) = .inr (0, [.ref (b + (n + 4)), .int 1]) ∧ f1 (n + 4) = .inl (cy 12, 96, .inr (.inl (fun _ => 0))) ∧ f1 (n + 5) = .inr (0, [.ref (b + (n + 6)), .int 1]) ∧ f1 (n + 6) = .inl (cy 12, 96, .inr (.inl (fun _ => 0))) ∧ (∀ j, j < 9 → f1 (n + 7 + 2 * j) = .inr (0, [.ref (b + (n + 7 + 2 * j + 1)), .int 1]) ∧ f1 (n + 7 + 2 * j + 1) = .inl (cy 12, 4, .inr (.inl (fun _ => 0)))) ∧ ∀ i, i < n → i ≠ h → f1 i = f i) := by
  refine rc_enter (lv0 := [(0, .ref (b + h))]) hq_Poi rfl (Nat.le_of_ble_eq_true rfl) rfl (fun X hll C => ?_)
  replace C : rc_C X D cy cX5_init 2 "RootRows$Point" 2 44 25 281 b := C
  refine ry_aload_n C 0 dX5_init_0 rfl ?_
  refine ry_obj (rest := []) C q_215 q_23 q_24 (by decide) (by decide) (Nat.le_of_ble_eq_true rfl) dX5_init_1 ?_
  refine ry_aload_n C 0 dX5_init_4 rfl ?_
  refine ry_new (ci := 0) (fs := [.null, .int 0]) C tyX0 tyX0_ok inX0 rfl q_216 q_150 q_6 bl_0 (by omega) (by omega) dX5_init_5 ?_
  refine ry_dup C dX5_init_8 rfl ?_
  refine ry_bipush (v := 20) C dX5_init_9 rfl ?_
  refine ry_call (i := n) (rest := [.ref (b + n), .ref (b + h)]) C hll (k_Big l D cy b (n + 1) _ n 20 (by omega) (by rw [va_up_self]) (N0 := 20) rfl (by decide) (by decide)) q_217 q_152 q_6 q_153 rfl hk_Big ⟨by decide, by decide⟩ (by omega) (by omega) rfl rfl (Nat.le_of_ble_eq_true rfl) dX5_init_11 (fun nF0 fF0 hF0 => ?_)
  obtain ⟨eF0, hF0⟩ := hF0
  subst eF0
  refine ry_put (i := h) (fs := [.null, .int 0, .null, .null, .null]) (fs1 := [.ref (b + n), .int 0, .null, .null, .null]) C 4 0 tyX5 tyX5_ok nmX5 inX5 rfl (by decide) q_218 rfl rfl (by omega) (by rw [hF0.2.2 _ (by omega) (by omega), va_up_ne _ _ (by omega), hf]) (Nat.le_of_ble_eq_true rfl) rfl rfl rfl dX5_init_14 ?_
  refine ry_aload_n C 0 dX5_init_17 rfl ?_
  refine ry_bipush (v := 9) C dX5_init_18 rfl ?_
  refine ry_newq_Big (N0 := 9) C q_216 (by decide) (by decide) (by decide) (by omega) (by omega) dX5_init_20 ?_
  refine ry_put (i := h) (fs := [.ref (b + n), .int 0, .null, .null, .null]) (fs1 := [.ref (b + n), .int 0, .ref (b + (n + 2)), .null, .null]) C 4 2 tyX5 tyX5_ok nmX5 inX5 rfl (by decide) q_220 rfl rfl (by omega) (by rw [va_up_ne _ _ (by omega), va_up_self]) (Nat.le_of_ble_eq_true rfl) rfl rfl rfl dX5_init_23 ?_
  refine ry_aload_n C 0 dX5_init_26 rfl ?_
  refine ry_new (ci := 0) (fs := [.null, .int 0]) C tyX0 tyX0_ok inX0 rfl q_216 q_150 q_6 bl_0 (by omega) (by omega) dX5_init_27 ?_
  refine ry_dup C dX5_init_30 rfl ?_
  refine ry_bipush (v := 96) C dX5_init_31 rfl ?_
  refine ry_call (i := n + 3) (rest := [.ref (b + (n + 3)), .ref (b + h)]) C hll (k_Big l D cy b (n + 4) _ (n + 3) 96 (by omega) (by rw [va_up_self]) (N0 := 96) rfl (by decide) (by decide)) q_217 q_152 q_6 q_153 rfl hk_Big ⟨by decide, by decide⟩ (by omega) (by omega) rfl rfl (Nat.le_of_ble_eq_true rfl) dX5_init_33 (fun nF1 fF1 hF1 => ?_)
  obtain ⟨eF1, hF1⟩ := hF1
  subst eF1
  refine ry_put (i := h) (fs := [.ref (b + n), .int 0, .ref (b + (n + 2)), .null, .null]) (fs1 := [.ref (b + n), .int 0, .ref (b + (n + 2)), .ref (b + (n + 3)), .null]) C 4 3 tyX5 tyX5_ok nmX5 inX5 rfl (by decide) q_221 rfl rfl (by omega) (by rw [hF1.2.2 _ (by omega) (by omega), va_up_ne _ _ (by omega), va_up_self]) (Nat.le_of_ble_eq_true rfl) rfl rfl rfl dX5_init_36 ?_
  refine ry_aload_n C 0 dX5_init_39 rfl ?_
  refine ry_new (ci := 0) (fs := [.null, .int 0]) C tyX0 tyX0_ok inX0 rfl q_216 q_150 q_6 bl_0 (by omega) (by omega) dX5_init_40 ?_
  refine ry_dup C dX5_init_43 rfl ?_
  refine ry_bipush (v := 96) C dX5_init_44 rfl ?_
  refine ry_call (i := n + 5) (rest := [.ref (b + (n + 5)), .ref (b + h)]) C hll (k_Big l D cy b (n + 6) _ (n + 5) 96 (by omega) (by rw [va_up_self]) (N0 := 96) rfl (by decide) (by decide)) q_217 q_152 q_6 q_153 rfl hk_Big ⟨by decide, by decide⟩ (by omega) (by omega) rfl rfl (Nat.le_of_ble_eq_true rfl) dX5_init_46 (fun nF2 fF2 hF2 => ?_)
  obtain ⟨eF2, hF2⟩ := hF2
  subst eF2
  refine ry_put (i := h) (fs := [.ref (b + n), .int 0, .ref (b + (n + 2)), .ref (b + (n + 3)), .null]) (fs1 := [.ref (b + n), .int 0, .ref (b + (n + 2)), .ref (b + (n + 3)), .ref (b + (n + 5))]) C 4 4 tyX5 tyX5_ok nmX5 inX5 rfl (by decide) q_222 rfl rfl (by omega) (by rw [hF2.2.2 _ (by omega) (by omega), va_up_ne _ _ (by omega), va_up_self]) (Nat.le_of_ble_eq_true rfl) rfl rfl rfl dX5_init_49 ?_
  refine ry_iconst (v := nI 0) C dX5_init_52 rfl ?_
  refine ry_istore_n (lv1 := [(1, .int (nI 0)), (0, .ref (b + h))]) C dX5_init_53 (by decide) rfl ?_
  refine kl_Poi1 (by decide) (by decide) hll C (n + 7) h (n + 2) 7 227 _ [.ref (b + n), .int 0, .ref (b + (n + 2)), .ref (b + (n + 3)), .ref (b + (n + 5))] (by omega) (by omega) (by omega) (by omega) (by omega) (by rw [va_up_self]) rfl (fun fa ha_1 ha_2 ha_3 => ?_) 9 0 rfl _ (by rw [va_up_ne _ _ (by omega), hF2.2.2 _ (by omega) (by omega), va_up_ne _ _ (by omega), va_up_ne _ _ (by omega), hF1.2.2 _ (by omega) (by omega), va_up_ne _ _ (by omega), va_up_ne _ _ (by omega), va_up_self]; congr 7) (fun j hj => absurd hj (by omega)) (fun i _ _ => rfl)
  exact ry_ret C dX5_init_80 ⟨rfl, by rw [ha_3 _ (by omega) (by omega), va_up_self], by rw [ha_3 _ (by omega) (by omega), va_up_ne _ _ (by omega), hF2.2.2 _ (by omega) (by omega), va_up_ne _ _ (by omega), va_up_ne _ _ (by omega), hF1.2.2 _ (by omega) (by omega), va_up_ne _ _ (by omega), va_up_ne _ _ (by omega), va_up_ne _ _ (by omega), va_up_ne _ _ (by omega), hF0.1], by rw [ha_3 _ (by omega) (by omega), va_up_ne _ _ (by omega), hF2.2.2 _ (by omega) (by omega), va_up_ne _ _ (by omega), va_up_ne _ _ (by omega), hF1.2.2 _ (by omega) (by omega), va_up_ne _ _ (by omega), va_up_ne _ _ (by omega), va_up_ne _ _ (by omega), va_up_ne _ _ (by omega), hF0.2.1], by rw [ha_1], by rw [ha_3 _ (by omega) (by omega), va_up_ne _ _ (by omega), hF2.2.2 _ (by omega) (by omega), va_up_ne _ _ (by omega), va_up_ne _ _ (by omega), hF1.1], by rw [ha_3 _ (by omega) (by omega), va_up_ne _ _ (by omega), hF2.2.2 _ (by omega) (by omega), va_up_ne _ _ (by omega), va_up_ne _ _ (by omega), hF1.2.1], by rw [ha_3 _ (by omega) (by omega), va_up_ne _ _ (by omega), hF2.1], by rw [ha_3 _ (by omega) (by omega), va_up_ne _ _ (by omega), hF2.2.1], ha_2, fun i h1 h2 => by rw [ha_3 _ (by omega) (by omega), va_up_ne _ _ (by omega), hF2.2.2 _ (by omega) (by omega), va_up_ne _ _ (by omega), va_up_ne _ _ (by omega), hF1.2.2 _ (by omega) (by omega), va_up_ne _ _ (by omega), va_up_ne _ _ (by omega), va_up_ne _ _ (by omega), va_up_ne _ _ (by omega), hF0.2.2 _ (by omega) (by omega), va_up_ne _ _ (by omega)]⟩
def sg_one (b j : Nat) : rr_M := ((fun _ _ => 1), (fun _ _ => 0), (fun _ _ => b + j))
def gg_one (D : va_G) (cy : Nat → ClassId) (b i j : Nat) : rr_G := (D, cy, [b + i, b + j], (fun a => if a = b + i then 0 else 12), (fun _ => 4))
def sg_two (b i j : Nat) : rr_M := ms_i (ms_l (ms_l (ms_l (sg_one b j) (b + j) 0 1) (b + j) 1 0) (b + j) 2 0) (b + i) 1 1
theorem ev_set (b i j : Nat) : f_Big_set 5 (fun _ => 4) (b + i) 1 (sg_one b j) = some ((), sg_two b i j) := by
  have h1 : rr_ix 0 4 = true := by decide
  have h2 : rr_ix 1 4 = true := by decide
  have h3 : rr_ix 2 4 = true := by decide
  have n0 : rr_n 0 = 0 := by decide
  have n1 : rr_n 1 = 1 := by decide
  have n2 : rr_n 2 = 2 := by decide
  have a1 : (1 : Int64) &&& 1073741823 = 1 := by decide
  have a2 : ((1 : Int64) >>> ((30 : Int32).toInt64 &&& 63)) &&& 1073741823 = 0 := by decide
  have a3 : (1 : Int64) >>> ((60 : Int32).toInt64 &&& 63) = 0 := by decide
  have s1 : (3 : Int32) - 1 = 2 := by decide
  have s2 : (2 : Int32) - 1 = 1 := by decide
  have c1 : ¬ (3 : Int32) ≤ 1 := by decide
  have c2 : ¬ (2 : Int32) ≤ 1 := by decide
  have c3 : (1 : Int32) ≤ 1 := by decide
  have c4 : ¬ (0 : Int64) = -1 := by decide
  have s3 : (3 : Int32) + (-1) = 2 := by decide
  have s4 : (2 : Int32) + (-1) = 1 := by decide
  simp only [f_Big_set, rr_lt, sg_one, mg_r, h1, h2, h3, if_true, n0, n1, n2, a1, a2, a3, ms_l, f_Big_trim, l_Big_trim_2, rr_jn, rr_bd, s1, s2, s3, s4, c1, c2, c3, c4, if_false, mg_l, rr_u2, and_self, ite_true, ite_false, sg_two, ms_i, and_true, and_false, true_and, false_and, if_true, reduceCtorEq, Nat.reduceEqDiff, Nat.one_ne_zero, Nat.zero_ne_one]
theorem ry_set1 {X : rr_X} {D : va_G} {cy : Nat → ClassId} {nL : Nat} {Q : State → Prop} {cc : ByteArray} {own : String} {fr lo mc ms b n ce sl : Nat} {f : Nat → va_E} {pc : Nat} {lv : List (Nat × Value)} (C : rc_C X D cy cc nL own fr lo mc ms b) {l : Launch} (hll : X.2.1 = l) {index : Nat} (i j : Nat) (hi : i < n) (hj : j < n) (hij : i ≠ j) (hfi : f i = .inr (0, [.ref (b + j), .int 1])) (hfj : f j = .inl (cy 12, 4, .inr (.inl (fun _ => 0)))) (hsz : X.2.2.2.2.1.heap.size + ce = b + n) (hfr : 2 ≤ fr) (hlo : 44 ≤ lo) (hce : ce ≤ mc) (hsl : sl ≤ ms) (q1 : Cond.methodLink own index yX0_set ∈ rr_tb) (hdg : decode cc pc = .ok (.invokevirtual index, 3)) (k : rc_J X D nL Q b n (va_up f j (.inl (cy 12, 4, .inr (.inl (fun z => if z = 0 then 1 else 0))))) ce sl (pc + 3) lv []) : rc_J X D nL Q b n f ce sl pc lv [.long 1, .ref (b + i)] := by
  intro H locs ls hl hP hS
  subst hll
  have hRR := rc_room C
  have ht := C.2.2.2.2.1
  have hK := C.2.2.2.2.2.1.1
  have hG : (gg_one D cy b i j).2.2.1.Nodup := by simp [gg_one]; omega
  have hM := c_Big_set X.2.1 (gg_one D cy b i j) hG 5 (b + i) (by simp [gg_one]) (by simp [gg_one]) 1 (sg_one b j) _ (ev_set b i j)
  have hTT : rr_T (gg_one D cy b i j) (sg_one b j) := by
    intro a ha q t hq
    simp only [gg_one, List.mem_cons, List.not_mem_nil, or_false] at ha
    rcases ha with rfl | rfl
    · simp only [gg_one, if_true] at hq
      have hq9 : q = 0 ∧ t = 12 := by
        simp only [rr_rt] at hq
        by_cases h0 : q = 0
        · rw [if_pos h0] at hq; cases hq; exact ⟨h0, rfl⟩
        · rw [if_neg h0] at hq; cases hq
      obtain ⟨rfl, rfl⟩ := hq9
      refine ⟨by simp [gg_one, mg_r, sg_one], ?_⟩
      show (if b + j = b + i then 0 else 12) = 12
      rw [if_neg (by omega)]
    · have e : (gg_one D cy b i j).2.2.2.1 (b + j) = 12 := by
        show (if b + j = b + i then 0 else 12) = 12
        rw [if_neg (by omega)]
      rw [e] at hq
      simp [rr_rt] at hq
  have e1 : ∀ σ : rr_M, rr_ce (gg_one D cy b i j) σ (b + i) = .inr (0, rr_fs 0 σ (b + i)) := fun σ => rr_cO (by simp [gg_one]) (by decide)
  have e2 : ∀ σ : rr_M, rr_ce (gg_one D cy b i j) σ (b + j) = .inl (cy 12, 4, .inr (.inl (mg_l σ (b + j)))) := fun σ => rr_cJ (by show (if b + j = b + i then 0 else 12) = 12; rw [if_neg (by omega)])
  have hPP : rr_P (gg_one D cy b i j) (sg_one b j) H := by
    intro q w hq
    have hq2 : ([(b + i, rr_ce (gg_one D cy b i j) (sg_one b j) (b + i)), (b + j, rr_ce (gg_one D cy b i j) (sg_one b j) (b + j))] : va_W)[q]? = some w := hq
    rw [e1, e2] at hq2
    match q, hq2 with
    | 0, h =>
      cases h
      have h9 := hP.2 i _ (rc_at hi)
      rw [hfi] at h9
      exact h9
    | 1, h =>
      cases h
      have h9 := hP.2 j _ (rc_at hj)
      rw [hfj] at h9
      exact h9
    | q + 2, h => simp at h
  have hq0 := rc_at (b := b) (f := f) hi
  rw [hfi] at hq0
  have hrec := va_recv hK hP.2 (ci := 0) (q := (RX0, TX0, 2)) rfl hq0
  have hrun := va_runV (p := X.1) (l := X.2.1) (e := X.2.2.1) (R := X.2.2.2.1) (s := X.2.2.2.2.1) (m := X.2.2.2.2.2.1) (args := X.2.2.2.2.2.2.1) (below := X.2.2.2.2.2.2.2.1) (meth := X.2.2.2.2.2.2.2.2.1) (c := X.2.2.2.2.2.2.2.2.2) (H := H) (locs := locs) (cells := ce) (slots := sl) (C := yX0_set.cls) (As := [.long 1]) (rest := []) (b := b + i) (n := 1) (g := F0 X.2.2.2.2.2.1 pc ls [.long 1, .ref (b + i)]) ⟨C.1, C.2.1, C.2.2.1, C.2.2.2.1, ht⟩ hM ⟨callB_of 1 ht (rr_goodc q_273) rfl rfl rfl (ht _ q_6) (ht _ q1) hd_Big_set ⟨by rw [hRR.1]; show 1 + 1 ≤ fr; omega, by rw [hRR.2.1]; show 8 + (3 + 11) + 22 ≤ lo; omega⟩, ht _ q_271, ht _ q_272⟩ ⟨rr_blind, hrec, fun U hU hW => ⟨rfl, by rw [hU]; exact hPP, va_K.moved hW.alike hK, hTT⟩⟩ rfl rfl hl.1 rfl (lv_room (Nat.le_of_ble_eq_true rfl)) hdg ⟨by rw [hRR.2.2.1]; exact hce, by rw [hRR.2.2.2]; exact hsl⟩
  intro T hT Y
  obtain ⟨v, st₀, t, T', L, h0, Y', hL, w1, w2, ⟨hv, ⟨hP1, -, -⟩, hz, hk⟩, st⟩ := hrun T hT Y
  cases hv
  rw [h0] at hz hk
  have hup := Y'.heapSize
  have hsize : T'.heap.size = b + n := by
    have h1 : H.size = b + n := hP.1
    have h2 : H.size ≤ T'.heap.size := by rw [w1]; exact hz
    omega
  have hmem : ∀ q : Nat, q ∈ (gg_one D cy b i j).2.2.1 ↔ q = b + i ∨ q = b + j := fun q => by simp [gg_one]
  obtain ⟨t2, a1, b1⟩ := k T'.heap (locs ++ L) ls hl ⟨hsize, fun q w hq => by
      obtain ⟨hl9, rfl⟩ := rc_at_inv hq
      rw [w1]
      by_cases h1 : q = j
      · subst h1
        rw [va_up_self]
        have h9 := hP1 1 (b + q, rr_ce (gg_one D cy b i q) (sg_two b i q) (b + q)) rfl
        rw [e2] at h9
        have e3 : mg_l (sg_two b i q) (b + q) = fun z => if z = 0 then 1 else 0 := by
          funext z
          by_cases z0 : z = 0
          · subst z0; simp [mg_l, sg_two, sg_one, ms_i, ms_l, rr_u2]
          · by_cases z1 : z = 1
            · subst z1; simp [mg_l, sg_two, sg_one, ms_i, ms_l, rr_u2]
            · by_cases z2 : z = 2
              · subst z2; simp [mg_l, sg_two, sg_one, ms_i, ms_l, rr_u2]
              · simp [mg_l, sg_two, sg_one, ms_i, ms_l, rr_u2, z0, z1, z2]
        rw [e3] at h9
        exact h9
      · rw [va_up_ne _ _ h1]
        by_cases h2 : q = i
        · subst h2
          have h9 := hP1 0 (b + q, rr_ce (gg_one D cy b q j) (sg_two b q j) (b + q)) rfl
          rw [e1] at h9
          have e3 : rr_fs 0 (sg_two b q j) (b + q) = [.ref (b + j), .int 1] := by simp [rr_fs, mg_r, mg_i, sg_two, sg_one, ms_i, ms_l, rr_u2]
          rw [e3] at h9
          rw [hfi]
          exact h9
        · exact (hP.2 q _ (rc_at hl9)).kept (hk _ (by rw [hP.1]; show b + q < b + n; omega) (fun w => by have w9 := (hmem (b + q)).mp w; omega))⟩ ⟨Nat.le_trans hS.1 (by rw [w1]; exact hz), fun q h1 h2 => by rw [w1, hk q (Nat.lt_of_lt_of_le h1 hS.1) (fun w => h2 (by have w9 := (hmem q).mp w; show b ≤ q; omega))]; exact hS.2.1 q h1 h2, fun q hq => by
      rcases List.mem_append.mp hq with h | h
      · exact hS.2.2 q h
      · have h9 := (hmem q.base).mp (hL q h)
        show b ≤ q.base
        omega⟩ T' rfl Y'
  exact ⟨t2, st t2 a1, b1⟩
theorem rc_enter2 {D : va_G} {cy : Nat → ClassId} {cc : ByteArray} {fr lo mc ms b n : Nat} {f : Nat → va_E} {l : Launch} {y : MethodName} {maxL : Nat} {av : List Value} {Φ : Nat → (Nat → va_E) → Prop} {lv0 : List (Nat × Value)} (hy : plainName y.cls = true) (hin : y.name = "<init>") (hlen : (lg_sl av).length ≤ maxL) (hlv : lv_args 0 av = lv0)
    (body : ∀ X : rr_X, X.2.1 = l → X.2.2.2.2.1.heap.size = b + n → rc_C X D cy cc maxL y.cls fr lo mc ms b → rc_J X D maxL (rc_E X D cy b Φ mc ms) b n f 0 0 0 lv0 []) : rc_Met l D cy y cc maxL fr lo mc ms av b n f Φ := by
  refine Met.ofW (cc := cc) (maxL := maxL) (ret := none) hy rfl ?_
  intro p e s m args below meth c s₁ B hml hv
  obtain ⟨rfl, hP, hX, hbs⟩ := hv
  have hts := atoms_spec (ws := .code y cc maxL none :: rr_tb) B.pre
  have hown : s.vm.findClass y.cls = some m.cls := findClass_of_methodNamed B.named
  have hnm : meth.name = "<init>" := (name_of_methodNamed B.named B.method).1.trans hin
  have hl := lv_entry av (n := maxL) hlen
  rw [hlv] at hl
  rw [lg_entry_eq]
  exact body (p, l, e, { frames := fr, cells := mc, slots := ms, locals := lo }, s, m, av.toArray, below, meth, c) rfl hP.1 ⟨B.exec, B.bytes, hml, hown, fun w h => hts w (List.mem_cons_of_mem _ h), hX, B.notSynchronized, B.returns, hnm, rfl, hbs⟩ s.heap [] _ hl hP va_S.rf
theorem k_Pla (l : Launch) (D : va_G) (cy : Nat → ClassId) (b n : Nat) (f : Nat → va_E) (h ql qs qp : Nat) (hh : h < n) (hf : f h = .inr (3, [.null, .null, .null, .null, .null, .int 0, .int 0, .null, .null, .null, .null, .null, .null, .null, .int 0])) : rc_Met l D cy yX4_init cX4_init 4 2 44 21 181 [.ref (b + h), .ref (b + ql), .ref (b + qs), .ref (b + qp)] b n f (fun n1 f1 => n1 = n + 21 ∧ f1 h = .inr (3, [.ref (b + ql), .ref (b + qs), .ref (b + qp), .ref (b + n), .ref (b + (n + 10)), .int 0, .int 0, .ref (b + (n + 11)), .ref (b + (n + 12)), .ref (b + (n + 13)), .ref (b + (n + 14)), .ref (b + (n + 15)), .ref (b + (n + 17)), .ref (b + (n + 19)), .int 0]) ∧ f1 (n) = .inl (cy 16, 9, .inr (.inr (.inr (.inr (fun j => if j < 9 then some (b + (n + 1 + j)) else none))))) ∧ (∀ j, j < 9 → f1 (n + 1 + j) = .inl (cy 12, 9, .inr (.inl (fun _ => 0)))) ∧ f1 (n + 10) = .inl (cy 12, 9, .inr (.inl (fun _ => 0))) ∧ f1 (n + 11) = .inl (cy 12, 8, .inr (.inl (fun _ => 0))) ∧ f1 (n + 12) = .inl (cy 12, 8, .inr (.inl (fun _ => 0))) ∧ f1 (n + 13) = .inl (cy 11, 8, .inl (fun _ => 0)) ∧ f1 (n + 14) = .inl (cy 11, 8, .inl (fun _ => 0)) ∧ f1 (n + 15) = .inr (0, [.ref (b + (n + 16)), .int 1]) ∧ f1 (n + 16) = .inl (cy 12, 20, .inr (.inl (fun _ => 0))) ∧ f1 (n + 17) = .inr (0, [.ref (b + (n + 18)), .int 1]) ∧ f1 (n + 18) = .inl (cy 12, 20, .inr (.inl (fun _ => 0))) ∧ f1 (n + 19) = .inr (0, [.ref (b + (n + 20)), .int 1]) ∧ f1 (n + 20) = .inl (cy 12, 4, .inr (.inl (fun z => if z = 0 then 1 else 0))) ∧ ∀ i, i < n → i ≠ h → f1 i = f i) := by
  refine rc_enter2 (lv0 := [(0, .ref (b + h)), (1, .ref (b + ql)), (2, .ref (b + qs)), (3, .ref (b + qp))]) hq_Pla rfl (Nat.le_of_ble_eq_true rfl) rfl (fun X hll hsz C => ?_)
  replace C : rc_C X D cy cX4_init 4 "RootRows$Placer" 2 44 21 181 b := C
  refine ry_aload_n C 0 dX4_init_0 rfl ?_
  refine ry_obj (rest := []) C q_266 q_23 q_24 (by decide) (by decide) (Nat.le_of_ble_eq_true rfl) dX4_init_1 ?_
  refine ry_aload_n C 0 dX4_init_4 rfl ?_
  refine ry_bipush (v := 9) C dX4_init_5 rfl ?_
  refine ry_bipush (v := 9) C dX4_init_7 rfl ?_
  refine ry_mna C q_267 (by omega) (by omega) dX4_init_9 (fun g0 g0_1 g0_2 g0_3 => ?_)
  refine ry_put (i := h) (fs := [.null, .null, .null, .null, .null, .int 0, .int 0, .null, .null, .null, .null, .null, .null, .null, .int 0]) (fs1 := [.null, .null, .null, .ref (b + n), .null, .int 0, .int 0, .null, .null, .null, .null, .null, .null, .null, .int 0]) C 3 3 tyX4 tyX4_ok nmX4 inX4 rfl (by decide) q_284 rfl rfl (by omega) (by rw [g0_3 _ (by omega), hf]) (Nat.le_of_ble_eq_true rfl) rfl rfl rfl dX4_init_13 ?_
  refine ry_aload_n C 0 dX4_init_16 rfl ?_
  refine ry_bipush (v := 9) C dX4_init_17 rfl ?_
  refine ry_newa_l (N0 := 9) C (by decide) (by decide) (by decide) (by omega) (by omega) dX4_init_19 ?_
  refine ry_put (i := h) (fs := [.null, .null, .null, .ref (b + n), .null, .int 0, .int 0, .null, .null, .null, .null, .null, .null, .null, .int 0]) (fs1 := [.null, .null, .null, .ref (b + n), .ref (b + (n + 10)), .int 0, .int 0, .null, .null, .null, .null, .null, .null, .null, .int 0]) C 3 4 tyX4 tyX4_ok nmX4 inX4 rfl (by decide) q_285 rfl rfl (by omega) (by rw [va_up_ne _ _ (by omega), va_up_self]) (Nat.le_of_ble_eq_true rfl) rfl rfl rfl dX4_init_21 ?_
  refine ry_aload_n C 0 dX4_init_24 rfl ?_
  refine ry_bipush (v := 8) C dX4_init_25 rfl ?_
  refine ry_newa_l (N0 := 8) C (by decide) (by decide) (by decide) (by omega) (by omega) dX4_init_27 ?_
  refine ry_put (i := h) (fs := [.null, .null, .null, .ref (b + n), .ref (b + (n + 10)), .int 0, .int 0, .null, .null, .null, .null, .null, .null, .null, .int 0]) (fs1 := [.null, .null, .null, .ref (b + n), .ref (b + (n + 10)), .int 0, .int 0, .ref (b + (n + 11)), .null, .null, .null, .null, .null, .null, .int 0]) C 3 7 tyX4 tyX4_ok nmX4 inX4 rfl (by decide) q_288 rfl rfl (by omega) (by rw [va_up_ne _ _ (by omega), va_up_self]) (Nat.le_of_ble_eq_true rfl) rfl rfl rfl dX4_init_29 ?_
  refine ry_aload_n C 0 dX4_init_32 rfl ?_
  refine ry_bipush (v := 8) C dX4_init_33 rfl ?_
  refine ry_newa_l (N0 := 8) C (by decide) (by decide) (by decide) (by omega) (by omega) dX4_init_35 ?_
  refine ry_put (i := h) (fs := [.null, .null, .null, .ref (b + n), .ref (b + (n + 10)), .int 0, .int 0, .ref (b + (n + 11)), .null, .null, .null, .null, .null, .null, .int 0]) (fs1 := [.null, .null, .null, .ref (b + n), .ref (b + (n + 10)), .int 0, .int 0, .ref (b + (n + 11)), .ref (b + (n + 12)), .null, .null, .null, .null, .null, .int 0]) C 3 8 tyX4 tyX4_ok nmX4 inX4 rfl (by decide) q_289 rfl rfl (by omega) (by rw [va_up_ne _ _ (by omega), va_up_self]) (Nat.le_of_ble_eq_true rfl) rfl rfl rfl dX4_init_37 ?_
  refine ry_aload_n C 0 dX4_init_40 rfl ?_
  refine ry_bipush (v := 8) C dX4_init_41 rfl ?_
  refine ry_newa_i (N0 := 8) C (by decide) (by decide) (by decide) (by omega) (by omega) dX4_init_43 ?_
  refine ry_put (i := h) (fs := [.null, .null, .null, .ref (b + n), .ref (b + (n + 10)), .int 0, .int 0, .ref (b + (n + 11)), .ref (b + (n + 12)), .null, .null, .null, .null, .null, .int 0]) (fs1 := [.null, .null, .null, .ref (b + n), .ref (b + (n + 10)), .int 0, .int 0, .ref (b + (n + 11)), .ref (b + (n + 12)), .ref (b + (n + 13)), .null, .null, .null, .null, .int 0]) C 3 9 tyX4 tyX4_ok nmX4 inX4 rfl (by decide) q_290 rfl rfl (by omega) (by rw [va_up_ne _ _ (by omega), va_up_self]) (Nat.le_of_ble_eq_true rfl) rfl rfl rfl dX4_init_45 ?_
  refine ry_aload_n C 0 dX4_init_48 rfl ?_
  refine ry_bipush (v := 8) C dX4_init_49 rfl ?_
  refine ry_newa_i (N0 := 8) C (by decide) (by decide) (by decide) (by omega) (by omega) dX4_init_51 ?_
  refine ry_put (i := h) (fs := [.null, .null, .null, .ref (b + n), .ref (b + (n + 10)), .int 0, .int 0, .ref (b + (n + 11)), .ref (b + (n + 12)), .ref (b + (n + 13)), .null, .null, .null, .null, .int 0]) (fs1 := [.null, .null, .null, .ref (b + n), .ref (b + (n + 10)), .int 0, .int 0, .ref (b + (n + 11)), .ref (b + (n + 12)), .ref (b + (n + 13)), .ref (b + (n + 14)), .null, .null, .null, .int 0]) C 3 10 tyX4 tyX4_ok nmX4 inX4 rfl (by decide) q_291 rfl rfl (by omega) (by rw [va_up_ne _ _ (by omega), va_up_self]) (Nat.le_of_ble_eq_true rfl) rfl rfl rfl dX4_init_53 ?_
  refine ry_aload_n C 0 dX4_init_56 rfl ?_
  refine ry_new (ci := 0) (fs := [.null, .int 0]) C tyX0 tyX0_ok inX0 rfl q_268 q_150 q_6 bl_0 (by omega) (by omega) dX4_init_57 ?_
  refine ry_dup C dX4_init_60 rfl ?_
  refine ry_bipush (v := 20) C dX4_init_61 rfl ?_
  refine ry_call (i := n + 15) (rest := [.ref (b + (n + 15)), .ref (b + h)]) C hll (k_Big l D cy b (n + 16) _ (n + 15) 20 (by omega) (by rw [va_up_self]) (N0 := 20) rfl (by decide) (by decide)) q_269 q_152 q_6 q_153 rfl hk_Big ⟨by decide, by decide⟩ (by omega) (by omega) rfl rfl (Nat.le_of_ble_eq_true rfl) dX4_init_63 (fun nF1 fF1 hF1 => ?_)
  obtain ⟨eF1, hF1⟩ := hF1
  subst eF1
  refine ry_put (i := h) (fs := [.null, .null, .null, .ref (b + n), .ref (b + (n + 10)), .int 0, .int 0, .ref (b + (n + 11)), .ref (b + (n + 12)), .ref (b + (n + 13)), .ref (b + (n + 14)), .null, .null, .null, .int 0]) (fs1 := [.null, .null, .null, .ref (b + n), .ref (b + (n + 10)), .int 0, .int 0, .ref (b + (n + 11)), .ref (b + (n + 12)), .ref (b + (n + 13)), .ref (b + (n + 14)), .ref (b + (n + 15)), .null, .null, .int 0]) C 3 11 tyX4 tyX4_ok nmX4 inX4 rfl (by decide) q_292 rfl rfl (by omega) (by rw [hF1.2.2 _ (by omega) (by omega), va_up_ne _ _ (by omega), va_up_self]) (Nat.le_of_ble_eq_true rfl) rfl rfl rfl dX4_init_66 ?_
  refine ry_aload_n C 0 dX4_init_69 rfl ?_
  refine ry_new (ci := 0) (fs := [.null, .int 0]) C tyX0 tyX0_ok inX0 rfl q_268 q_150 q_6 bl_0 (by omega) (by omega) dX4_init_70 ?_
  refine ry_dup C dX4_init_73 rfl ?_
  refine ry_bipush (v := 20) C dX4_init_74 rfl ?_
  refine ry_call (i := n + 17) (rest := [.ref (b + (n + 17)), .ref (b + h)]) C hll (k_Big l D cy b (n + 18) _ (n + 17) 20 (by omega) (by rw [va_up_self]) (N0 := 20) rfl (by decide) (by decide)) q_269 q_152 q_6 q_153 rfl hk_Big ⟨by decide, by decide⟩ (by omega) (by omega) rfl rfl (Nat.le_of_ble_eq_true rfl) dX4_init_76 (fun nF2 fF2 hF2 => ?_)
  obtain ⟨eF2, hF2⟩ := hF2
  subst eF2
  refine ry_put (i := h) (fs := [.null, .null, .null, .ref (b + n), .ref (b + (n + 10)), .int 0, .int 0, .ref (b + (n + 11)), .ref (b + (n + 12)), .ref (b + (n + 13)), .ref (b + (n + 14)), .ref (b + (n + 15)), .null, .null, .int 0]) (fs1 := [.null, .null, .null, .ref (b + n), .ref (b + (n + 10)), .int 0, .int 0, .ref (b + (n + 11)), .ref (b + (n + 12)), .ref (b + (n + 13)), .ref (b + (n + 14)), .ref (b + (n + 15)), .ref (b + (n + 17)), .null, .int 0]) C 3 12 tyX4 tyX4_ok nmX4 inX4 rfl (by decide) q_293 rfl rfl (by omega) (by rw [hF2.2.2 _ (by omega) (by omega), va_up_ne _ _ (by omega), va_up_self]) (Nat.le_of_ble_eq_true rfl) rfl rfl rfl dX4_init_79 ?_
  refine ry_aload_n C 0 dX4_init_82 rfl ?_
  refine ry_new (ci := 0) (fs := [.null, .int 0]) C tyX0 tyX0_ok inX0 rfl q_268 q_150 q_6 bl_0 (by omega) (by omega) dX4_init_83 ?_
  refine ry_dup C dX4_init_86 rfl ?_
  refine ry_iconst (v := 4) C dX4_init_87 rfl ?_
  refine ry_call (i := n + 19) (rest := [.ref (b + (n + 19)), .ref (b + h)]) C hll (k_Big l D cy b (n + 20) _ (n + 19) 4 (by omega) (by rw [va_up_self]) (N0 := 4) rfl (by decide) (by decide)) q_269 q_152 q_6 q_153 rfl hk_Big ⟨by decide, by decide⟩ (by omega) (by omega) rfl rfl (Nat.le_of_ble_eq_true rfl) dX4_init_88 (fun nF3 fF3 hF3 => ?_)
  obtain ⟨eF3, hF3⟩ := hF3
  subst eF3
  refine ry_put (i := h) (fs := [.null, .null, .null, .ref (b + n), .ref (b + (n + 10)), .int 0, .int 0, .ref (b + (n + 11)), .ref (b + (n + 12)), .ref (b + (n + 13)), .ref (b + (n + 14)), .ref (b + (n + 15)), .ref (b + (n + 17)), .null, .int 0]) (fs1 := [.null, .null, .null, .ref (b + n), .ref (b + (n + 10)), .int 0, .int 0, .ref (b + (n + 11)), .ref (b + (n + 12)), .ref (b + (n + 13)), .ref (b + (n + 14)), .ref (b + (n + 15)), .ref (b + (n + 17)), .ref (b + (n + 19)), .int 0]) C 3 13 tyX4 tyX4_ok nmX4 inX4 rfl (by decide) q_294 rfl rfl (by omega) (by rw [hF3.2.2 _ (by omega) (by omega), va_up_ne _ _ (by omega), va_up_self]) (Nat.le_of_ble_eq_true rfl) rfl rfl rfl dX4_init_91 ?_
  refine ry_aload_n C 0 dX4_init_94 rfl ?_
  refine ry_aload_n C 1 dX4_init_95 rfl ?_
  refine ry_put (i := h) (fs := [.null, .null, .null, .ref (b + n), .ref (b + (n + 10)), .int 0, .int 0, .ref (b + (n + 11)), .ref (b + (n + 12)), .ref (b + (n + 13)), .ref (b + (n + 14)), .ref (b + (n + 15)), .ref (b + (n + 17)), .ref (b + (n + 19)), .int 0]) (fs1 := [.ref (b + ql), .null, .null, .ref (b + n), .ref (b + (n + 10)), .int 0, .int 0, .ref (b + (n + 11)), .ref (b + (n + 12)), .ref (b + (n + 13)), .ref (b + (n + 14)), .ref (b + (n + 15)), .ref (b + (n + 17)), .ref (b + (n + 19)), .int 0]) C 3 0 tyX4 tyX4_ok nmX4 inX4 rfl (by decide) q_281 rfl rfl (by omega) (by rw [va_up_self]) (Nat.le_of_ble_eq_true rfl) rfl rfl rfl dX4_init_96 ?_
  refine ry_aload_n C 0 dX4_init_99 rfl ?_
  refine ry_aload_n C 2 dX4_init_100 rfl ?_
  refine ry_put (i := h) (fs := [.ref (b + ql), .null, .null, .ref (b + n), .ref (b + (n + 10)), .int 0, .int 0, .ref (b + (n + 11)), .ref (b + (n + 12)), .ref (b + (n + 13)), .ref (b + (n + 14)), .ref (b + (n + 15)), .ref (b + (n + 17)), .ref (b + (n + 19)), .int 0]) (fs1 := [.ref (b + ql), .ref (b + qs), .null, .ref (b + n), .ref (b + (n + 10)), .int 0, .int 0, .ref (b + (n + 11)), .ref (b + (n + 12)), .ref (b + (n + 13)), .ref (b + (n + 14)), .ref (b + (n + 15)), .ref (b + (n + 17)), .ref (b + (n + 19)), .int 0]) C 3 1 tyX4 tyX4_ok nmX4 inX4 rfl (by decide) q_282 rfl rfl (by omega) (by rw [va_up_self]) (Nat.le_of_ble_eq_true rfl) rfl rfl rfl dX4_init_101 ?_
  refine ry_aload_n C 0 dX4_init_104 rfl ?_
  refine ry_aload_n C 3 dX4_init_105 rfl ?_
  refine ry_put (i := h) (fs := [.ref (b + ql), .ref (b + qs), .null, .ref (b + n), .ref (b + (n + 10)), .int 0, .int 0, .ref (b + (n + 11)), .ref (b + (n + 12)), .ref (b + (n + 13)), .ref (b + (n + 14)), .ref (b + (n + 15)), .ref (b + (n + 17)), .ref (b + (n + 19)), .int 0]) (fs1 := [.ref (b + ql), .ref (b + qs), .ref (b + qp), .ref (b + n), .ref (b + (n + 10)), .int 0, .int 0, .ref (b + (n + 11)), .ref (b + (n + 12)), .ref (b + (n + 13)), .ref (b + (n + 14)), .ref (b + (n + 15)), .ref (b + (n + 17)), .ref (b + (n + 19)), .int 0]) C 3 2 tyX4 tyX4_ok nmX4 inX4 rfl (by decide) q_283 rfl rfl (by omega) (by rw [va_up_self]) (Nat.le_of_ble_eq_true rfl) rfl rfl rfl dX4_init_106 ?_
  refine ry_aload_n C 0 dX4_init_109 rfl ?_
  refine ry_get (i := h) (fs := [.ref (b + ql), .ref (b + qs), .ref (b + qp), .ref (b + n), .ref (b + (n + 10)), .int 0, .int 0, .ref (b + (n + 11)), .ref (b + (n + 12)), .ref (b + (n + 13)), .ref (b + (n + 14)), .ref (b + (n + 15)), .ref (b + (n + 17)), .ref (b + (n + 19)), .int 0]) (v := .ref (b + (n + 19))) C 3 13 inX4 rfl (by decide) q_294 (by omega) (by rw [va_up_self]) rfl dX4_init_110 ?_
  refine ry_lconst (v := 1) C dX4_init_113 rfl ?_
  refine ry_set1 C hll (n + 19) (n + 20) (by omega) (by omega) (by omega) (by rw [va_up_ne _ _ (by omega), va_up_ne _ _ (by omega), va_up_ne _ _ (by omega), va_up_ne _ _ (by omega), hF3.1]) (by rw [va_up_ne _ _ (by omega), va_up_ne _ _ (by omega), va_up_ne _ _ (by omega), va_up_ne _ _ (by omega), hF3.2.1]) (by rw [hsz]; omega) (by decide) (by decide) (by omega) (by omega) q_270 dX4_init_114 ?_
  exact ry_ret C dX4_init_117 ⟨rfl, by rw [va_up_ne _ _ (by omega), va_up_self], by rw [va_up_ne _ _ (by omega), va_up_ne _ _ (by omega), va_up_ne _ _ (by omega), va_up_ne _ _ (by omega), va_up_ne _ _ (by omega), hF3.2.2 _ (by omega) (by omega), va_up_ne _ _ (by omega), va_up_ne _ _ (by omega), hF2.2.2 _ (by omega) (by omega), va_up_ne _ _ (by omega), va_up_ne _ _ (by omega), hF1.2.2 _ (by omega) (by omega), va_up_ne _ _ (by omega), va_up_ne _ _ (by omega), va_up_ne _ _ (by omega), va_up_ne _ _ (by omega), va_up_ne _ _ (by omega), va_up_ne _ _ (by omega), va_up_ne _ _ (by omega), va_up_ne _ _ (by omega), va_up_ne _ _ (by omega), va_up_ne _ _ (by omega), va_up_ne _ _ (by omega), va_up_ne _ _ (by omega), g0_1], fun j hj => by rw [va_up_ne _ _ (by omega), va_up_ne _ _ (by omega), va_up_ne _ _ (by omega), va_up_ne _ _ (by omega), va_up_ne _ _ (by omega), hF3.2.2 _ (by omega) (by omega), va_up_ne _ _ (by omega), va_up_ne _ _ (by omega), hF2.2.2 _ (by omega) (by omega), va_up_ne _ _ (by omega), va_up_ne _ _ (by omega), hF1.2.2 _ (by omega) (by omega), va_up_ne _ _ (by omega), va_up_ne _ _ (by omega), va_up_ne _ _ (by omega), va_up_ne _ _ (by omega), va_up_ne _ _ (by omega), va_up_ne _ _ (by omega), va_up_ne _ _ (by omega), va_up_ne _ _ (by omega), va_up_ne _ _ (by omega), va_up_ne _ _ (by omega), va_up_ne _ _ (by omega), va_up_ne _ _ (by omega), g0_2 j hj], by rw [va_up_ne _ _ (by omega), va_up_ne _ _ (by omega), va_up_ne _ _ (by omega), va_up_ne _ _ (by omega), va_up_ne _ _ (by omega), hF3.2.2 _ (by omega) (by omega), va_up_ne _ _ (by omega), va_up_ne _ _ (by omega), hF2.2.2 _ (by omega) (by omega), va_up_ne _ _ (by omega), va_up_ne _ _ (by omega), hF1.2.2 _ (by omega) (by omega), va_up_ne _ _ (by omega), va_up_ne _ _ (by omega), va_up_ne _ _ (by omega), va_up_ne _ _ (by omega), va_up_ne _ _ (by omega), va_up_ne _ _ (by omega), va_up_ne _ _ (by omega), va_up_ne _ _ (by omega), va_up_ne _ _ (by omega), va_up_ne _ _ (by omega), va_up_self], by rw [va_up_ne _ _ (by omega), va_up_ne _ _ (by omega), va_up_ne _ _ (by omega), va_up_ne _ _ (by omega), va_up_ne _ _ (by omega), hF3.2.2 _ (by omega) (by omega), va_up_ne _ _ (by omega), va_up_ne _ _ (by omega), hF2.2.2 _ (by omega) (by omega), va_up_ne _ _ (by omega), va_up_ne _ _ (by omega), hF1.2.2 _ (by omega) (by omega), va_up_ne _ _ (by omega), va_up_ne _ _ (by omega), va_up_ne _ _ (by omega), va_up_ne _ _ (by omega), va_up_ne _ _ (by omega), va_up_ne _ _ (by omega), va_up_ne _ _ (by omega), va_up_ne _ _ (by omega), va_up_self], by rw [va_up_ne _ _ (by omega), va_up_ne _ _ (by omega), va_up_ne _ _ (by omega), va_up_ne _ _ (by omega), va_up_ne _ _ (by omega), hF3.2.2 _ (by omega) (by omega), va_up_ne _ _ (by omega), va_up_ne _ _ (by omega), hF2.2.2 _ (by omega) (by omega), va_up_ne _ _ (by omega), va_up_ne _ _ (by omega), hF1.2.2 _ (by omega) (by omega), va_up_ne _ _ (by omega), va_up_ne _ _ (by omega), va_up_ne _ _ (by omega), va_up_ne _ _ (by omega), va_up_ne _ _ (by omega), va_up_ne _ _ (by omega), va_up_self], by rw [va_up_ne _ _ (by omega), va_up_ne _ _ (by omega), va_up_ne _ _ (by omega), va_up_ne _ _ (by omega), va_up_ne _ _ (by omega), hF3.2.2 _ (by omega) (by omega), va_up_ne _ _ (by omega), va_up_ne _ _ (by omega), hF2.2.2 _ (by omega) (by omega), va_up_ne _ _ (by omega), va_up_ne _ _ (by omega), hF1.2.2 _ (by omega) (by omega), va_up_ne _ _ (by omega), va_up_ne _ _ (by omega), va_up_ne _ _ (by omega), va_up_ne _ _ (by omega), va_up_self], by rw [va_up_ne _ _ (by omega), va_up_ne _ _ (by omega), va_up_ne _ _ (by omega), va_up_ne _ _ (by omega), va_up_ne _ _ (by omega), hF3.2.2 _ (by omega) (by omega), va_up_ne _ _ (by omega), va_up_ne _ _ (by omega), hF2.2.2 _ (by omega) (by omega), va_up_ne _ _ (by omega), va_up_ne _ _ (by omega), hF1.2.2 _ (by omega) (by omega), va_up_ne _ _ (by omega), va_up_ne _ _ (by omega), va_up_self], by rw [va_up_ne _ _ (by omega), va_up_ne _ _ (by omega), va_up_ne _ _ (by omega), va_up_ne _ _ (by omega), va_up_ne _ _ (by omega), hF3.2.2 _ (by omega) (by omega), va_up_ne _ _ (by omega), va_up_ne _ _ (by omega), hF2.2.2 _ (by omega) (by omega), va_up_ne _ _ (by omega), va_up_ne _ _ (by omega), hF1.1], by rw [va_up_ne _ _ (by omega), va_up_ne _ _ (by omega), va_up_ne _ _ (by omega), va_up_ne _ _ (by omega), va_up_ne _ _ (by omega), hF3.2.2 _ (by omega) (by omega), va_up_ne _ _ (by omega), va_up_ne _ _ (by omega), hF2.2.2 _ (by omega) (by omega), va_up_ne _ _ (by omega), va_up_ne _ _ (by omega), hF1.2.1], by rw [va_up_ne _ _ (by omega), va_up_ne _ _ (by omega), va_up_ne _ _ (by omega), va_up_ne _ _ (by omega), va_up_ne _ _ (by omega), hF3.2.2 _ (by omega) (by omega), va_up_ne _ _ (by omega), va_up_ne _ _ (by omega), hF2.1], by rw [va_up_ne _ _ (by omega), va_up_ne _ _ (by omega), va_up_ne _ _ (by omega), va_up_ne _ _ (by omega), va_up_ne _ _ (by omega), hF3.2.2 _ (by omega) (by omega), va_up_ne _ _ (by omega), va_up_ne _ _ (by omega), hF2.2.1], by rw [va_up_ne _ _ (by omega), va_up_ne _ _ (by omega), va_up_ne _ _ (by omega), va_up_ne _ _ (by omega), va_up_ne _ _ (by omega), hF3.1], by rw [va_up_self], fun i h1 h2 => by rw [va_up_ne _ _ (by omega), va_up_ne _ _ (by omega), va_up_ne _ _ (by omega), va_up_ne _ _ (by omega), va_up_ne _ _ (by omega), hF3.2.2 _ (by omega) (by omega), va_up_ne _ _ (by omega), va_up_ne _ _ (by omega), hF2.2.2 _ (by omega) (by omega), va_up_ne _ _ (by omega), va_up_ne _ _ (by omega), hF1.2.2 _ (by omega) (by omega), va_up_ne _ _ (by omega), va_up_ne _ _ (by omega), va_up_ne _ _ (by omega), va_up_ne _ _ (by omega), va_up_ne _ _ (by omega), va_up_ne _ _ (by omega), va_up_ne _ _ (by omega), va_up_ne _ _ (by omega), va_up_ne _ _ (by omega), va_up_ne _ _ (by omega), va_up_ne _ _ (by omega), va_up_ne _ _ (by omega), g0_3 _ (by omega)]⟩
theorem kl_Roo1 {X : rr_X} {D : va_G} {cy : Nat → ClassId} {l : Launch} {Q : State → Prop} {lo mc ms b fr : Nat} (hfr : 2 ≤ fr) (hlo : 40 ≤ lo) (hll : X.2.1 = l) (C : rc_C X D cy cX10_init 2 "RootRows" fr lo mc ms b) (base h ar ce0 sl0 : Nat) (f0 : Nat → va_E) (OBJ : List Value) (hh : h < base) (ha : ar < base) (hne : h ≠ ar) (hce : ce0 + 56 ≤ mc) (hsl : sl0 + 528 ≤ ms) (hf0 : f0 h = .inr (8, OBJ)) (hv : OBJ[0]? = some (.ref (b + ar))) (kont : ∀ f1 : Nat → va_E, f1 ar = .inl (cy 15, 8, .inr (.inr (.inr (.inr (fun j => if j < 8 then some (b + (base + 7 * j)) else none))))) → (∀ j, j < 8 → f1 (base + 7 * j) = .inr (7, [.ref (b + (base + 7 * j + 1)), .int 0, .int 0, .int 0, .int 0, .int 0, .int 0, .ref (b + (base + 7 * j + 1 + 1)), .ref (b + (base + 7 * j + 1 + 2)), .int 0, .ref (b + (base + 7 * j + 1 + 3)), .ref (b + (base + 7 * j + 1 + 4)), .ref (b + (base + 7 * j + 1 + 5))]) ∧ f1 (base + 7 * j + 1) = .inl (cy 12, 9, .inr (.inl (fun _ => 0))) ∧ f1 (base + 7 * j + 1 + 1) = .inl (cy 11, 10, .inl (fun _ => 0)) ∧ f1 (base + 7 * j + 1 + 2) = .inl (cy 11, 10, .inl (fun _ => 0)) ∧ f1 (base + 7 * j + 1 + 3) = .inl (cy 12, 8, .inr (.inl (fun _ => 0))) ∧ f1 (base + 7 * j + 1 + 4) = .inl (cy 13, 8, .inl (fun _ => 0)) ∧ f1 (base + 7 * j + 1 + 5) = .inl (cy 11, 8, .inl (fun _ => 0))) → (∀ i, i < base → i ≠ ar → f1 i = f0 i) → rc_J X D 2 Q b (base + 56) f1 (ce0 + 56) (sl0 + 528) 40 [(1, .int (nI 8)), (0, .ref (b + h))] []) : ∀ (z k : Nat), k + z = 8 → ∀ f : Nat → va_E, f ar = .inl (cy 15, 8, .inr (.inr (.inr (.inr (fun j => if j < k then some (b + (base + 7 * j)) else none))))) → (∀ j, j < k → f (base + 7 * j) = .inr (7, [.ref (b + (base + 7 * j + 1)), .int 0, .int 0, .int 0, .int 0, .int 0, .int 0, .ref (b + (base + 7 * j + 1 + 1)), .ref (b + (base + 7 * j + 1 + 2)), .int 0, .ref (b + (base + 7 * j + 1 + 3)), .ref (b + (base + 7 * j + 1 + 4)), .ref (b + (base + 7 * j + 1 + 5))]) ∧ f (base + 7 * j + 1) = .inl (cy 12, 9, .inr (.inl (fun _ => 0))) ∧ f (base + 7 * j + 1 + 1) = .inl (cy 11, 10, .inl (fun _ => 0)) ∧ f (base + 7 * j + 1 + 2) = .inl (cy 11, 10, .inl (fun _ => 0)) ∧ f (base + 7 * j + 1 + 3) = .inl (cy 12, 8, .inr (.inl (fun _ => 0))) ∧ f (base + 7 * j + 1 + 4) = .inl (cy 13, 8, .inl (fun _ => 0)) ∧ f (base + 7 * j + 1 + 5) = .inl (cy 11, 8, .inl (fun _ => 0))) → (∀ i, i < base → i ≠ ar → f i = f0 i) → rc_J X D 2 Q b (base + 7 * k) f (ce0 + 7 * k) (sl0 + 66 * k) 15 [(1, .int (nI k)), (0, .ref (b + h))] [] := by
  intro z
  induction z with
  | zero =>
    intro k hk f har hbg hot
    have hk : k = 8 := by omega
    subst hk
    refine ry_iload_n C 0 dX10_init_15 rfl ?_
    refine ry_bipush (v := nI 8) C dX10_init_16 rfl ?_
    refine ry_icmp_ge (tgt := 40) C dX10_init_18 (by decide) (fun hc => ?_) (fun hc => ?_)
    · exact kont f har hbg hot
    · exact absurd (nI_le (Nat.le_refl _) (by omega)) hc
  | succ z ih =>
    intro k hk f har hbg hot
    refine ry_iload_n C 0 dX10_init_15 rfl ?_
    refine ry_bipush (v := nI 8) C dX10_init_16 rfl ?_
    refine ry_icmp_ge (tgt := 40) C dX10_init_18 (by decide) (fun hc => ?_) (fun hc => ?_)
    · exact absurd ((nI_leI (by omega) (by omega)).mp hc) (by omega)
    refine ry_aload_n C 1 dX10_init_21 rfl ?_
    refine ry_get (i := h) (fs := OBJ) (v := .ref (b + ar)) C 8 0 inX10 rfl (by decide) q_327 (by omega) (by rw [hot _ (by omega) (by omega), hf0]) hv dX10_init_22 ?_
    refine ry_iload_n C 0 dX10_init_25 rfl ?_
    refine ry_new (ci := 7) (fs := [.null, .int 0, .int 0, .int 0, .int 0, .int 0, .int 0, .null, .null, .int 0, .null, .null, .null]) C tyX9 tyX9_ok inX9 rfl q_25 q_27 q_2 bl_7 (by omega) (by omega) dX10_init_26 ?_
    refine ry_dup C dX10_init_29 rfl ?_
    refine ry_callN (i := base + 7 * k) (rest := [.ref (b + (base + 7 * k)), .int (nI k), .ref (b + ar)]) C hll (k_Tra l D cy b (base + 7 * k + 1) _ (base + 7 * k) (by omega) (by rw [va_up_self])) C.2.2.2.2.2.1.2.2.2.2.2.1 q_29 q_2 q_30 rfl hk_Tra ⟨by omega, by omega⟩ (by omega) (by omega) rfl rfl (Nat.le_of_ble_eq_true rfl) dX10_init_30 (fun nF fF hF => ?_)
    obtain ⟨eF, hF0, hF_0, hF_1, hF_2, hF_3, hF_4, hF_5, hF9⟩ := hF
    subst eF
    refine ry_aast (t0 := 5) (kd := 15) (ci := 7) (r := (RX9, TX9, 13)) (vs := [.ref (b + (base + 7 * k + 1)), .int 0, .int 0, .int 0, .int 0, .int 0, .int 0, .ref (b + (base + 7 * k + 1 + 1)), .ref (b + (base + 7 * k + 1 + 2)), .int 0, .ref (b + (base + 7 * k + 1 + 3)), .ref (b + (base + 7 * k + 1 + 4)), .ref (b + (base + 7 * k + 1 + 5))]) (g := fun j => if j < k then some (b + (base + 7 * j)) else none) (N0 := 8) C rfl rfl (by omega) (by rw [hF9 _ (by omega) (by omega), va_up_ne _ _ (by omega), har]) (by omega) hF0 (vp_in_nI (by omega) (by omega)) dX10_init_33 ?_
    refine ry_iinc (v := nI (k + 1)) (lv1 := [(1, .int (nI (k + 1))), (0, .ref (b + h))]) C 0 dX10_init_34 rfl (nI_1 k) (by omega) rfl ?_
    refine ry_goto (tgt := 15) C dX10_init_37 (by decide) ?_
    rw [show base + 7 * k + 1 + 6 = base + 7 * (k + 1) by omega, show ce0 + 7 * k + 1 + 6 = ce0 + 7 * (k + 1) by omega, show sl0 + 66 * k + 13 + 53 = sl0 + 66 * (k + 1) by omega]
    refine ih (k + 1) (by omega) _ ?_ ?_ ?_
    · rw [va_up_self]
      congr 7
      funext j
      rw [nI_clamp (by omega)]
      by_cases hj : j = k
      · subst hj
        rw [va_up_self, if_pos (by omega)]
      · rw [va_up_ne _ _ hj]
        by_cases h2 : j < k
        · rw [if_pos h2, if_pos (by omega)]
        · rw [if_neg h2, if_neg (by omega)]
    · intro j hj
      by_cases h2 : j = k
      · subst h2
        exact ⟨by rw [va_up_ne _ _ (by omega), hF0], by rw [va_up_ne _ _ (by omega), hF_0], by rw [va_up_ne _ _ (by omega), hF_1], by rw [va_up_ne _ _ (by omega), hF_2], by rw [va_up_ne _ _ (by omega), hF_3], by rw [va_up_ne _ _ (by omega), hF_4], by rw [va_up_ne _ _ (by omega), hF_5]⟩
      · have h3 := hbg j (by omega)
        exact ⟨by rw [va_up_ne _ _ (by omega), hF9 _ (by omega) (by omega), va_up_ne _ _ (by omega), h3.1], by rw [va_up_ne _ _ (by omega), hF9 _ (by omega) (by omega), va_up_ne _ _ (by omega), h3.2.1], by rw [va_up_ne _ _ (by omega), hF9 _ (by omega) (by omega), va_up_ne _ _ (by omega), h3.2.2.1], by rw [va_up_ne _ _ (by omega), hF9 _ (by omega) (by omega), va_up_ne _ _ (by omega), h3.2.2.2.1], by rw [va_up_ne _ _ (by omega), hF9 _ (by omega) (by omega), va_up_ne _ _ (by omega), h3.2.2.2.2.1], by rw [va_up_ne _ _ (by omega), hF9 _ (by omega) (by omega), va_up_ne _ _ (by omega), h3.2.2.2.2.2.1], by rw [va_up_ne _ _ (by omega), hF9 _ (by omega) (by omega), va_up_ne _ _ (by omega), h3.2.2.2.2.2.2]⟩
    · intro i h1 h2
      rw [va_up_ne _ _ h2, hF9 _ (by omega) (by omega), va_up_ne _ _ (by omega)]
      exact hot i h1 h2
def rc_roo (cy : Nat → ClassId) (b n h : Nat) (f1 : Nat → va_E) : Prop := f1 h = .inr (8, [.ref (b + n), .ref (b + (n + 57)), .ref (b + (n + 60)), .ref (b + (n + 305)), .ref (b + (n + 318)), .ref (b + (n + 62)), .ref (b + (n + 279))]) ∧ f1 (n) = .inl (cy 15, 8, .inr (.inr (.inr (.inr (fun j => if j < 8 then some (b + (n + 1 + 7 * j)) else none))))) ∧ f1 (n + 57) = .inr (6, [.ref (b + (n + 58)), .int 0, .int 0, .ref (b + (n + 59)), .int 0, .int 0, .long 0, .int 0]) ∧ f1 (n + 58) = .inl (cy 11, 200, .inl (fun _ => 0)) ∧ f1 (n + 59) = .inl (cy 12, 9, .inr (.inl (fun _ => 0))) ∧ f1 (n + 60) = .inr (2, [.ref (b + (n + 61))]) ∧ f1 (n + 61) = .inl (cy 12, 17, .inr (.inl (fun _ => 0))) ∧ f1 (n + 62) = .inr (5, [.ref (b + (n + 63)), .ref (b + (n + 64)), .ref (b + (n + 65)), .int 0, .ref (b + (n + 66)), .ref (b + (n + 67)), .ref (b + (n + 69)), .ref (b + (n + 71)), .ref (b + (n + 73)), .ref (b + (n + 75)), .ref (b + (n + 77)), .ref (b + (n + 79))]) ∧ f1 (n + 63) = .inl (cy 14, 90, .inr (.inr (.inr (.inr (fun j => if j < 90 then some (b + (n + 81 + 2 * j)) else none))))) ∧ f1 (n + 64) = .inl (cy 11, 10, .inl (fun _ => 0)) ∧ f1 (n + 65) = .inl (cy 11, 10, .inl (fun _ => 0)) ∧ f1 (n + 66) = .inl (cy 14, 9, .inr (.inr (.inr (.inr (fun j => if j < 9 then some (b + (n + 261 + 2 * j)) else none))))) ∧ f1 (n + 67) = .inr (0, [.ref (b + (n + 68)), .int 1]) ∧ f1 (n + 68) = .inl (cy 12, 96, .inr (.inl (fun _ => 0))) ∧ f1 (n + 69) = .inr (0, [.ref (b + (n + 70)), .int 1]) ∧ f1 (n + 70) = .inl (cy 12, 96, .inr (.inl (fun _ => 0))) ∧ f1 (n + 71) = .inr (0, [.ref (b + (n + 72)), .int 1]) ∧ f1 (n + 72) = .inl (cy 12, 96, .inr (.inl (fun _ => 0))) ∧ f1 (n + 73) = .inr (0, [.ref (b + (n + 74)), .int 1]) ∧ f1 (n + 74) = .inl (cy 12, 96, .inr (.inl (fun _ => 0))) ∧ f1 (n + 75) = .inr (0, [.ref (b + (n + 76)), .int 1]) ∧ f1 (n + 76) = .inl (cy 12, 24, .inr (.inl (fun _ => 0))) ∧ f1 (n + 77) = .inr (0, [.ref (b + (n + 78)), .int 1]) ∧ f1 (n + 78) = .inl (cy 12, 24, .inr (.inl (fun _ => 0))) ∧ f1 (n + 79) = .inr (0, [.ref (b + (n + 80)), .int 1]) ∧ f1 (n + 80) = .inl (cy 12, 24, .inr (.inl (fun _ => 0))) ∧ f1 (n + 279) = .inr (4, [.ref (b + (n + 280)), .int 0, .ref (b + (n + 282)), .ref (b + (n + 283)), .ref (b + (n + 285))]) ∧ f1 (n + 280) = .inr (0, [.ref (b + (n + 281)), .int 1]) ∧ f1 (n + 281) = .inl (cy 12, 20, .inr (.inl (fun _ => 0))) ∧ f1 (n + 282) = .inl (cy 14, 9, .inr (.inr (.inr (.inr (fun j => if j < 9 then some (b + (n + 287 + 2 * j)) else none))))) ∧ f1 (n + 283) = .inr (0, [.ref (b + (n + 284)), .int 1]) ∧ f1 (n + 284) = .inl (cy 12, 96, .inr (.inl (fun _ => 0))) ∧ f1 (n + 285) = .inr (0, [.ref (b + (n + 286)), .int 1]) ∧ f1 (n + 286) = .inl (cy 12, 96, .inr (.inl (fun _ => 0))) ∧ f1 (n + 305) = .inr (1, [.ref (b + (n + 306)), .ref (b + (n + 316)), .int 0, .ref (b + (n + 62)), .ref (b + (n + 317))]) ∧ f1 (n + 306) = .inl (cy 16, 9, .inr (.inr (.inr (.inr (fun j => if j < 9 then some (b + (n + 306 + 1 + j)) else none))))) ∧ f1 (n + 316) = .inl (cy 11, 9, .inl (fun _ => 0)) ∧ f1 (n + 317) = .inl (cy 12, 9, .inr (.inl (fun _ => 0))) ∧ f1 (n + 318) = .inr (3, [.ref (b + (n + 305)), .ref (b + (n + 62)), .ref (b + (n + 279)), .ref (b + (n + 319)), .ref (b + (n + 329)), .int 0, .int 0, .ref (b + (n + 330)), .ref (b + (n + 331)), .ref (b + (n + 332)), .ref (b + (n + 333)), .ref (b + (n + 334)), .ref (b + (n + 336)), .ref (b + (n + 338)), .int 0]) ∧ f1 (n + 319) = .inl (cy 16, 9, .inr (.inr (.inr (.inr (fun j => if j < 9 then some (b + (n + 319 + 1 + j)) else none))))) ∧ f1 (n + 329) = .inl (cy 12, 9, .inr (.inl (fun _ => 0))) ∧ f1 (n + 330) = .inl (cy 12, 8, .inr (.inl (fun _ => 0))) ∧ f1 (n + 331) = .inl (cy 12, 8, .inr (.inl (fun _ => 0))) ∧ f1 (n + 332) = .inl (cy 11, 8, .inl (fun _ => 0)) ∧ f1 (n + 333) = .inl (cy 11, 8, .inl (fun _ => 0)) ∧ f1 (n + 334) = .inr (0, [.ref (b + (n + 335)), .int 1]) ∧ f1 (n + 335) = .inl (cy 12, 20, .inr (.inl (fun _ => 0))) ∧ f1 (n + 336) = .inr (0, [.ref (b + (n + 337)), .int 1]) ∧ f1 (n + 337) = .inl (cy 12, 20, .inr (.inl (fun _ => 0))) ∧ f1 (n + 338) = .inr (0, [.ref (b + (n + 339)), .int 1]) ∧ f1 (n + 339) = .inl (cy 12, 4, .inr (.inl (fun z => if z = 0 then 1 else 0))) ∧ (∀ j, j < 8 → f1 (n + 1 + 7 * j) = .inr (7, [.ref (b + (n + 1 + 7 * j + 1)), .int 0, .int 0, .int 0, .int 0, .int 0, .int 0, .ref (b + (n + 1 + 7 * j + 1 + 1)), .ref (b + (n + 1 + 7 * j + 1 + 2)), .int 0, .ref (b + (n + 1 + 7 * j + 1 + 3)), .ref (b + (n + 1 + 7 * j + 1 + 4)), .ref (b + (n + 1 + 7 * j + 1 + 5))]) ∧ f1 (n + 1 + 7 * j + 1) = .inl (cy 12, 9, .inr (.inl (fun _ => 0))) ∧ f1 (n + 1 + 7 * j + 1 + 1) = .inl (cy 11, 10, .inl (fun _ => 0)) ∧ f1 (n + 1 + 7 * j + 1 + 2) = .inl (cy 11, 10, .inl (fun _ => 0)) ∧ f1 (n + 1 + 7 * j + 1 + 3) = .inl (cy 12, 8, .inr (.inl (fun _ => 0))) ∧ f1 (n + 1 + 7 * j + 1 + 4) = .inl (cy 13, 8, .inl (fun _ => 0)) ∧ f1 (n + 1 + 7 * j + 1 + 5) = .inl (cy 11, 8, .inl (fun _ => 0))) ∧ (∀ j, j < 90 → f1 (n + 81 + 2 * j) = .inr (0, [.ref (b + (n + 81 + 2 * j + 1)), .int 1]) ∧ f1 (n + 81 + 2 * j + 1) = .inl (cy 12, 24, .inr (.inl (fun _ => 0)))) ∧ (∀ j, j < 9 → f1 (n + 261 + 2 * j) = .inr (0, [.ref (b + (n + 261 + 2 * j + 1)), .int 1]) ∧ f1 (n + 261 + 2 * j + 1) = .inl (cy 12, 96, .inr (.inl (fun _ => 0)))) ∧ (∀ j, j < 9 → f1 (n + 287 + 2 * j) = .inr (0, [.ref (b + (n + 287 + 2 * j + 1)), .int 1]) ∧ f1 (n + 287 + 2 * j + 1) = .inl (cy 12, 4, .inr (.inl (fun _ => 0)))) ∧ (∀ j, j < 9 → f1 (n + 307 + j) = .inl (cy 12, 9, .inr (.inl (fun _ => 0)))) ∧ (∀ j, j < 9 → f1 (n + 320 + j) = .inl (cy 12, 9, .inr (.inl (fun _ => 0))))
set_option maxRecDepth 4000 in
theorem k_Roo (l : Launch) (D : va_G) (cy : Nat → ClassId) (b n : Nat) (f : Nat → va_E) (h : Nat) (hh : h < n) (hf : f h = .inr (8, [.null, .null, .null, .null, .null, .null, .null])) : rc_Met l D cy yX10_init cX10_init 2 3 80 340 5189 [.ref (b + h)] b n f (fun n1 f1 => n1 = n + 340 ∧ rc_roo cy b n h f1) := by
  refine rc_enter (lv0 := [(0, .ref (b + h))]) hq_Roo rfl (Nat.le_of_ble_eq_true rfl) rfl (fun X hll C => ?_)
  replace C : rc_C X D cy cX10_init 2 "RootRows" 3 80 340 5189 b := C
  refine ry_aload_n C 0 dX10_init_0 rfl ?_
  refine ry_obj (rest := []) C q_22 q_23 q_24 (by decide) (by decide) (Nat.le_of_ble_eq_true rfl) dX10_init_1 ?_
  refine ry_aload_n C 0 dX10_init_4 rfl ?_
  refine ry_bipush (v := 8) C dX10_init_5 rfl ?_
  refine ry_newq_Tray (N0 := 8) C q_25 (by decide) (by decide) (by decide) (by omega) (by omega) dX10_init_7 ?_
  refine ry_put (i := h) (fs := [.null, .null, .null, .null, .null, .null, .null]) (fs1 := [.ref (b + n), .null, .null, .null, .null, .null, .null]) C 8 0 tyX10 tyX10_ok nmX10 inX10 rfl (by decide) q_327 rfl rfl (by omega) (by rw [va_up_ne _ _ (by omega), hf]) (Nat.le_of_ble_eq_true rfl) rfl rfl rfl dX10_init_10 ?_
  refine ry_iconst (v := nI 0) C dX10_init_13 rfl ?_
  refine ry_istore_n (lv1 := [(1, .int (nI 0)), (0, .ref (b + h))]) C dX10_init_14 (by decide) rfl ?_
  refine kl_Roo1 (by decide) (by decide) hll C (n + 1) h n 1 8 _ [.ref (b + n), .null, .null, .null, .null, .null, .null] (by omega) (by omega) (by omega) (by omega) (by omega) (by rw [va_up_self]) rfl (fun fa ha_1 ha_2 ha_3 => ?_) 8 0 rfl _ (by rw [va_up_ne _ _ (by omega), va_up_self]; congr 7) (fun j hj => absurd hj (by omega)) (fun i _ _ => rfl)
  refine ry_aload_n C 1 dX10_init_40 rfl ?_
  refine ry_new (ci := 6) (fs := [.null, .int 0, .int 0, .null, .int 0, .int 0, .long 0, .int 0]) C tyX8 tyX8_ok inX8 rfl q_97 q_98 q_3 bl_6 (by omega) (by omega) dX10_init_41 ?_
  refine ry_dup C dX10_init_44 rfl ?_
  refine ry_callN (i := n + 57) (rest := [.ref (b + (n + 57)), .ref (b + h)]) C hll (k_Tap l D cy b (n + 58) _ (n + 57) (by omega) (by rw [va_up_self])) C.2.2.2.2.2.1.2.2.2.2.2.2.1 q_100 q_3 q_101 rfl hk_Tap ⟨by decide, by decide⟩ (by omega) (by omega) rfl rfl (Nat.le_of_ble_eq_true rfl) dX10_init_45 (fun nF0 fF0 hF0 => ?_)
  obtain ⟨eF0, hF0⟩ := hF0
  subst eF0
  refine ry_put (i := h) (fs := [.ref (b + n), .null, .null, .null, .null, .null, .null]) (fs1 := [.ref (b + n), .ref (b + (n + 57)), .null, .null, .null, .null, .null]) C 8 1 tyX10 tyX10_ok nmX10 inX10 rfl (by decide) q_328 rfl rfl (by omega) (by rw [hF0.2.2.2 _ (by omega) (by omega), va_up_ne _ _ (by omega), ha_3 _ (by omega) (by omega), va_up_self]) (Nat.le_of_ble_eq_true rfl) rfl rfl rfl dX10_init_48 ?_
  refine ry_aload_n C 1 dX10_init_51 rfl ?_
  refine ry_new (ci := 2) (fs := [.null]) C tyX2 tyX2_ok inX2 rfl q_131 q_132 q_4 bl_2 (by omega) (by omega) dX10_init_52 ?_
  refine ry_dup C dX10_init_55 rfl ?_
  refine ry_callN (i := n + 60) (rest := [.ref (b + (n + 60)), .ref (b + h)]) C hll (k_Mak l D cy b (n + 61) _ (n + 60) (by omega) (by rw [va_up_self])) C.2.2.2.2.2.1.2.2.2.2.2.2.2 q_134 q_4 q_135 rfl hk_Mak ⟨by decide, by decide⟩ (by omega) (by omega) rfl rfl (Nat.le_of_ble_eq_true rfl) dX10_init_56 (fun nF1 fF1 hF1 => ?_)
  obtain ⟨eF1, hF1⟩ := hF1
  subst eF1
  refine ry_put (i := h) (fs := [.ref (b + n), .ref (b + (n + 57)), .null, .null, .null, .null, .null]) (fs1 := [.ref (b + n), .ref (b + (n + 57)), .ref (b + (n + 60)), .null, .null, .null, .null]) C 8 2 tyX10 tyX10_ok nmX10 inX10 rfl (by decide) q_329 rfl rfl (by omega) (by rw [hF1.2.2 _ (by omega) (by omega), va_up_ne _ _ (by omega), va_up_self]) (Nat.le_of_ble_eq_true rfl) rfl rfl rfl dX10_init_59 ?_
  refine ry_aload_n C 1 dX10_init_62 rfl ?_
  refine ry_new (ci := 5) (fs := [.null, .null, .null, .int 0, .null, .null, .null, .null, .null, .null, .null, .null]) C tyX7 tyX7_ok inX7 rfl q_142 q_143 q_5 bl_5 (by omega) (by omega) dX10_init_63 ?_
  refine ry_dup C dX10_init_66 rfl ?_
  refine ry_call (i := n + 62) (rest := [.ref (b + (n + 62)), .ref (b + h)]) C hll (k_Seq l D cy b (n + 63) _ (n + 62) (by omega) (by rw [va_up_self])) q_144 q_145 q_5 q_146 rfl hk_Seq ⟨by decide, by decide⟩ (by omega) (by omega) rfl rfl (Nat.le_of_ble_eq_true rfl) dX10_init_67 (fun nF2 fF2 hF2 => ?_)
  obtain ⟨eF2, hF2⟩ := hF2
  subst eF2
  refine ry_put (i := h) (fs := [.ref (b + n), .ref (b + (n + 57)), .ref (b + (n + 60)), .null, .null, .null, .null]) (fs1 := [.ref (b + n), .ref (b + (n + 57)), .ref (b + (n + 60)), .null, .null, .ref (b + (n + 62)), .null]) C 8 5 tyX10 tyX10_ok nmX10 inX10 rfl (by decide) q_332 rfl rfl (by omega) (by rw [hF2.2.2.2.2.2.2.2.2.2.2.2.2.2.2.2.2.2.2.2.2.2 _ (by omega) (by omega), va_up_ne _ _ (by omega), va_up_self]) (Nat.le_of_ble_eq_true rfl) rfl rfl rfl dX10_init_70 ?_
  refine ry_aload_n C 1 dX10_init_73 rfl ?_
  refine ry_new (ci := 4) (fs := [.null, .int 0, .null, .null, .null]) C tyX5 tyX5_ok inX5 rfl q_210 q_211 q_8 bl_4 (by omega) (by omega) dX10_init_74 ?_
  refine ry_dup C dX10_init_77 rfl ?_
  refine ry_call (i := n + 279) (rest := [.ref (b + (n + 279)), .ref (b + h)]) C hll (k_Poi l D cy b (n + 280) _ (n + 279) (by omega) (by rw [va_up_self])) q_212 q_213 q_8 q_214 rfl hk_Poi ⟨by decide, by decide⟩ (by omega) (by omega) rfl rfl (Nat.le_of_ble_eq_true rfl) dX10_init_78 (fun nF3 fF3 hF3 => ?_)
  obtain ⟨eF3, hF3⟩ := hF3
  subst eF3
  refine ry_put (i := h) (fs := [.ref (b + n), .ref (b + (n + 57)), .ref (b + (n + 60)), .null, .null, .ref (b + (n + 62)), .null]) (fs1 := [.ref (b + n), .ref (b + (n + 57)), .ref (b + (n + 60)), .null, .null, .ref (b + (n + 62)), .ref (b + (n + 279))]) C 8 6 tyX10 tyX10_ok nmX10 inX10 rfl (by decide) q_333 rfl rfl (by omega) (by rw [hF3.2.2.2.2.2.2.2.2.2 _ (by omega) (by omega), va_up_ne _ _ (by omega), va_up_self]) (Nat.le_of_ble_eq_true rfl) rfl rfl rfl dX10_init_81 ?_
  refine ry_aload_n C 1 dX10_init_84 rfl ?_
  refine ry_new (ci := 1) (fs := [.null, .null, .int 0, .null, .null]) C tyX1 tyX1_ok inX1 rfl q_234 q_235 q_9 bl_1 (by omega) (by omega) dX10_init_85 ?_
  refine ry_dup C dX10_init_88 rfl ?_
  refine ry_aload_n C 1 dX10_init_89 rfl ?_
  refine ry_get (i := h) (fs := [.ref (b + n), .ref (b + (n + 57)), .ref (b + (n + 60)), .null, .null, .ref (b + (n + 62)), .ref (b + (n + 279))]) (v := .ref (b + (n + 62))) C 8 5 inX10 rfl (by decide) q_332 (by omega) (by rw [va_up_ne _ _ (by omega), va_up_self]) rfl dX10_init_90 ?_
  refine ry_call (i := n + 305) (rest := [.ref (b + (n + 305)), .ref (b + h)]) C hll (k_Lev l D cy b (n + 306) _ (n + 305) (n + 62) (by omega) (by rw [va_up_self])) q_236 q_237 q_9 q_238 rfl hk_Lev ⟨by decide, by decide⟩ (by omega) (by omega) rfl rfl (Nat.le_of_ble_eq_true rfl) dX10_init_93 (fun nF4 fF4 hF4 => ?_)
  obtain ⟨eF4, hF4⟩ := hF4
  subst eF4
  refine ry_put (i := h) (fs := [.ref (b + n), .ref (b + (n + 57)), .ref (b + (n + 60)), .null, .null, .ref (b + (n + 62)), .ref (b + (n + 279))]) (fs1 := [.ref (b + n), .ref (b + (n + 57)), .ref (b + (n + 60)), .ref (b + (n + 305)), .null, .ref (b + (n + 62)), .ref (b + (n + 279))]) C 8 3 tyX10 tyX10_ok nmX10 inX10 rfl (by decide) q_330 rfl rfl (by omega) (by rw [hF4.2.2.2.2.2 _ (by omega) (by omega), va_up_ne _ _ (by omega), va_up_self]) (Nat.le_of_ble_eq_true rfl) rfl rfl rfl dX10_init_96 ?_
  refine ry_aload_n C 1 dX10_init_99 rfl ?_
  refine ry_new (ci := 3) (fs := [.null, .null, .null, .null, .null, .int 0, .int 0, .null, .null, .null, .null, .null, .null, .null, .int 0]) C tyX4 tyX4_ok inX4 rfl q_261 q_262 q_10 bl_3 (by omega) (by omega) dX10_init_100 ?_
  refine ry_dup C dX10_init_103 rfl ?_
  refine ry_aload_n C 1 dX10_init_104 rfl ?_
  refine ry_get (i := h) (fs := [.ref (b + n), .ref (b + (n + 57)), .ref (b + (n + 60)), .ref (b + (n + 305)), .null, .ref (b + (n + 62)), .ref (b + (n + 279))]) (v := .ref (b + (n + 305))) C 8 3 inX10 rfl (by decide) q_330 (by omega) (by rw [va_up_ne _ _ (by omega), va_up_self]) rfl dX10_init_105 ?_
  refine ry_aload_n C 1 dX10_init_108 rfl ?_
  refine ry_get (i := h) (fs := [.ref (b + n), .ref (b + (n + 57)), .ref (b + (n + 60)), .ref (b + (n + 305)), .null, .ref (b + (n + 62)), .ref (b + (n + 279))]) (v := .ref (b + (n + 62))) C 8 5 inX10 rfl (by decide) q_332 (by omega) (by rw [va_up_ne _ _ (by omega), va_up_self]) rfl dX10_init_109 ?_
  refine ry_aload_n C 1 dX10_init_112 rfl ?_
  refine ry_get (i := h) (fs := [.ref (b + n), .ref (b + (n + 57)), .ref (b + (n + 60)), .ref (b + (n + 305)), .null, .ref (b + (n + 62)), .ref (b + (n + 279))]) (v := .ref (b + (n + 279))) C 8 6 inX10 rfl (by decide) q_333 (by omega) (by rw [va_up_ne _ _ (by omega), va_up_self]) rfl dX10_init_113 ?_
  refine ry_call (i := n + 318) (rest := [.ref (b + (n + 318)), .ref (b + h)]) C hll (k_Pla l D cy b (n + 319) _ (n + 318) (n + 305) (n + 62) (n + 279) (by omega) (by rw [va_up_self])) q_263 q_264 q_10 q_265 rfl hk_Pla ⟨by decide, by decide⟩ (by omega) (by omega) rfl rfl (Nat.le_of_ble_eq_true rfl) dX10_init_116 (fun nF5 fF5 hF5 => ?_)
  obtain ⟨eF5, hF5⟩ := hF5
  subst eF5
  refine ry_put (i := h) (fs := [.ref (b + n), .ref (b + (n + 57)), .ref (b + (n + 60)), .ref (b + (n + 305)), .null, .ref (b + (n + 62)), .ref (b + (n + 279))]) (fs1 := [.ref (b + n), .ref (b + (n + 57)), .ref (b + (n + 60)), .ref (b + (n + 305)), .ref (b + (n + 318)), .ref (b + (n + 62)), .ref (b + (n + 279))]) C 8 4 tyX10 tyX10_ok nmX10 inX10 rfl (by decide) q_331 rfl rfl (by omega) (by rw [hF5.2.2.2.2.2.2.2.2.2.2.2.2.2.2 _ (by omega) (by omega), va_up_ne _ _ (by omega), va_up_self]) (Nat.le_of_ble_eq_true rfl) rfl rfl rfl dX10_init_119 ?_
  refine ry_ret C dX10_init_122 ⟨rfl, ?_⟩
  unfold rc_roo
  exact ⟨by rw [va_up_self],
    by rw [va_up_ne _ _ (by omega), hF5.2.2.2.2.2.2.2.2.2.2.2.2.2.2 _ (by omega) (by omega), va_up_ne _ _ (by omega), va_up_ne _ _ (by omega), hF4.2.2.2.2.2 _ (by omega) (by omega), va_up_ne _ _ (by omega), va_up_ne _ _ (by omega), hF3.2.2.2.2.2.2.2.2.2 _ (by omega) (by omega), va_up_ne _ _ (by omega), va_up_ne _ _ (by omega), hF2.2.2.2.2.2.2.2.2.2.2.2.2.2.2.2.2.2.2.2.2.2 _ (by omega) (by omega), va_up_ne _ _ (by omega), va_up_ne _ _ (by omega), hF1.2.2 _ (by omega) (by omega), va_up_ne _ _ (by omega), va_up_ne _ _ (by omega), hF0.2.2.2 _ (by omega) (by omega), va_up_ne _ _ (by omega), ha_1],
    by rw [va_up_ne _ _ (by omega), hF5.2.2.2.2.2.2.2.2.2.2.2.2.2.2 _ (by omega) (by omega), va_up_ne _ _ (by omega), va_up_ne _ _ (by omega), hF4.2.2.2.2.2 _ (by omega) (by omega), va_up_ne _ _ (by omega), va_up_ne _ _ (by omega), hF3.2.2.2.2.2.2.2.2.2 _ (by omega) (by omega), va_up_ne _ _ (by omega), va_up_ne _ _ (by omega), hF2.2.2.2.2.2.2.2.2.2.2.2.2.2.2.2.2.2.2.2.2.2 _ (by omega) (by omega), va_up_ne _ _ (by omega), va_up_ne _ _ (by omega), hF1.2.2 _ (by omega) (by omega), va_up_ne _ _ (by omega), va_up_ne _ _ (by omega), hF0.1],
    by rw [va_up_ne _ _ (by omega), hF5.2.2.2.2.2.2.2.2.2.2.2.2.2.2 _ (by omega) (by omega), va_up_ne _ _ (by omega), va_up_ne _ _ (by omega), hF4.2.2.2.2.2 _ (by omega) (by omega), va_up_ne _ _ (by omega), va_up_ne _ _ (by omega), hF3.2.2.2.2.2.2.2.2.2 _ (by omega) (by omega), va_up_ne _ _ (by omega), va_up_ne _ _ (by omega), hF2.2.2.2.2.2.2.2.2.2.2.2.2.2.2.2.2.2.2.2.2.2 _ (by omega) (by omega), va_up_ne _ _ (by omega), va_up_ne _ _ (by omega), hF1.2.2 _ (by omega) (by omega), va_up_ne _ _ (by omega), va_up_ne _ _ (by omega), hF0.2.1],
    by rw [va_up_ne _ _ (by omega), hF5.2.2.2.2.2.2.2.2.2.2.2.2.2.2 _ (by omega) (by omega), va_up_ne _ _ (by omega), va_up_ne _ _ (by omega), hF4.2.2.2.2.2 _ (by omega) (by omega), va_up_ne _ _ (by omega), va_up_ne _ _ (by omega), hF3.2.2.2.2.2.2.2.2.2 _ (by omega) (by omega), va_up_ne _ _ (by omega), va_up_ne _ _ (by omega), hF2.2.2.2.2.2.2.2.2.2.2.2.2.2.2.2.2.2.2.2.2.2 _ (by omega) (by omega), va_up_ne _ _ (by omega), va_up_ne _ _ (by omega), hF1.2.2 _ (by omega) (by omega), va_up_ne _ _ (by omega), va_up_ne _ _ (by omega), hF0.2.2.1],
    by rw [va_up_ne _ _ (by omega), hF5.2.2.2.2.2.2.2.2.2.2.2.2.2.2 _ (by omega) (by omega), va_up_ne _ _ (by omega), va_up_ne _ _ (by omega), hF4.2.2.2.2.2 _ (by omega) (by omega), va_up_ne _ _ (by omega), va_up_ne _ _ (by omega), hF3.2.2.2.2.2.2.2.2.2 _ (by omega) (by omega), va_up_ne _ _ (by omega), va_up_ne _ _ (by omega), hF2.2.2.2.2.2.2.2.2.2.2.2.2.2.2.2.2.2.2.2.2.2 _ (by omega) (by omega), va_up_ne _ _ (by omega), va_up_ne _ _ (by omega), hF1.1],
    by rw [va_up_ne _ _ (by omega), hF5.2.2.2.2.2.2.2.2.2.2.2.2.2.2 _ (by omega) (by omega), va_up_ne _ _ (by omega), va_up_ne _ _ (by omega), hF4.2.2.2.2.2 _ (by omega) (by omega), va_up_ne _ _ (by omega), va_up_ne _ _ (by omega), hF3.2.2.2.2.2.2.2.2.2 _ (by omega) (by omega), va_up_ne _ _ (by omega), va_up_ne _ _ (by omega), hF2.2.2.2.2.2.2.2.2.2.2.2.2.2.2.2.2.2.2.2.2.2 _ (by omega) (by omega), va_up_ne _ _ (by omega), va_up_ne _ _ (by omega), hF1.2.1],
    by rw [va_up_ne _ _ (by omega), hF5.2.2.2.2.2.2.2.2.2.2.2.2.2.2 _ (by omega) (by omega), va_up_ne _ _ (by omega), va_up_ne _ _ (by omega), hF4.2.2.2.2.2 _ (by omega) (by omega), va_up_ne _ _ (by omega), va_up_ne _ _ (by omega), hF3.2.2.2.2.2.2.2.2.2 _ (by omega) (by omega), va_up_ne _ _ (by omega), va_up_ne _ _ (by omega), hF2.1],
    by rw [va_up_ne _ _ (by omega), hF5.2.2.2.2.2.2.2.2.2.2.2.2.2.2 _ (by omega) (by omega), va_up_ne _ _ (by omega), va_up_ne _ _ (by omega), hF4.2.2.2.2.2 _ (by omega) (by omega), va_up_ne _ _ (by omega), va_up_ne _ _ (by omega), hF3.2.2.2.2.2.2.2.2.2 _ (by omega) (by omega), va_up_ne _ _ (by omega), va_up_ne _ _ (by omega), hF2.2.1],
    by rw [va_up_ne _ _ (by omega), hF5.2.2.2.2.2.2.2.2.2.2.2.2.2.2 _ (by omega) (by omega), va_up_ne _ _ (by omega), va_up_ne _ _ (by omega), hF4.2.2.2.2.2 _ (by omega) (by omega), va_up_ne _ _ (by omega), va_up_ne _ _ (by omega), hF3.2.2.2.2.2.2.2.2.2 _ (by omega) (by omega), va_up_ne _ _ (by omega), va_up_ne _ _ (by omega), hF2.2.2.1],
    by rw [va_up_ne _ _ (by omega), hF5.2.2.2.2.2.2.2.2.2.2.2.2.2.2 _ (by omega) (by omega), va_up_ne _ _ (by omega), va_up_ne _ _ (by omega), hF4.2.2.2.2.2 _ (by omega) (by omega), va_up_ne _ _ (by omega), va_up_ne _ _ (by omega), hF3.2.2.2.2.2.2.2.2.2 _ (by omega) (by omega), va_up_ne _ _ (by omega), va_up_ne _ _ (by omega), hF2.2.2.2.1],
    by rw [va_up_ne _ _ (by omega), hF5.2.2.2.2.2.2.2.2.2.2.2.2.2.2 _ (by omega) (by omega), va_up_ne _ _ (by omega), va_up_ne _ _ (by omega), hF4.2.2.2.2.2 _ (by omega) (by omega), va_up_ne _ _ (by omega), va_up_ne _ _ (by omega), hF3.2.2.2.2.2.2.2.2.2 _ (by omega) (by omega), va_up_ne _ _ (by omega), va_up_ne _ _ (by omega), hF2.2.2.2.2.1],
    by rw [va_up_ne _ _ (by omega), hF5.2.2.2.2.2.2.2.2.2.2.2.2.2.2 _ (by omega) (by omega), va_up_ne _ _ (by omega), va_up_ne _ _ (by omega), hF4.2.2.2.2.2 _ (by omega) (by omega), va_up_ne _ _ (by omega), va_up_ne _ _ (by omega), hF3.2.2.2.2.2.2.2.2.2 _ (by omega) (by omega), va_up_ne _ _ (by omega), va_up_ne _ _ (by omega), hF2.2.2.2.2.2.1],
    by rw [va_up_ne _ _ (by omega), hF5.2.2.2.2.2.2.2.2.2.2.2.2.2.2 _ (by omega) (by omega), va_up_ne _ _ (by omega), va_up_ne _ _ (by omega), hF4.2.2.2.2.2 _ (by omega) (by omega), va_up_ne _ _ (by omega), va_up_ne _ _ (by omega), hF3.2.2.2.2.2.2.2.2.2 _ (by omega) (by omega), va_up_ne _ _ (by omega), va_up_ne _ _ (by omega), hF2.2.2.2.2.2.2.1],
    by rw [va_up_ne _ _ (by omega), hF5.2.2.2.2.2.2.2.2.2.2.2.2.2.2 _ (by omega) (by omega), va_up_ne _ _ (by omega), va_up_ne _ _ (by omega), hF4.2.2.2.2.2 _ (by omega) (by omega), va_up_ne _ _ (by omega), va_up_ne _ _ (by omega), hF3.2.2.2.2.2.2.2.2.2 _ (by omega) (by omega), va_up_ne _ _ (by omega), va_up_ne _ _ (by omega), hF2.2.2.2.2.2.2.2.1],
    by rw [va_up_ne _ _ (by omega), hF5.2.2.2.2.2.2.2.2.2.2.2.2.2.2 _ (by omega) (by omega), va_up_ne _ _ (by omega), va_up_ne _ _ (by omega), hF4.2.2.2.2.2 _ (by omega) (by omega), va_up_ne _ _ (by omega), va_up_ne _ _ (by omega), hF3.2.2.2.2.2.2.2.2.2 _ (by omega) (by omega), va_up_ne _ _ (by omega), va_up_ne _ _ (by omega), hF2.2.2.2.2.2.2.2.2.1],
    by rw [va_up_ne _ _ (by omega), hF5.2.2.2.2.2.2.2.2.2.2.2.2.2.2 _ (by omega) (by omega), va_up_ne _ _ (by omega), va_up_ne _ _ (by omega), hF4.2.2.2.2.2 _ (by omega) (by omega), va_up_ne _ _ (by omega), va_up_ne _ _ (by omega), hF3.2.2.2.2.2.2.2.2.2 _ (by omega) (by omega), va_up_ne _ _ (by omega), va_up_ne _ _ (by omega), hF2.2.2.2.2.2.2.2.2.2.1],
    by rw [va_up_ne _ _ (by omega), hF5.2.2.2.2.2.2.2.2.2.2.2.2.2.2 _ (by omega) (by omega), va_up_ne _ _ (by omega), va_up_ne _ _ (by omega), hF4.2.2.2.2.2 _ (by omega) (by omega), va_up_ne _ _ (by omega), va_up_ne _ _ (by omega), hF3.2.2.2.2.2.2.2.2.2 _ (by omega) (by omega), va_up_ne _ _ (by omega), va_up_ne _ _ (by omega), hF2.2.2.2.2.2.2.2.2.2.2.1],
    by rw [va_up_ne _ _ (by omega), hF5.2.2.2.2.2.2.2.2.2.2.2.2.2.2 _ (by omega) (by omega), va_up_ne _ _ (by omega), va_up_ne _ _ (by omega), hF4.2.2.2.2.2 _ (by omega) (by omega), va_up_ne _ _ (by omega), va_up_ne _ _ (by omega), hF3.2.2.2.2.2.2.2.2.2 _ (by omega) (by omega), va_up_ne _ _ (by omega), va_up_ne _ _ (by omega), hF2.2.2.2.2.2.2.2.2.2.2.2.1],
    by rw [va_up_ne _ _ (by omega), hF5.2.2.2.2.2.2.2.2.2.2.2.2.2.2 _ (by omega) (by omega), va_up_ne _ _ (by omega), va_up_ne _ _ (by omega), hF4.2.2.2.2.2 _ (by omega) (by omega), va_up_ne _ _ (by omega), va_up_ne _ _ (by omega), hF3.2.2.2.2.2.2.2.2.2 _ (by omega) (by omega), va_up_ne _ _ (by omega), va_up_ne _ _ (by omega), hF2.2.2.2.2.2.2.2.2.2.2.2.2.1],
    by rw [va_up_ne _ _ (by omega), hF5.2.2.2.2.2.2.2.2.2.2.2.2.2.2 _ (by omega) (by omega), va_up_ne _ _ (by omega), va_up_ne _ _ (by omega), hF4.2.2.2.2.2 _ (by omega) (by omega), va_up_ne _ _ (by omega), va_up_ne _ _ (by omega), hF3.2.2.2.2.2.2.2.2.2 _ (by omega) (by omega), va_up_ne _ _ (by omega), va_up_ne _ _ (by omega), hF2.2.2.2.2.2.2.2.2.2.2.2.2.2.1],
    by rw [va_up_ne _ _ (by omega), hF5.2.2.2.2.2.2.2.2.2.2.2.2.2.2 _ (by omega) (by omega), va_up_ne _ _ (by omega), va_up_ne _ _ (by omega), hF4.2.2.2.2.2 _ (by omega) (by omega), va_up_ne _ _ (by omega), va_up_ne _ _ (by omega), hF3.2.2.2.2.2.2.2.2.2 _ (by omega) (by omega), va_up_ne _ _ (by omega), va_up_ne _ _ (by omega), hF2.2.2.2.2.2.2.2.2.2.2.2.2.2.2.1],
    by rw [va_up_ne _ _ (by omega), hF5.2.2.2.2.2.2.2.2.2.2.2.2.2.2 _ (by omega) (by omega), va_up_ne _ _ (by omega), va_up_ne _ _ (by omega), hF4.2.2.2.2.2 _ (by omega) (by omega), va_up_ne _ _ (by omega), va_up_ne _ _ (by omega), hF3.2.2.2.2.2.2.2.2.2 _ (by omega) (by omega), va_up_ne _ _ (by omega), va_up_ne _ _ (by omega), hF2.2.2.2.2.2.2.2.2.2.2.2.2.2.2.2.1],
    by rw [va_up_ne _ _ (by omega), hF5.2.2.2.2.2.2.2.2.2.2.2.2.2.2 _ (by omega) (by omega), va_up_ne _ _ (by omega), va_up_ne _ _ (by omega), hF4.2.2.2.2.2 _ (by omega) (by omega), va_up_ne _ _ (by omega), va_up_ne _ _ (by omega), hF3.2.2.2.2.2.2.2.2.2 _ (by omega) (by omega), va_up_ne _ _ (by omega), va_up_ne _ _ (by omega), hF2.2.2.2.2.2.2.2.2.2.2.2.2.2.2.2.2.1],
    by rw [va_up_ne _ _ (by omega), hF5.2.2.2.2.2.2.2.2.2.2.2.2.2.2 _ (by omega) (by omega), va_up_ne _ _ (by omega), va_up_ne _ _ (by omega), hF4.2.2.2.2.2 _ (by omega) (by omega), va_up_ne _ _ (by omega), va_up_ne _ _ (by omega), hF3.2.2.2.2.2.2.2.2.2 _ (by omega) (by omega), va_up_ne _ _ (by omega), va_up_ne _ _ (by omega), hF2.2.2.2.2.2.2.2.2.2.2.2.2.2.2.2.2.2.1],
    by rw [va_up_ne _ _ (by omega), hF5.2.2.2.2.2.2.2.2.2.2.2.2.2.2 _ (by omega) (by omega), va_up_ne _ _ (by omega), va_up_ne _ _ (by omega), hF4.2.2.2.2.2 _ (by omega) (by omega), va_up_ne _ _ (by omega), va_up_ne _ _ (by omega), hF3.2.2.2.2.2.2.2.2.2 _ (by omega) (by omega), va_up_ne _ _ (by omega), va_up_ne _ _ (by omega), hF2.2.2.2.2.2.2.2.2.2.2.2.2.2.2.2.2.2.2.1],
    by rw [va_up_ne _ _ (by omega), hF5.2.2.2.2.2.2.2.2.2.2.2.2.2.2 _ (by omega) (by omega), va_up_ne _ _ (by omega), va_up_ne _ _ (by omega), hF4.2.2.2.2.2 _ (by omega) (by omega), va_up_ne _ _ (by omega), va_up_ne _ _ (by omega), hF3.1],
    by rw [va_up_ne _ _ (by omega), hF5.2.2.2.2.2.2.2.2.2.2.2.2.2.2 _ (by omega) (by omega), va_up_ne _ _ (by omega), va_up_ne _ _ (by omega), hF4.2.2.2.2.2 _ (by omega) (by omega), va_up_ne _ _ (by omega), va_up_ne _ _ (by omega), hF3.2.1],
    by rw [va_up_ne _ _ (by omega), hF5.2.2.2.2.2.2.2.2.2.2.2.2.2.2 _ (by omega) (by omega), va_up_ne _ _ (by omega), va_up_ne _ _ (by omega), hF4.2.2.2.2.2 _ (by omega) (by omega), va_up_ne _ _ (by omega), va_up_ne _ _ (by omega), hF3.2.2.1],
    by rw [va_up_ne _ _ (by omega), hF5.2.2.2.2.2.2.2.2.2.2.2.2.2.2 _ (by omega) (by omega), va_up_ne _ _ (by omega), va_up_ne _ _ (by omega), hF4.2.2.2.2.2 _ (by omega) (by omega), va_up_ne _ _ (by omega), va_up_ne _ _ (by omega), hF3.2.2.2.1],
    by rw [va_up_ne _ _ (by omega), hF5.2.2.2.2.2.2.2.2.2.2.2.2.2.2 _ (by omega) (by omega), va_up_ne _ _ (by omega), va_up_ne _ _ (by omega), hF4.2.2.2.2.2 _ (by omega) (by omega), va_up_ne _ _ (by omega), va_up_ne _ _ (by omega), hF3.2.2.2.2.1],
    by rw [va_up_ne _ _ (by omega), hF5.2.2.2.2.2.2.2.2.2.2.2.2.2.2 _ (by omega) (by omega), va_up_ne _ _ (by omega), va_up_ne _ _ (by omega), hF4.2.2.2.2.2 _ (by omega) (by omega), va_up_ne _ _ (by omega), va_up_ne _ _ (by omega), hF3.2.2.2.2.2.1],
    by rw [va_up_ne _ _ (by omega), hF5.2.2.2.2.2.2.2.2.2.2.2.2.2.2 _ (by omega) (by omega), va_up_ne _ _ (by omega), va_up_ne _ _ (by omega), hF4.2.2.2.2.2 _ (by omega) (by omega), va_up_ne _ _ (by omega), va_up_ne _ _ (by omega), hF3.2.2.2.2.2.2.1],
    by rw [va_up_ne _ _ (by omega), hF5.2.2.2.2.2.2.2.2.2.2.2.2.2.2 _ (by omega) (by omega), va_up_ne _ _ (by omega), va_up_ne _ _ (by omega), hF4.2.2.2.2.2 _ (by omega) (by omega), va_up_ne _ _ (by omega), va_up_ne _ _ (by omega), hF3.2.2.2.2.2.2.2.1],
    by rw [va_up_ne _ _ (by omega), hF5.2.2.2.2.2.2.2.2.2.2.2.2.2.2 _ (by omega) (by omega), va_up_ne _ _ (by omega), va_up_ne _ _ (by omega), hF4.1],
    by rw [va_up_ne _ _ (by omega), hF5.2.2.2.2.2.2.2.2.2.2.2.2.2.2 _ (by omega) (by omega), va_up_ne _ _ (by omega), va_up_ne _ _ (by omega), hF4.2.1],
    by rw [va_up_ne _ _ (by omega), hF5.2.2.2.2.2.2.2.2.2.2.2.2.2.2 _ (by omega) (by omega), va_up_ne _ _ (by omega), va_up_ne _ _ (by omega), hF4.2.2.2.1],
    by rw [va_up_ne _ _ (by omega), hF5.2.2.2.2.2.2.2.2.2.2.2.2.2.2 _ (by omega) (by omega), va_up_ne _ _ (by omega), va_up_ne _ _ (by omega), hF4.2.2.2.2.1],
    by rw [va_up_ne _ _ (by omega), hF5.1],
    by rw [va_up_ne _ _ (by omega), hF5.2.1],
    by rw [va_up_ne _ _ (by omega), hF5.2.2.2.1],
    by rw [va_up_ne _ _ (by omega), hF5.2.2.2.2.1],
    by rw [va_up_ne _ _ (by omega), hF5.2.2.2.2.2.1],
    by rw [va_up_ne _ _ (by omega), hF5.2.2.2.2.2.2.1],
    by rw [va_up_ne _ _ (by omega), hF5.2.2.2.2.2.2.2.1],
    by rw [va_up_ne _ _ (by omega), hF5.2.2.2.2.2.2.2.2.1],
    by rw [va_up_ne _ _ (by omega), hF5.2.2.2.2.2.2.2.2.2.1],
    by rw [va_up_ne _ _ (by omega), hF5.2.2.2.2.2.2.2.2.2.2.1],
    by rw [va_up_ne _ _ (by omega), hF5.2.2.2.2.2.2.2.2.2.2.2.1],
    by rw [va_up_ne _ _ (by omega), hF5.2.2.2.2.2.2.2.2.2.2.2.2.1],
    by rw [va_up_ne _ _ (by omega), hF5.2.2.2.2.2.2.2.2.2.2.2.2.2.1],
    fun j hj => ⟨by rw [va_up_ne _ _ (by omega), hF5.2.2.2.2.2.2.2.2.2.2.2.2.2.2 _ (by omega) (by omega), va_up_ne _ _ (by omega), va_up_ne _ _ (by omega), hF4.2.2.2.2.2 _ (by omega) (by omega), va_up_ne _ _ (by omega), va_up_ne _ _ (by omega), hF3.2.2.2.2.2.2.2.2.2 _ (by omega) (by omega), va_up_ne _ _ (by omega), va_up_ne _ _ (by omega), hF2.2.2.2.2.2.2.2.2.2.2.2.2.2.2.2.2.2.2.2.2.2 _ (by omega) (by omega), va_up_ne _ _ (by omega), va_up_ne _ _ (by omega), hF1.2.2 _ (by omega) (by omega), va_up_ne _ _ (by omega), va_up_ne _ _ (by omega), hF0.2.2.2 _ (by omega) (by omega), va_up_ne _ _ (by omega), (ha_2 j hj).1], by rw [va_up_ne _ _ (by omega), hF5.2.2.2.2.2.2.2.2.2.2.2.2.2.2 _ (by omega) (by omega), va_up_ne _ _ (by omega), va_up_ne _ _ (by omega), hF4.2.2.2.2.2 _ (by omega) (by omega), va_up_ne _ _ (by omega), va_up_ne _ _ (by omega), hF3.2.2.2.2.2.2.2.2.2 _ (by omega) (by omega), va_up_ne _ _ (by omega), va_up_ne _ _ (by omega), hF2.2.2.2.2.2.2.2.2.2.2.2.2.2.2.2.2.2.2.2.2.2 _ (by omega) (by omega), va_up_ne _ _ (by omega), va_up_ne _ _ (by omega), hF1.2.2 _ (by omega) (by omega), va_up_ne _ _ (by omega), va_up_ne _ _ (by omega), hF0.2.2.2 _ (by omega) (by omega), va_up_ne _ _ (by omega), (ha_2 j hj).2.1], by rw [va_up_ne _ _ (by omega), hF5.2.2.2.2.2.2.2.2.2.2.2.2.2.2 _ (by omega) (by omega), va_up_ne _ _ (by omega), va_up_ne _ _ (by omega), hF4.2.2.2.2.2 _ (by omega) (by omega), va_up_ne _ _ (by omega), va_up_ne _ _ (by omega), hF3.2.2.2.2.2.2.2.2.2 _ (by omega) (by omega), va_up_ne _ _ (by omega), va_up_ne _ _ (by omega), hF2.2.2.2.2.2.2.2.2.2.2.2.2.2.2.2.2.2.2.2.2.2 _ (by omega) (by omega), va_up_ne _ _ (by omega), va_up_ne _ _ (by omega), hF1.2.2 _ (by omega) (by omega), va_up_ne _ _ (by omega), va_up_ne _ _ (by omega), hF0.2.2.2 _ (by omega) (by omega), va_up_ne _ _ (by omega), (ha_2 j hj).2.2.1], by rw [va_up_ne _ _ (by omega), hF5.2.2.2.2.2.2.2.2.2.2.2.2.2.2 _ (by omega) (by omega), va_up_ne _ _ (by omega), va_up_ne _ _ (by omega), hF4.2.2.2.2.2 _ (by omega) (by omega), va_up_ne _ _ (by omega), va_up_ne _ _ (by omega), hF3.2.2.2.2.2.2.2.2.2 _ (by omega) (by omega), va_up_ne _ _ (by omega), va_up_ne _ _ (by omega), hF2.2.2.2.2.2.2.2.2.2.2.2.2.2.2.2.2.2.2.2.2.2 _ (by omega) (by omega), va_up_ne _ _ (by omega), va_up_ne _ _ (by omega), hF1.2.2 _ (by omega) (by omega), va_up_ne _ _ (by omega), va_up_ne _ _ (by omega), hF0.2.2.2 _ (by omega) (by omega), va_up_ne _ _ (by omega), (ha_2 j hj).2.2.2.1], by rw [va_up_ne _ _ (by omega), hF5.2.2.2.2.2.2.2.2.2.2.2.2.2.2 _ (by omega) (by omega), va_up_ne _ _ (by omega), va_up_ne _ _ (by omega), hF4.2.2.2.2.2 _ (by omega) (by omega), va_up_ne _ _ (by omega), va_up_ne _ _ (by omega), hF3.2.2.2.2.2.2.2.2.2 _ (by omega) (by omega), va_up_ne _ _ (by omega), va_up_ne _ _ (by omega), hF2.2.2.2.2.2.2.2.2.2.2.2.2.2.2.2.2.2.2.2.2.2 _ (by omega) (by omega), va_up_ne _ _ (by omega), va_up_ne _ _ (by omega), hF1.2.2 _ (by omega) (by omega), va_up_ne _ _ (by omega), va_up_ne _ _ (by omega), hF0.2.2.2 _ (by omega) (by omega), va_up_ne _ _ (by omega), (ha_2 j hj).2.2.2.2.1], by rw [va_up_ne _ _ (by omega), hF5.2.2.2.2.2.2.2.2.2.2.2.2.2.2 _ (by omega) (by omega), va_up_ne _ _ (by omega), va_up_ne _ _ (by omega), hF4.2.2.2.2.2 _ (by omega) (by omega), va_up_ne _ _ (by omega), va_up_ne _ _ (by omega), hF3.2.2.2.2.2.2.2.2.2 _ (by omega) (by omega), va_up_ne _ _ (by omega), va_up_ne _ _ (by omega), hF2.2.2.2.2.2.2.2.2.2.2.2.2.2.2.2.2.2.2.2.2.2 _ (by omega) (by omega), va_up_ne _ _ (by omega), va_up_ne _ _ (by omega), hF1.2.2 _ (by omega) (by omega), va_up_ne _ _ (by omega), va_up_ne _ _ (by omega), hF0.2.2.2 _ (by omega) (by omega), va_up_ne _ _ (by omega), (ha_2 j hj).2.2.2.2.2.1], by rw [va_up_ne _ _ (by omega), hF5.2.2.2.2.2.2.2.2.2.2.2.2.2.2 _ (by omega) (by omega), va_up_ne _ _ (by omega), va_up_ne _ _ (by omega), hF4.2.2.2.2.2 _ (by omega) (by omega), va_up_ne _ _ (by omega), va_up_ne _ _ (by omega), hF3.2.2.2.2.2.2.2.2.2 _ (by omega) (by omega), va_up_ne _ _ (by omega), va_up_ne _ _ (by omega), hF2.2.2.2.2.2.2.2.2.2.2.2.2.2.2.2.2.2.2.2.2.2 _ (by omega) (by omega), va_up_ne _ _ (by omega), va_up_ne _ _ (by omega), hF1.2.2 _ (by omega) (by omega), va_up_ne _ _ (by omega), va_up_ne _ _ (by omega), hF0.2.2.2 _ (by omega) (by omega), va_up_ne _ _ (by omega), (ha_2 j hj).2.2.2.2.2.2]⟩,
    fun j hj => ⟨by rw [va_up_ne _ _ (by omega), hF5.2.2.2.2.2.2.2.2.2.2.2.2.2.2 _ (by omega) (by omega), va_up_ne _ _ (by omega), va_up_ne _ _ (by omega), hF4.2.2.2.2.2 _ (by omega) (by omega), va_up_ne _ _ (by omega), va_up_ne _ _ (by omega), hF3.2.2.2.2.2.2.2.2.2 _ (by omega) (by omega), va_up_ne _ _ (by omega), va_up_ne _ _ (by omega), (hF2.2.2.2.2.2.2.2.2.2.2.2.2.2.2.2.2.2.2.2.1 j hj).1], by rw [va_up_ne _ _ (by omega), hF5.2.2.2.2.2.2.2.2.2.2.2.2.2.2 _ (by omega) (by omega), va_up_ne _ _ (by omega), va_up_ne _ _ (by omega), hF4.2.2.2.2.2 _ (by omega) (by omega), va_up_ne _ _ (by omega), va_up_ne _ _ (by omega), hF3.2.2.2.2.2.2.2.2.2 _ (by omega) (by omega), va_up_ne _ _ (by omega), va_up_ne _ _ (by omega), (hF2.2.2.2.2.2.2.2.2.2.2.2.2.2.2.2.2.2.2.2.1 j hj).2]⟩,
    fun j hj => ⟨by rw [va_up_ne _ _ (by omega), hF5.2.2.2.2.2.2.2.2.2.2.2.2.2.2 _ (by omega) (by omega), va_up_ne _ _ (by omega), va_up_ne _ _ (by omega), hF4.2.2.2.2.2 _ (by omega) (by omega), va_up_ne _ _ (by omega), va_up_ne _ _ (by omega), hF3.2.2.2.2.2.2.2.2.2 _ (by omega) (by omega), va_up_ne _ _ (by omega), va_up_ne _ _ (by omega), (hF2.2.2.2.2.2.2.2.2.2.2.2.2.2.2.2.2.2.2.2.2.1 j hj).1], by rw [va_up_ne _ _ (by omega), hF5.2.2.2.2.2.2.2.2.2.2.2.2.2.2 _ (by omega) (by omega), va_up_ne _ _ (by omega), va_up_ne _ _ (by omega), hF4.2.2.2.2.2 _ (by omega) (by omega), va_up_ne _ _ (by omega), va_up_ne _ _ (by omega), hF3.2.2.2.2.2.2.2.2.2 _ (by omega) (by omega), va_up_ne _ _ (by omega), va_up_ne _ _ (by omega), (hF2.2.2.2.2.2.2.2.2.2.2.2.2.2.2.2.2.2.2.2.2.1 j hj).2]⟩,
    fun j hj => ⟨by rw [va_up_ne _ _ (by omega), hF5.2.2.2.2.2.2.2.2.2.2.2.2.2.2 _ (by omega) (by omega), va_up_ne _ _ (by omega), va_up_ne _ _ (by omega), hF4.2.2.2.2.2 _ (by omega) (by omega), va_up_ne _ _ (by omega), va_up_ne _ _ (by omega), (hF3.2.2.2.2.2.2.2.2.1 j hj).1], by rw [va_up_ne _ _ (by omega), hF5.2.2.2.2.2.2.2.2.2.2.2.2.2.2 _ (by omega) (by omega), va_up_ne _ _ (by omega), va_up_ne _ _ (by omega), hF4.2.2.2.2.2 _ (by omega) (by omega), va_up_ne _ _ (by omega), va_up_ne _ _ (by omega), (hF3.2.2.2.2.2.2.2.2.1 j hj).2]⟩,
    fun j hj => by rw [va_up_ne _ _ (by omega), hF5.2.2.2.2.2.2.2.2.2.2.2.2.2.2 _ (by omega) (by omega), va_up_ne _ _ (by omega), va_up_ne _ _ (by omega), hF4.2.2.1 j hj],
    fun j hj => by rw [va_up_ne _ _ (by omega), hF5.2.2.1 j hj]⟩
