theorem rc_i32 {k m : Nat} (h : k < m) (hm : m < 2 ^ 31) : vp_in (nI k) m := vp_in_nI h hm
theorem hk_Roo : yX10_init.cls ≠ "java/lang/invoke/MethodHandle" ∧ yX10_init.cls ≠ "java/lang/invoke/VarHandle" ∧ (parseMethodDescriptor yX10_init.desc).map (fun d => d.parameters.length) = some 0 := by decide +kernel
theorem hq_Roo : plainName yX10_init.cls = true := by decide +kernel
theorem hk_Mod : yX11_init.cls ≠ "java/lang/invoke/MethodHandle" ∧ yX11_init.cls ≠ "java/lang/invoke/VarHandle" ∧ (parseMethodDescriptor yX11_init.desc).map (fun d => d.parameters.length) = some 0 := by decide +kernel
theorem hq_Mod : plainName yX11_init.cls = true := by decide +kernel
theorem hk_Big : yX0_init.cls ≠ "java/lang/invoke/MethodHandle" ∧ yX0_init.cls ≠ "java/lang/invoke/VarHandle" ∧ (parseMethodDescriptor yX0_init.desc).map (fun d => d.parameters.length) = some 1 := by decide +kernel
theorem hq_Big : plainName yX0_init.cls = true := by decide +kernel
theorem hk_Lev : yX1_init.cls ≠ "java/lang/invoke/MethodHandle" ∧ yX1_init.cls ≠ "java/lang/invoke/VarHandle" ∧ (parseMethodDescriptor yX1_init.desc).map (fun d => d.parameters.length) = some 1 := by decide +kernel
theorem hq_Lev : plainName yX1_init.cls = true := by decide +kernel
theorem hk_Mak : yX2_init.cls ≠ "java/lang/invoke/MethodHandle" ∧ yX2_init.cls ≠ "java/lang/invoke/VarHandle" ∧ (parseMethodDescriptor yX2_init.desc).map (fun d => d.parameters.length) = some 0 := by decide +kernel
theorem hq_Mak : plainName yX2_init.cls = true := by decide +kernel
theorem hk_Pla : yX4_init.cls ≠ "java/lang/invoke/MethodHandle" ∧ yX4_init.cls ≠ "java/lang/invoke/VarHandle" ∧ (parseMethodDescriptor yX4_init.desc).map (fun d => d.parameters.length) = some 3 := by decide +kernel
theorem hq_Pla : plainName yX4_init.cls = true := by decide +kernel
theorem hk_Poi : yX5_init.cls ≠ "java/lang/invoke/MethodHandle" ∧ yX5_init.cls ≠ "java/lang/invoke/VarHandle" ∧ (parseMethodDescriptor yX5_init.desc).map (fun d => d.parameters.length) = some 0 := by decide +kernel
theorem hq_Poi : plainName yX5_init.cls = true := by decide +kernel
theorem hk_Seq : yX7_init.cls ≠ "java/lang/invoke/MethodHandle" ∧ yX7_init.cls ≠ "java/lang/invoke/VarHandle" ∧ (parseMethodDescriptor yX7_init.desc).map (fun d => d.parameters.length) = some 0 := by decide +kernel
theorem hq_Seq : plainName yX7_init.cls = true := by decide +kernel
theorem hk_Tap : yX8_init.cls ≠ "java/lang/invoke/MethodHandle" ∧ yX8_init.cls ≠ "java/lang/invoke/VarHandle" ∧ (parseMethodDescriptor yX8_init.desc).map (fun d => d.parameters.length) = some 0 := by decide +kernel
theorem hq_Tap : plainName yX8_init.cls = true := by decide +kernel
theorem hk_Tra : yX9_init.cls ≠ "java/lang/invoke/MethodHandle" ∧ yX9_init.cls ≠ "java/lang/invoke/VarHandle" ∧ (parseMethodDescriptor yX9_init.desc).map (fun d => d.parameters.length) = some 0 := by decide +kernel
theorem hq_Tra : plainName yX9_init.cls = true := by decide +kernel
theorem bl_0 : ∀ j, j < 2 → defaultValue (tyX0 j) = vp_V [.null, .int 0] j := by
  intro j hj
  rcases (by omega : j = 0 ∨ j = 1) with h | h <;> subst h <;> rfl
theorem bl_1 : ∀ j, j < 5 → defaultValue (tyX1 j) = vp_V [.null, .null, .int 0, .null, .null] j := by
  intro j hj
  rcases (by omega : j = 0 ∨ j = 1 ∨ j = 2 ∨ j = 3 ∨ j = 4) with h | h | h | h | h <;> subst h <;> rfl
theorem bl_2 : ∀ j, j < 1 → defaultValue (tyX2 j) = vp_V [.null] j := by
  intro j hj
  have h : j = 0 := by omega
  subst h
  rfl
theorem bl_3 : ∀ j, j < 15 → defaultValue (tyX4 j) = vp_V [.null, .null, .null, .null, .null, .int 0, .int 0, .null, .null, .null, .null, .null, .null, .null, .int 0] j := by
  intro j hj
  rcases (by omega : j = 0 ∨ j = 1 ∨ j = 2 ∨ j = 3 ∨ j = 4 ∨ j = 5 ∨ j = 6 ∨ j = 7 ∨ j = 8 ∨ j = 9 ∨ j = 10 ∨ j = 11 ∨ j = 12 ∨ j = 13 ∨ j = 14) with h | h | h | h | h | h | h | h | h | h | h | h | h | h | h <;> subst h <;> rfl
theorem bl_4 : ∀ j, j < 5 → defaultValue (tyX5 j) = vp_V [.null, .int 0, .null, .null, .null] j := by
  intro j hj
  rcases (by omega : j = 0 ∨ j = 1 ∨ j = 2 ∨ j = 3 ∨ j = 4) with h | h | h | h | h <;> subst h <;> rfl
theorem bl_5 : ∀ j, j < 12 → defaultValue (tyX7 j) = vp_V [.null, .null, .null, .int 0, .null, .null, .null, .null, .null, .null, .null, .null] j := by
  intro j hj
  rcases (by omega : j = 0 ∨ j = 1 ∨ j = 2 ∨ j = 3 ∨ j = 4 ∨ j = 5 ∨ j = 6 ∨ j = 7 ∨ j = 8 ∨ j = 9 ∨ j = 10 ∨ j = 11) with h | h | h | h | h | h | h | h | h | h | h | h <;> subst h <;> rfl
theorem bl_6 : ∀ j, j < 8 → defaultValue (tyX8 j) = vp_V [.null, .int 0, .int 0, .null, .int 0, .int 0, .long 0, .int 0] j := by
  intro j hj
  rcases (by omega : j = 0 ∨ j = 1 ∨ j = 2 ∨ j = 3 ∨ j = 4 ∨ j = 5 ∨ j = 6 ∨ j = 7) with h | h | h | h | h | h | h | h <;> subst h <;> rfl
theorem bl_7 : ∀ j, j < 13 → defaultValue (tyX9 j) = vp_V [.null, .int 0, .int 0, .int 0, .int 0, .int 0, .int 0, .null, .null, .int 0, .null, .null, .null] j := by
  intro j hj
  rcases (by omega : j = 0 ∨ j = 1 ∨ j = 2 ∨ j = 3 ∨ j = 4 ∨ j = 5 ∨ j = 6 ∨ j = 7 ∨ j = 8 ∨ j = 9 ∨ j = 10 ∨ j = 11 ∨ j = 12) with h | h | h | h | h | h | h | h | h | h | h | h | h <;> subst h <;> rfl
theorem bl_8 : ∀ j, j < 7 → defaultValue (tyX10 j) = vp_V [.null, .null, .null, .null, .null, .null, .null] j := by
  intro j hj
  rcases (by omega : j = 0 ∨ j = 1 ∨ j = 2 ∨ j = 3 ∨ j = 4 ∨ j = 5 ∨ j = 6) with h | h | h | h | h | h | h <;> subst h <;> rfl
theorem bl_9 : ∀ j, j < 18 → defaultValue (tyX11 j) = vp_V [.int 0, .null, .null, .null, .null, .null, .null, .null, .null, .null, .null, .int 0, .null, .null, .int 0, .int 0, .int 0, .int 0] j := by
  intro j hj
  rcases (by omega : j = 0 ∨ j = 1 ∨ j = 2 ∨ j = 3 ∨ j = 4 ∨ j = 5 ∨ j = 6 ∨ j = 7 ∨ j = 8 ∨ j = 9 ∨ j = 10 ∨ j = 11 ∨ j = 12 ∨ j = 13 ∨ j = 14 ∨ j = 15 ∨ j = 16 ∨ j = 17) with h | h | h | h | h | h | h | h | h | h | h | h | h | h | h | h | h | h <;> subst h <;> rfl
theorem k_Big (l : Launch) (D : va_G) (cy : Nat → ClassId) (b n : Nat) (f : Nat → va_E) (h : Nat) (x : Int32) (hh : h < n) (hf : f h = .inr (0, [.null, .int 0])) {N0 : Nat} (hx : rr_mx x 4 = nI N0) (h4 : N0 ≤ 100) (h0 : ¬ nI N0 < 0) : rc_Met l D cy yX0_init cX0_init 2 1 23 1 N0 [.ref (b + h), .int x] b n f (fun n1 f1 => n1 = n + 1 ∧ f1 h = .inr (0, [.ref (b + n), .int 1]) ∧ f1 n = .inl (cy 12, N0, .inr (.inl (fun _ => 0))) ∧ ∀ i, i < n → i ≠ h → f1 i = f i) := by
  refine rc_enter (lv0 := [(0, .ref (b + h)), (1, .int x)]) hq_Big rfl (Nat.le_of_ble_eq_true rfl) rfl (fun X hll C => ?_)
  replace C : rc_C X D cy cX0_init 2 "RootRows$Big" 1 23 1 N0 b := C
  refine ry_aload_n C 0 dX0_init_0 rfl ?_
  refine ry_obj (rest := []) C q_154 q_23 q_24 (by decide) (by decide) (Nat.le_of_ble_eq_true rfl) dX0_init_1 ?_
  refine ry_aload_n C 0 dX0_init_4 rfl ?_
  refine ry_iload_n C 1 dX0_init_5 rfl ?_
  refine ry_iconst (v := 4) C dX0_init_6 rfl ?_
  refine ry_mmax (rest := [.ref (b + h)]) C q_155 (by decide) (by decide) (Nat.zero_le _) (Nat.zero_le _) (Nat.le_of_ble_eq_true rfl) hx dX0_init_7 ?_
  refine ry_newa_l (N0 := N0) C h0 (nI_clamp (by omega)) (by omega) (by omega) (by omega) dX0_init_10 ?_
  refine ry_put (i := h) (fs := [.null, .int 0]) (fs1 := [.ref (b + n), .int 0]) C 0 0 tyX0 tyX0_ok nmX0 inX0 rfl (by decide) q_158 rfl rfl (by omega) (by rw [va_up_ne _ _ (by omega), hf]) (Nat.le_of_ble_eq_true rfl) rfl rfl rfl dX0_init_12 ?_
  refine ry_aload_n C 0 dX0_init_15 rfl ?_
  refine ry_iconst (v := 1) C dX0_init_16 rfl ?_
  refine ry_put (i := h) (fs := [.ref (b + n), .int 0]) (fs1 := [.ref (b + n), .int 1]) C 0 1 tyX0 tyX0_ok nmX0 inX0 rfl (by decide) q_159 rfl rfl (by omega) (by rw [va_up_self]) (Nat.le_of_ble_eq_true rfl) rfl rfl rfl dX0_init_17 ?_
  have e1 : 0 + N0 = N0 := Nat.zero_add _
  rw [e1]
  exact ry_ret C dX0_init_20 ⟨rfl, by rw [va_up_self], by rw [va_up_ne _ _ (by omega), va_up_ne _ _ (by omega), va_up_self], fun i h1 h2 => by rw [va_up_ne _ _ h2, va_up_ne _ _ h2, va_up_ne _ _ (by omega)]⟩
theorem k_Mak (l : Launch) (D : va_G) (cy : Nat → ClassId) (b n : Nat) (f : Nat → va_E) (h : Nat) (hh : h < n) (hf : f h = .inr (2, [.null])) : rc_Met l D cy yX2_init cX2_init 1 1 20 1 17 [.ref (b + h)] b n f (fun n1 f1 => n1 = n + 1 ∧ f1 h = .inr (2, [.ref (b + n)]) ∧ f1 (n) = .inl (cy 12, 17, .inr (.inl (fun _ => 0))) ∧ ∀ i, i < n → i ≠ h → f1 i = f i) := by
  refine rc_enter (lv0 := [(0, .ref (b + h))]) hq_Mak rfl (Nat.le_of_ble_eq_true rfl) rfl (fun X hll C => ?_)
  replace C : rc_C X D cy cX2_init 1 "RootRows$Maker" 1 20 1 17 b := C
  refine ry_aload_n C 0 dX2_init_0 rfl ?_
  refine ry_obj (rest := []) C q_136 q_23 q_24 (by decide) (by decide) (Nat.le_of_ble_eq_true rfl) dX2_init_1 ?_
  refine ry_aload_n C 0 dX2_init_4 rfl ?_
  refine ry_bipush (v := 17) C dX2_init_5 rfl ?_
  refine ry_newa_l (N0 := 17) C (by decide) (by decide) (by decide) (by omega) (by omega) dX2_init_7 ?_
  refine ry_put (i := h) (fs := [.null]) (fs1 := [.ref (b + n)]) C 2 0 tyX2 tyX2_ok nmX2 inX2 rfl (by decide) q_137 rfl rfl (by omega) (by rw [va_up_ne _ _ (by omega), hf]) (Nat.le_of_ble_eq_true rfl) rfl rfl rfl dX2_init_9 ?_
  exact ry_ret C dX2_init_12 ⟨rfl, by rw [va_up_self], by rw [va_up_ne _ _ (by omega), va_up_self], fun i h1 h2 => by rw [va_up_ne _ _ (by omega), va_up_ne _ _ (by omega)]⟩
theorem k_Tap (l : Launch) (D : va_G) (cy : Nat → ClassId) (b n : Nat) (f : Nat → va_E) (h : Nat) (hh : h < n) (hf : f h = .inr (6, [.null, .int 0, .int 0, .null, .int 0, .int 0, .long 0, .int 0])) : rc_Met l D cy yX8_init cX8_init 1 1 20 2 209 [.ref (b + h)] b n f (fun n1 f1 => n1 = n + 2 ∧ f1 h = .inr (6, [.ref (b + n), .int 0, .int 0, .ref (b + (n + 1)), .int 0, .int 0, .long 0, .int 0]) ∧ f1 (n) = .inl (cy 11, 200, .inl (fun _ => 0)) ∧ f1 (n + 1) = .inl (cy 12, 9, .inr (.inl (fun _ => 0))) ∧ ∀ i, i < n → i ≠ h → f1 i = f i) := by
  refine rc_enter (lv0 := [(0, .ref (b + h))]) hq_Tap rfl (Nat.le_of_ble_eq_true rfl) rfl (fun X hll C => ?_)
  replace C : rc_C X D cy cX8_init 1 "RootRows$Tape" 1 20 2 209 b := C
  refine ry_aload_n C 0 dX8_init_0 rfl ?_
  refine ry_obj (rest := []) C q_102 q_23 q_24 (by decide) (by decide) (Nat.le_of_ble_eq_true rfl) dX8_init_1 ?_
  refine ry_aload_n C 0 dX8_init_4 rfl ?_
  refine ry_sipush (v := 200) C dX8_init_5 rfl ?_
  refine ry_newa_i (N0 := 200) C (by decide) (by decide) (by decide) (by omega) (by omega) dX8_init_8 ?_
  refine ry_put (i := h) (fs := [.null, .int 0, .int 0, .null, .int 0, .int 0, .long 0, .int 0]) (fs1 := [.ref (b + n), .int 0, .int 0, .null, .int 0, .int 0, .long 0, .int 0]) C 6 0 tyX8 tyX8_ok nmX8 inX8 rfl (by decide) q_103 rfl rfl (by omega) (by rw [va_up_ne _ _ (by omega), hf]) (Nat.le_of_ble_eq_true rfl) rfl rfl rfl dX8_init_10 ?_
  refine ry_aload_n C 0 dX8_init_13 rfl ?_
  refine ry_bipush (v := 9) C dX8_init_14 rfl ?_
  refine ry_newa_l (N0 := 9) C (by decide) (by decide) (by decide) (by omega) (by omega) dX8_init_16 ?_
  refine ry_put (i := h) (fs := [.ref (b + n), .int 0, .int 0, .null, .int 0, .int 0, .long 0, .int 0]) (fs1 := [.ref (b + n), .int 0, .int 0, .ref (b + (n + 1)), .int 0, .int 0, .long 0, .int 0]) C 6 3 tyX8 tyX8_ok nmX8 inX8 rfl (by decide) q_108 rfl rfl (by omega) (by rw [va_up_ne _ _ (by omega), va_up_self]) (Nat.le_of_ble_eq_true rfl) rfl rfl rfl dX8_init_18 ?_
  exact ry_ret C dX8_init_21 ⟨rfl, by rw [va_up_self], by rw [va_up_ne _ _ (by omega), va_up_ne _ _ (by omega), va_up_ne _ _ (by omega), va_up_self], by rw [va_up_ne _ _ (by omega), va_up_self], fun i h1 h2 => by rw [va_up_ne _ _ (by omega), va_up_ne _ _ (by omega), va_up_ne _ _ (by omega), va_up_ne _ _ (by omega)]⟩
theorem k_Tra (l : Launch) (D : va_G) (cy : Nat → ClassId) (b n : Nat) (f : Nat → va_E) (h : Nat) (hh : h < n) (hf : f h = .inr (7, [.null, .int 0, .int 0, .int 0, .int 0, .int 0, .int 0, .null, .null, .int 0, .null, .null, .null])) : rc_Met l D cy yX9_init cX9_init 1 1 20 6 53 [.ref (b + h)] b n f (fun n1 f1 => n1 = n + 6 ∧ f1 h = .inr (7, [.ref (b + n), .int 0, .int 0, .int 0, .int 0, .int 0, .int 0, .ref (b + (n + 1)), .ref (b + (n + 2)), .int 0, .ref (b + (n + 3)), .ref (b + (n + 4)), .ref (b + (n + 5))]) ∧ f1 (n) = .inl (cy 12, 9, .inr (.inl (fun _ => 0))) ∧ f1 (n + 1) = .inl (cy 11, 10, .inl (fun _ => 0)) ∧ f1 (n + 2) = .inl (cy 11, 10, .inl (fun _ => 0)) ∧ f1 (n + 3) = .inl (cy 12, 8, .inr (.inl (fun _ => 0))) ∧ f1 (n + 4) = .inl (cy 13, 8, .inl (fun _ => 0)) ∧ f1 (n + 5) = .inl (cy 11, 8, .inl (fun _ => 0)) ∧ ∀ i, i < n → i ≠ h → f1 i = f i) := by
  refine rc_enter (lv0 := [(0, .ref (b + h))]) hq_Tra rfl (Nat.le_of_ble_eq_true rfl) rfl (fun X hll C => ?_)
  replace C : rc_C X D cy cX9_init 1 "RootRows$Tray" 1 20 6 53 b := C
  refine ry_aload_n C 0 dX9_init_0 rfl ?_
  refine ry_obj (rest := []) C q_31 q_23 q_24 (by decide) (by decide) (Nat.le_of_ble_eq_true rfl) dX9_init_1 ?_
  refine ry_aload_n C 0 dX9_init_4 rfl ?_
  refine ry_bipush (v := 9) C dX9_init_5 rfl ?_
  refine ry_newa_l (N0 := 9) C (by decide) (by decide) (by decide) (by omega) (by omega) dX9_init_7 ?_
  refine ry_put (i := h) (fs := [.null, .int 0, .int 0, .int 0, .int 0, .int 0, .int 0, .null, .null, .int 0, .null, .null, .null]) (fs1 := [.ref (b + n), .int 0, .int 0, .int 0, .int 0, .int 0, .int 0, .null, .null, .int 0, .null, .null, .null]) C 7 0 tyX9 tyX9_ok nmX9 inX9 rfl (by decide) q_32 rfl rfl (by omega) (by rw [va_up_ne _ _ (by omega), hf]) (Nat.le_of_ble_eq_true rfl) rfl rfl rfl dX9_init_9 ?_
  refine ry_aload_n C 0 dX9_init_12 rfl ?_
  refine ry_bipush (v := 10) C dX9_init_13 rfl ?_
  refine ry_newa_i (N0 := 10) C (by decide) (by decide) (by decide) (by omega) (by omega) dX9_init_15 ?_
  refine ry_put (i := h) (fs := [.ref (b + n), .int 0, .int 0, .int 0, .int 0, .int 0, .int 0, .null, .null, .int 0, .null, .null, .null]) (fs1 := [.ref (b + n), .int 0, .int 0, .int 0, .int 0, .int 0, .int 0, .ref (b + (n + 1)), .null, .int 0, .null, .null, .null]) C 7 7 tyX9 tyX9_ok nmX9 inX9 rfl (by decide) q_52 rfl rfl (by omega) (by rw [va_up_ne _ _ (by omega), va_up_self]) (Nat.le_of_ble_eq_true rfl) rfl rfl rfl dX9_init_17 ?_
  refine ry_aload_n C 0 dX9_init_20 rfl ?_
  refine ry_bipush (v := 10) C dX9_init_21 rfl ?_
  refine ry_newa_i (N0 := 10) C (by decide) (by decide) (by decide) (by omega) (by omega) dX9_init_23 ?_
  refine ry_put (i := h) (fs := [.ref (b + n), .int 0, .int 0, .int 0, .int 0, .int 0, .int 0, .ref (b + (n + 1)), .null, .int 0, .null, .null, .null]) (fs1 := [.ref (b + n), .int 0, .int 0, .int 0, .int 0, .int 0, .int 0, .ref (b + (n + 1)), .ref (b + (n + 2)), .int 0, .null, .null, .null]) C 7 8 tyX9 tyX9_ok nmX9 inX9 rfl (by decide) q_55 rfl rfl (by omega) (by rw [va_up_ne _ _ (by omega), va_up_self]) (Nat.le_of_ble_eq_true rfl) rfl rfl rfl dX9_init_25 ?_
  refine ry_aload_n C 0 dX9_init_28 rfl ?_
  refine ry_bipush (v := 8) C dX9_init_29 rfl ?_
  refine ry_newa_l (N0 := 8) C (by decide) (by decide) (by decide) (by omega) (by omega) dX9_init_31 ?_
  refine ry_put (i := h) (fs := [.ref (b + n), .int 0, .int 0, .int 0, .int 0, .int 0, .int 0, .ref (b + (n + 1)), .ref (b + (n + 2)), .int 0, .null, .null, .null]) (fs1 := [.ref (b + n), .int 0, .int 0, .int 0, .int 0, .int 0, .int 0, .ref (b + (n + 1)), .ref (b + (n + 2)), .int 0, .ref (b + (n + 3)), .null, .null]) C 7 10 tyX9 tyX9_ok nmX9 inX9 rfl (by decide) q_60 rfl rfl (by omega) (by rw [va_up_ne _ _ (by omega), va_up_self]) (Nat.le_of_ble_eq_true rfl) rfl rfl rfl dX9_init_33 ?_
  refine ry_aload_n C 0 dX9_init_36 rfl ?_
  refine ry_bipush (v := 8) C dX9_init_37 rfl ?_
  refine ry_newa_z (N0 := 8) C (by decide) (by decide) (by decide) (by omega) (by omega) dX9_init_39 ?_
  refine ry_put (i := h) (fs := [.ref (b + n), .int 0, .int 0, .int 0, .int 0, .int 0, .int 0, .ref (b + (n + 1)), .ref (b + (n + 2)), .int 0, .ref (b + (n + 3)), .null, .null]) (fs1 := [.ref (b + n), .int 0, .int 0, .int 0, .int 0, .int 0, .int 0, .ref (b + (n + 1)), .ref (b + (n + 2)), .int 0, .ref (b + (n + 3)), .ref (b + (n + 4)), .null]) C 7 11 tyX9 tyX9_ok nmX9 inX9 rfl (by decide) q_62 rfl rfl (by omega) (by rw [va_up_ne _ _ (by omega), va_up_self]) (Nat.le_of_ble_eq_true rfl) rfl rfl rfl dX9_init_41 ?_
  refine ry_aload_n C 0 dX9_init_44 rfl ?_
  refine ry_bipush (v := 8) C dX9_init_45 rfl ?_
  refine ry_newa_i (N0 := 8) C (by decide) (by decide) (by decide) (by omega) (by omega) dX9_init_47 ?_
  refine ry_put (i := h) (fs := [.ref (b + n), .int 0, .int 0, .int 0, .int 0, .int 0, .int 0, .ref (b + (n + 1)), .ref (b + (n + 2)), .int 0, .ref (b + (n + 3)), .ref (b + (n + 4)), .null]) (fs1 := [.ref (b + n), .int 0, .int 0, .int 0, .int 0, .int 0, .int 0, .ref (b + (n + 1)), .ref (b + (n + 2)), .int 0, .ref (b + (n + 3)), .ref (b + (n + 4)), .ref (b + (n + 5))]) C 7 12 tyX9 tyX9_ok nmX9 inX9 rfl (by decide) q_64 rfl rfl (by omega) (by rw [va_up_ne _ _ (by omega), va_up_self]) (Nat.le_of_ble_eq_true rfl) rfl rfl rfl dX9_init_49 ?_
  exact ry_ret C dX9_init_52 ⟨rfl, by rw [va_up_self], by rw [va_up_ne _ _ (by omega), va_up_ne _ _ (by omega), va_up_ne _ _ (by omega), va_up_ne _ _ (by omega), va_up_ne _ _ (by omega), va_up_ne _ _ (by omega), va_up_ne _ _ (by omega), va_up_ne _ _ (by omega), va_up_ne _ _ (by omega), va_up_ne _ _ (by omega), va_up_ne _ _ (by omega), va_up_self], by rw [va_up_ne _ _ (by omega), va_up_ne _ _ (by omega), va_up_ne _ _ (by omega), va_up_ne _ _ (by omega), va_up_ne _ _ (by omega), va_up_ne _ _ (by omega), va_up_ne _ _ (by omega), va_up_ne _ _ (by omega), va_up_ne _ _ (by omega), va_up_self], by rw [va_up_ne _ _ (by omega), va_up_ne _ _ (by omega), va_up_ne _ _ (by omega), va_up_ne _ _ (by omega), va_up_ne _ _ (by omega), va_up_ne _ _ (by omega), va_up_ne _ _ (by omega), va_up_self], by rw [va_up_ne _ _ (by omega), va_up_ne _ _ (by omega), va_up_ne _ _ (by omega), va_up_ne _ _ (by omega), va_up_ne _ _ (by omega), va_up_self], by rw [va_up_ne _ _ (by omega), va_up_ne _ _ (by omega), va_up_ne _ _ (by omega), va_up_self], by rw [va_up_ne _ _ (by omega), va_up_self], fun i h1 h2 => by rw [va_up_ne _ _ (by omega), va_up_ne _ _ (by omega), va_up_ne _ _ (by omega), va_up_ne _ _ (by omega), va_up_ne _ _ (by omega), va_up_ne _ _ (by omega), va_up_ne _ _ (by omega), va_up_ne _ _ (by omega), va_up_ne _ _ (by omega), va_up_ne _ _ (by omega), va_up_ne _ _ (by omega), va_up_ne _ _ (by omega)]⟩
theorem k_Mod (l : Launch) (D : va_G) (cy : Nat → ClassId) (b n : Nat) (f : Nat → va_E) (h : Nat) (hh : h < n) (hf : f h = .inr (9, [.int 0, .null, .null, .null, .null, .null, .null, .null, .null, .null, .null, .int 0, .null, .null, .int 0, .int 0, .int 0, .int 0])) : rc_Met l D cy yX11_init cX11_init 1 1 20 12 94124 [.ref (b + h)] b n f (fun n1 f1 => n1 = n + 12 ∧ f1 h = .inr (9, [.int 0, .ref (b + n), .ref (b + (n + 1)), .ref (b + (n + 2)), .ref (b + (n + 3)), .ref (b + (n + 4)), .ref (b + (n + 5)), .ref (b + (n + 6)), .ref (b + (n + 7)), .ref (b + (n + 8)), .ref (b + (n + 9)), .int 0, .ref (b + (n + 10)), .ref (b + (n + 11)), .int 0, .int 0, .int 0, .int 0]) ∧ f1 (n) = .inl (cy 11, 92000, .inl (fun _ => 0)) ∧ f1 (n + 1) = .inl (cy 11, 460, .inl (fun _ => 0)) ∧ f1 (n + 2) = .inl (cy 11, 460, .inl (fun _ => 0)) ∧ f1 (n + 3) = .inl (cy 12, 401, .inr (.inl (fun _ => 0))) ∧ f1 (n + 4) = .inl (cy 12, 201, .inr (.inl (fun _ => 0))) ∧ f1 (n + 5) = .inl (cy 11, 48, .inl (fun _ => 0)) ∧ f1 (n + 6) = .inl (cy 11, 48, .inl (fun _ => 0)) ∧ f1 (n + 7) = .inl (cy 12, 207, .inr (.inl (fun _ => 0))) ∧ f1 (n + 8) = .inl (cy 11, 9, .inl (fun _ => 0)) ∧ f1 (n + 9) = .inl (cy 11, 9, .inl (fun _ => 0)) ∧ f1 (n + 10) = .inl (cy 12, 81, .inr (.inl (fun _ => 0))) ∧ f1 (n + 11) = .inl (cy 10, 200, .inl (fun _ => 0)) ∧ ∀ i, i < n → i ≠ h → f1 i = f i) := by
  refine rc_enter (lv0 := [(0, .ref (b + h))]) hq_Mod rfl (Nat.le_of_ble_eq_true rfl) rfl (fun X hll C => ?_)
  replace C : rc_C X D cy cX11_init 1 "RootRowsModel" 1 20 12 94124 b := C
  refine ry_aload_n C 0 dX11_init_0 rfl ?_
  refine ry_obj (rest := []) C q_839 q_23 q_24 (by decide) (by decide) (Nat.le_of_ble_eq_true rfl) dX11_init_1 ?_
  refine ry_aload_n C 0 dX11_init_4 rfl ?_
  refine ry_ldc C q_840 dX11_init_5 ?_
  refine ry_newa_i (N0 := 92000) C (by decide) (by decide) (by decide) (by omega) (by omega) dX11_init_7 ?_
  refine ry_put (i := h) (fs := [.int 0, .null, .null, .null, .null, .null, .null, .null, .null, .null, .null, .int 0, .null, .null, .int 0, .int 0, .int 0, .int 0]) (fs1 := [.int 0, .ref (b + n), .null, .null, .null, .null, .null, .null, .null, .null, .null, .int 0, .null, .null, .int 0, .int 0, .int 0, .int 0]) C 9 1 tyX11 tyX11_ok nmX11 inX11 rfl (by decide) q_842 rfl rfl (by omega) (by rw [va_up_ne _ _ (by omega), hf]) (Nat.le_of_ble_eq_true rfl) rfl rfl rfl dX11_init_9 ?_
  refine ry_aload_n C 0 dX11_init_12 rfl ?_
  refine ry_sipush (v := 460) C dX11_init_13 rfl ?_
  refine ry_newa_i (N0 := 460) C (by decide) (by decide) (by decide) (by omega) (by omega) dX11_init_16 ?_
  refine ry_put (i := h) (fs := [.int 0, .ref (b + n), .null, .null, .null, .null, .null, .null, .null, .null, .null, .int 0, .null, .null, .int 0, .int 0, .int 0, .int 0]) (fs1 := [.int 0, .ref (b + n), .ref (b + (n + 1)), .null, .null, .null, .null, .null, .null, .null, .null, .int 0, .null, .null, .int 0, .int 0, .int 0, .int 0]) C 9 2 tyX11 tyX11_ok nmX11 inX11 rfl (by decide) q_843 rfl rfl (by omega) (by rw [va_up_ne _ _ (by omega), va_up_self]) (Nat.le_of_ble_eq_true rfl) rfl rfl rfl dX11_init_18 ?_
  refine ry_aload_n C 0 dX11_init_21 rfl ?_
  refine ry_sipush (v := 460) C dX11_init_22 rfl ?_
  refine ry_newa_i (N0 := 460) C (by decide) (by decide) (by decide) (by omega) (by omega) dX11_init_25 ?_
  refine ry_put (i := h) (fs := [.int 0, .ref (b + n), .ref (b + (n + 1)), .null, .null, .null, .null, .null, .null, .null, .null, .int 0, .null, .null, .int 0, .int 0, .int 0, .int 0]) (fs1 := [.int 0, .ref (b + n), .ref (b + (n + 1)), .ref (b + (n + 2)), .null, .null, .null, .null, .null, .null, .null, .int 0, .null, .null, .int 0, .int 0, .int 0, .int 0]) C 9 3 tyX11 tyX11_ok nmX11 inX11 rfl (by decide) q_844 rfl rfl (by omega) (by rw [va_up_ne _ _ (by omega), va_up_self]) (Nat.le_of_ble_eq_true rfl) rfl rfl rfl dX11_init_27 ?_
  refine ry_aload_n C 0 dX11_init_30 rfl ?_
  refine ry_sipush (v := 401) C dX11_init_31 rfl ?_
  refine ry_newa_l (N0 := 401) C (by decide) (by decide) (by decide) (by omega) (by omega) dX11_init_34 ?_
  refine ry_put (i := h) (fs := [.int 0, .ref (b + n), .ref (b + (n + 1)), .ref (b + (n + 2)), .null, .null, .null, .null, .null, .null, .null, .int 0, .null, .null, .int 0, .int 0, .int 0, .int 0]) (fs1 := [.int 0, .ref (b + n), .ref (b + (n + 1)), .ref (b + (n + 2)), .ref (b + (n + 3)), .null, .null, .null, .null, .null, .null, .int 0, .null, .null, .int 0, .int 0, .int 0, .int 0]) C 9 4 tyX11 tyX11_ok nmX11 inX11 rfl (by decide) q_845 rfl rfl (by omega) (by rw [va_up_ne _ _ (by omega), va_up_self]) (Nat.le_of_ble_eq_true rfl) rfl rfl rfl dX11_init_36 ?_
  refine ry_aload_n C 0 dX11_init_39 rfl ?_
  refine ry_sipush (v := 201) C dX11_init_40 rfl ?_
  refine ry_newa_l (N0 := 201) C (by decide) (by decide) (by decide) (by omega) (by omega) dX11_init_43 ?_
  refine ry_put (i := h) (fs := [.int 0, .ref (b + n), .ref (b + (n + 1)), .ref (b + (n + 2)), .ref (b + (n + 3)), .null, .null, .null, .null, .null, .null, .int 0, .null, .null, .int 0, .int 0, .int 0, .int 0]) (fs1 := [.int 0, .ref (b + n), .ref (b + (n + 1)), .ref (b + (n + 2)), .ref (b + (n + 3)), .ref (b + (n + 4)), .null, .null, .null, .null, .null, .int 0, .null, .null, .int 0, .int 0, .int 0, .int 0]) C 9 5 tyX11 tyX11_ok nmX11 inX11 rfl (by decide) q_846 rfl rfl (by omega) (by rw [va_up_ne _ _ (by omega), va_up_self]) (Nat.le_of_ble_eq_true rfl) rfl rfl rfl dX11_init_45 ?_
  refine ry_aload_n C 0 dX11_init_48 rfl ?_
  refine ry_bipush (v := 48) C dX11_init_49 rfl ?_
  refine ry_newa_i (N0 := 48) C (by decide) (by decide) (by decide) (by omega) (by omega) dX11_init_51 ?_
  refine ry_put (i := h) (fs := [.int 0, .ref (b + n), .ref (b + (n + 1)), .ref (b + (n + 2)), .ref (b + (n + 3)), .ref (b + (n + 4)), .null, .null, .null, .null, .null, .int 0, .null, .null, .int 0, .int 0, .int 0, .int 0]) (fs1 := [.int 0, .ref (b + n), .ref (b + (n + 1)), .ref (b + (n + 2)), .ref (b + (n + 3)), .ref (b + (n + 4)), .ref (b + (n + 5)), .null, .null, .null, .null, .int 0, .null, .null, .int 0, .int 0, .int 0, .int 0]) C 9 6 tyX11 tyX11_ok nmX11 inX11 rfl (by decide) q_847 rfl rfl (by omega) (by rw [va_up_ne _ _ (by omega), va_up_self]) (Nat.le_of_ble_eq_true rfl) rfl rfl rfl dX11_init_53 ?_
  refine ry_aload_n C 0 dX11_init_56 rfl ?_
  refine ry_bipush (v := 48) C dX11_init_57 rfl ?_
  refine ry_newa_i (N0 := 48) C (by decide) (by decide) (by decide) (by omega) (by omega) dX11_init_59 ?_
  refine ry_put (i := h) (fs := [.int 0, .ref (b + n), .ref (b + (n + 1)), .ref (b + (n + 2)), .ref (b + (n + 3)), .ref (b + (n + 4)), .ref (b + (n + 5)), .null, .null, .null, .null, .int 0, .null, .null, .int 0, .int 0, .int 0, .int 0]) (fs1 := [.int 0, .ref (b + n), .ref (b + (n + 1)), .ref (b + (n + 2)), .ref (b + (n + 3)), .ref (b + (n + 4)), .ref (b + (n + 5)), .ref (b + (n + 6)), .null, .null, .null, .int 0, .null, .null, .int 0, .int 0, .int 0, .int 0]) C 9 7 tyX11 tyX11_ok nmX11 inX11 rfl (by decide) q_848 rfl rfl (by omega) (by rw [va_up_ne _ _ (by omega), va_up_self]) (Nat.le_of_ble_eq_true rfl) rfl rfl rfl dX11_init_61 ?_
  refine ry_aload_n C 0 dX11_init_64 rfl ?_
  refine ry_sipush (v := 207) C dX11_init_65 rfl ?_
  refine ry_newa_l (N0 := 207) C (by decide) (by decide) (by decide) (by omega) (by omega) dX11_init_68 ?_
  refine ry_put (i := h) (fs := [.int 0, .ref (b + n), .ref (b + (n + 1)), .ref (b + (n + 2)), .ref (b + (n + 3)), .ref (b + (n + 4)), .ref (b + (n + 5)), .ref (b + (n + 6)), .null, .null, .null, .int 0, .null, .null, .int 0, .int 0, .int 0, .int 0]) (fs1 := [.int 0, .ref (b + n), .ref (b + (n + 1)), .ref (b + (n + 2)), .ref (b + (n + 3)), .ref (b + (n + 4)), .ref (b + (n + 5)), .ref (b + (n + 6)), .ref (b + (n + 7)), .null, .null, .int 0, .null, .null, .int 0, .int 0, .int 0, .int 0]) C 9 8 tyX11 tyX11_ok nmX11 inX11 rfl (by decide) q_849 rfl rfl (by omega) (by rw [va_up_ne _ _ (by omega), va_up_self]) (Nat.le_of_ble_eq_true rfl) rfl rfl rfl dX11_init_70 ?_
  refine ry_aload_n C 0 dX11_init_73 rfl ?_
  refine ry_bipush (v := 9) C dX11_init_74 rfl ?_
  refine ry_newa_i (N0 := 9) C (by decide) (by decide) (by decide) (by omega) (by omega) dX11_init_76 ?_
  refine ry_put (i := h) (fs := [.int 0, .ref (b + n), .ref (b + (n + 1)), .ref (b + (n + 2)), .ref (b + (n + 3)), .ref (b + (n + 4)), .ref (b + (n + 5)), .ref (b + (n + 6)), .ref (b + (n + 7)), .null, .null, .int 0, .null, .null, .int 0, .int 0, .int 0, .int 0]) (fs1 := [.int 0, .ref (b + n), .ref (b + (n + 1)), .ref (b + (n + 2)), .ref (b + (n + 3)), .ref (b + (n + 4)), .ref (b + (n + 5)), .ref (b + (n + 6)), .ref (b + (n + 7)), .ref (b + (n + 8)), .null, .int 0, .null, .null, .int 0, .int 0, .int 0, .int 0]) C 9 9 tyX11 tyX11_ok nmX11 inX11 rfl (by decide) q_850 rfl rfl (by omega) (by rw [va_up_ne _ _ (by omega), va_up_self]) (Nat.le_of_ble_eq_true rfl) rfl rfl rfl dX11_init_78 ?_
  refine ry_aload_n C 0 dX11_init_81 rfl ?_
  refine ry_bipush (v := 9) C dX11_init_82 rfl ?_
  refine ry_newa_i (N0 := 9) C (by decide) (by decide) (by decide) (by omega) (by omega) dX11_init_84 ?_
  refine ry_put (i := h) (fs := [.int 0, .ref (b + n), .ref (b + (n + 1)), .ref (b + (n + 2)), .ref (b + (n + 3)), .ref (b + (n + 4)), .ref (b + (n + 5)), .ref (b + (n + 6)), .ref (b + (n + 7)), .ref (b + (n + 8)), .null, .int 0, .null, .null, .int 0, .int 0, .int 0, .int 0]) (fs1 := [.int 0, .ref (b + n), .ref (b + (n + 1)), .ref (b + (n + 2)), .ref (b + (n + 3)), .ref (b + (n + 4)), .ref (b + (n + 5)), .ref (b + (n + 6)), .ref (b + (n + 7)), .ref (b + (n + 8)), .ref (b + (n + 9)), .int 0, .null, .null, .int 0, .int 0, .int 0, .int 0]) C 9 10 tyX11 tyX11_ok nmX11 inX11 rfl (by decide) q_851 rfl rfl (by omega) (by rw [va_up_ne _ _ (by omega), va_up_self]) (Nat.le_of_ble_eq_true rfl) rfl rfl rfl dX11_init_86 ?_
  refine ry_aload_n C 0 dX11_init_89 rfl ?_
  refine ry_bipush (v := 81) C dX11_init_90 rfl ?_
  refine ry_newa_l (N0 := 81) C (by decide) (by decide) (by decide) (by omega) (by omega) dX11_init_92 ?_
  refine ry_put (i := h) (fs := [.int 0, .ref (b + n), .ref (b + (n + 1)), .ref (b + (n + 2)), .ref (b + (n + 3)), .ref (b + (n + 4)), .ref (b + (n + 5)), .ref (b + (n + 6)), .ref (b + (n + 7)), .ref (b + (n + 8)), .ref (b + (n + 9)), .int 0, .null, .null, .int 0, .int 0, .int 0, .int 0]) (fs1 := [.int 0, .ref (b + n), .ref (b + (n + 1)), .ref (b + (n + 2)), .ref (b + (n + 3)), .ref (b + (n + 4)), .ref (b + (n + 5)), .ref (b + (n + 6)), .ref (b + (n + 7)), .ref (b + (n + 8)), .ref (b + (n + 9)), .int 0, .ref (b + (n + 10)), .null, .int 0, .int 0, .int 0, .int 0]) C 9 12 tyX11 tyX11_ok nmX11 inX11 rfl (by decide) q_853 rfl rfl (by omega) (by rw [va_up_ne _ _ (by omega), va_up_self]) (Nat.le_of_ble_eq_true rfl) rfl rfl rfl dX11_init_94 ?_
  refine ry_aload_n C 0 dX11_init_97 rfl ?_
  refine ry_sipush (v := 200) C dX11_init_98 rfl ?_
  refine ry_newa_b (N0 := 200) C (by decide) (by decide) (by decide) (by omega) (by omega) dX11_init_101 ?_
  refine ry_put (i := h) (fs := [.int 0, .ref (b + n), .ref (b + (n + 1)), .ref (b + (n + 2)), .ref (b + (n + 3)), .ref (b + (n + 4)), .ref (b + (n + 5)), .ref (b + (n + 6)), .ref (b + (n + 7)), .ref (b + (n + 8)), .ref (b + (n + 9)), .int 0, .ref (b + (n + 10)), .null, .int 0, .int 0, .int 0, .int 0]) (fs1 := [.int 0, .ref (b + n), .ref (b + (n + 1)), .ref (b + (n + 2)), .ref (b + (n + 3)), .ref (b + (n + 4)), .ref (b + (n + 5)), .ref (b + (n + 6)), .ref (b + (n + 7)), .ref (b + (n + 8)), .ref (b + (n + 9)), .int 0, .ref (b + (n + 10)), .ref (b + (n + 11)), .int 0, .int 0, .int 0, .int 0]) C 9 13 tyX11 tyX11_ok nmX11 inX11 rfl (by decide) q_854 rfl rfl (by omega) (by rw [va_up_ne _ _ (by omega), va_up_self]) (Nat.le_of_ble_eq_true rfl) rfl rfl rfl dX11_init_103 ?_
  exact ry_ret C dX11_init_106 ⟨rfl, by rw [va_up_self], by rw [va_up_ne _ _ (by omega), va_up_ne _ _ (by omega), va_up_ne _ _ (by omega), va_up_ne _ _ (by omega), va_up_ne _ _ (by omega), va_up_ne _ _ (by omega), va_up_ne _ _ (by omega), va_up_ne _ _ (by omega), va_up_ne _ _ (by omega), va_up_ne _ _ (by omega), va_up_ne _ _ (by omega), va_up_ne _ _ (by omega), va_up_ne _ _ (by omega), va_up_ne _ _ (by omega), va_up_ne _ _ (by omega), va_up_ne _ _ (by omega), va_up_ne _ _ (by omega), va_up_ne _ _ (by omega), va_up_ne _ _ (by omega), va_up_ne _ _ (by omega), va_up_ne _ _ (by omega), va_up_ne _ _ (by omega), va_up_ne _ _ (by omega), va_up_self], by rw [va_up_ne _ _ (by omega), va_up_ne _ _ (by omega), va_up_ne _ _ (by omega), va_up_ne _ _ (by omega), va_up_ne _ _ (by omega), va_up_ne _ _ (by omega), va_up_ne _ _ (by omega), va_up_ne _ _ (by omega), va_up_ne _ _ (by omega), va_up_ne _ _ (by omega), va_up_ne _ _ (by omega), va_up_ne _ _ (by omega), va_up_ne _ _ (by omega), va_up_ne _ _ (by omega), va_up_ne _ _ (by omega), va_up_ne _ _ (by omega), va_up_ne _ _ (by omega), va_up_ne _ _ (by omega), va_up_ne _ _ (by omega), va_up_ne _ _ (by omega), va_up_ne _ _ (by omega), va_up_self], by rw [va_up_ne _ _ (by omega), va_up_ne _ _ (by omega), va_up_ne _ _ (by omega), va_up_ne _ _ (by omega), va_up_ne _ _ (by omega), va_up_ne _ _ (by omega), va_up_ne _ _ (by omega), va_up_ne _ _ (by omega), va_up_ne _ _ (by omega), va_up_ne _ _ (by omega), va_up_ne _ _ (by omega), va_up_ne _ _ (by omega), va_up_ne _ _ (by omega), va_up_ne _ _ (by omega), va_up_ne _ _ (by omega), va_up_ne _ _ (by omega), va_up_ne _ _ (by omega), va_up_ne _ _ (by omega), va_up_ne _ _ (by omega), va_up_self], by rw [va_up_ne _ _ (by omega), va_up_ne _ _ (by omega), va_up_ne _ _ (by omega), va_up_ne _ _ (by omega), va_up_ne _ _ (by omega), va_up_ne _ _ (by omega), va_up_ne _ _ (by omega), va_up_ne _ _ (by omega), va_up_ne _ _ (by omega), va_up_ne _ _ (by omega), va_up_ne _ _ (by omega), va_up_ne _ _ (by omega), va_up_ne _ _ (by omega), va_up_ne _ _ (by omega), va_up_ne _ _ (by omega), va_up_ne _ _ (by omega), va_up_ne _ _ (by omega), va_up_self], by rw [va_up_ne _ _ (by omega), va_up_ne _ _ (by omega), va_up_ne _ _ (by omega), va_up_ne _ _ (by omega), va_up_ne _ _ (by omega), va_up_ne _ _ (by omega), va_up_ne _ _ (by omega), va_up_ne _ _ (by omega), va_up_ne _ _ (by omega), va_up_ne _ _ (by omega), va_up_ne _ _ (by omega), va_up_ne _ _ (by omega), va_up_ne _ _ (by omega), va_up_ne _ _ (by omega), va_up_ne _ _ (by omega), va_up_self], by rw [va_up_ne _ _ (by omega), va_up_ne _ _ (by omega), va_up_ne _ _ (by omega), va_up_ne _ _ (by omega), va_up_ne _ _ (by omega), va_up_ne _ _ (by omega), va_up_ne _ _ (by omega), va_up_ne _ _ (by omega), va_up_ne _ _ (by omega), va_up_ne _ _ (by omega), va_up_ne _ _ (by omega), va_up_ne _ _ (by omega), va_up_ne _ _ (by omega), va_up_self], by rw [va_up_ne _ _ (by omega), va_up_ne _ _ (by omega), va_up_ne _ _ (by omega), va_up_ne _ _ (by omega), va_up_ne _ _ (by omega), va_up_ne _ _ (by omega), va_up_ne _ _ (by omega), va_up_ne _ _ (by omega), va_up_ne _ _ (by omega), va_up_ne _ _ (by omega), va_up_ne _ _ (by omega), va_up_self], by rw [va_up_ne _ _ (by omega), va_up_ne _ _ (by omega), va_up_ne _ _ (by omega), va_up_ne _ _ (by omega), va_up_ne _ _ (by omega), va_up_ne _ _ (by omega), va_up_ne _ _ (by omega), va_up_ne _ _ (by omega), va_up_ne _ _ (by omega), va_up_self], by rw [va_up_ne _ _ (by omega), va_up_ne _ _ (by omega), va_up_ne _ _ (by omega), va_up_ne _ _ (by omega), va_up_ne _ _ (by omega), va_up_ne _ _ (by omega), va_up_ne _ _ (by omega), va_up_self], by rw [va_up_ne _ _ (by omega), va_up_ne _ _ (by omega), va_up_ne _ _ (by omega), va_up_ne _ _ (by omega), va_up_ne _ _ (by omega), va_up_self], by rw [va_up_ne _ _ (by omega), va_up_ne _ _ (by omega), va_up_ne _ _ (by omega), va_up_self], by rw [va_up_ne _ _ (by omega), va_up_self], fun i h1 h2 => by rw [va_up_ne _ _ (by omega), va_up_ne _ _ (by omega), va_up_ne _ _ (by omega), va_up_ne _ _ (by omega), va_up_ne _ _ (by omega), va_up_ne _ _ (by omega), va_up_ne _ _ (by omega), va_up_ne _ _ (by omega), va_up_ne _ _ (by omega), va_up_ne _ _ (by omega), va_up_ne _ _ (by omega), va_up_ne _ _ (by omega), va_up_ne _ _ (by omega), va_up_ne _ _ (by omega), va_up_ne _ _ (by omega), va_up_ne _ _ (by omega), va_up_ne _ _ (by omega), va_up_ne _ _ (by omega), va_up_ne _ _ (by omega), va_up_ne _ _ (by omega), va_up_ne _ _ (by omega), va_up_ne _ _ (by omega), va_up_ne _ _ (by omega), va_up_ne _ _ (by omega)]⟩
theorem k_Lev (l : Launch) (D : va_G) (cy : Nat → ClassId) (b n : Nat) (f : Nat → va_E) (h q : Nat) (hh : h < n) (hf : f h = .inr (1, [.null, .null, .int 0, .null, .null])) : rc_Met l D cy yX1_init cX1_init 2 1 20 12 108 [.ref (b + h), .ref (b + q)] b n f (fun n1 f1 => n1 = n + 12 ∧ f1 h = .inr (1, [.ref (b + n), .ref (b + (n + 10)), .int 0, .ref (b + q), .ref (b + (n + 11))]) ∧ f1 n = .inl (cy 16, 9, .inr (.inr (.inr (.inr (fun j => if j < 9 then some (b + (n + 1 + j)) else none))))) ∧ (∀ j, j < 9 → f1 (n + 1 + j) = .inl (cy 12, 9, .inr (.inl (fun _ => 0)))) ∧ f1 (n + 10) = .inl (cy 11, 9, .inl (fun _ => 0)) ∧ f1 (n + 11) = .inl (cy 12, 9, .inr (.inl (fun _ => 0))) ∧ ∀ i, i < n → i ≠ h → f1 i = f i) := by
  refine rc_enter (lv0 := [(0, .ref (b + h)), (1, .ref (b + q))]) hq_Lev rfl (Nat.le_of_ble_eq_true rfl) rfl (fun X hll C => ?_)
  replace C : rc_C X D cy cX1_init 2 "RootRows$Levels" 1 20 12 108 b := C
  refine ry_aload_n C 0 dX1_init_0 rfl ?_
  refine ry_obj (rest := []) C q_239 q_23 q_24 (by decide) (by decide) (Nat.le_of_ble_eq_true rfl) dX1_init_1 ?_
  refine ry_aload_n C 0 dX1_init_4 rfl ?_
  refine ry_bipush (v := 9) C dX1_init_5 rfl ?_
  refine ry_bipush (v := 9) C dX1_init_7 rfl ?_
  refine ry_mna C q_240 (by omega) (by omega) dX1_init_9 (fun g0 g0_1 g0_2 g0_3 => ?_)
  refine ry_put (i := h) (fs := [.null, .null, .int 0, .null, .null]) (fs1 := [.ref (b + n), .null, .int 0, .null, .null]) C 1 0 tyX1 tyX1_ok nmX1 inX1 rfl (by decide) q_242 rfl rfl (by omega) (by rw [g0_3 _ (by omega), hf]) (Nat.le_of_ble_eq_true rfl) rfl rfl rfl dX1_init_13 ?_
  refine ry_aload_n C 0 dX1_init_16 rfl ?_
  refine ry_bipush (v := 9) C dX1_init_17 rfl ?_
  refine ry_newa_i (N0 := 9) C (by decide) (by decide) (by decide) (by omega) (by omega) dX1_init_19 ?_
  refine ry_put (i := h) (fs := [.ref (b + n), .null, .int 0, .null, .null]) (fs1 := [.ref (b + n), .ref (b + (n + 10)), .int 0, .null, .null]) C 1 1 tyX1 tyX1_ok nmX1 inX1 rfl (by decide) q_244 rfl rfl (by omega) (by rw [va_up_ne _ _ (by omega), va_up_self]) (Nat.le_of_ble_eq_true rfl) rfl rfl rfl dX1_init_21 ?_
  refine ry_aload_n C 0 dX1_init_24 rfl ?_
  refine ry_bipush (v := 9) C dX1_init_25 rfl ?_
  refine ry_newa_l (N0 := 9) C (by decide) (by decide) (by decide) (by omega) (by omega) dX1_init_27 ?_
  refine ry_put (i := h) (fs := [.ref (b + n), .ref (b + (n + 10)), .int 0, .null, .null]) (fs1 := [.ref (b + n), .ref (b + (n + 10)), .int 0, .null, .ref (b + (n + 11))]) C 1 4 tyX1 tyX1_ok nmX1 inX1 rfl (by decide) q_249 rfl rfl (by omega) (by rw [va_up_ne _ _ (by omega), va_up_self]) (Nat.le_of_ble_eq_true rfl) rfl rfl rfl dX1_init_29 ?_
  refine ry_aload_n C 0 dX1_init_32 rfl ?_
  refine ry_aload_n C 1 dX1_init_33 rfl ?_
  refine ry_put (i := h) (fs := [.ref (b + n), .ref (b + (n + 10)), .int 0, .null, .ref (b + (n + 11))]) (fs1 := [.ref (b + n), .ref (b + (n + 10)), .int 0, .ref (b + q), .ref (b + (n + 11))]) C 1 3 tyX1 tyX1_ok nmX1 inX1 rfl (by decide) q_248 rfl rfl (by omega) (by rw [va_up_self]) (Nat.le_of_ble_eq_true rfl) rfl rfl rfl dX1_init_34 ?_
  exact ry_ret C dX1_init_37 ⟨rfl, by rw [va_up_self], by rw [va_up_ne _ _ (by omega), va_up_ne _ _ (by omega), va_up_ne _ _ (by omega), va_up_ne _ _ (by omega), va_up_ne _ _ (by omega), va_up_ne _ _ (by omega), g0_1], fun j hj => by rw [va_up_ne _ _ (by omega), va_up_ne _ _ (by omega), va_up_ne _ _ (by omega), va_up_ne _ _ (by omega), va_up_ne _ _ (by omega), va_up_ne _ _ (by omega), g0_2 j hj], by rw [va_up_ne _ _ (by omega), va_up_ne _ _ (by omega), va_up_ne _ _ (by omega), va_up_ne _ _ (by omega), va_up_self], by rw [va_up_ne _ _ (by omega), va_up_ne _ _ (by omega), va_up_self], fun i h1 h2 => by rw [va_up_ne _ _ (by omega), va_up_ne _ _ (by omega), va_up_ne _ _ (by omega), va_up_ne _ _ (by omega), va_up_ne _ _ (by omega), va_up_ne _ _ (by omega), g0_3 _ (by omega)]⟩
theorem kl_Seq1 {X : rr_X} {D : va_G} {cy : Nat → ClassId} {l : Launch} {Q : State → Prop} {lo mc ms b : Nat} {fr : Nat} (hfr : 2 ≤ fr) (hlo : 44 ≤ lo) (hll : X.2.1 = l) (C : rc_C X D cy cX7_init 2 "RootRows$Sequence" fr lo mc ms b) (base h ar ce0 sl0 : Nat) (f0 : Nat → va_E) (OBJ : List Value) (hh : h < base) (ha : ar < base) (hne : h ≠ ar) (hce : ce0 + 180 ≤ mc) (hsl : sl0 + 2340 ≤ ms) (hf0 : f0 h = .inr (5, OBJ)) (hv : OBJ[0]? = some (.ref (b + ar))) (kont : ∀ f1 : Nat → va_E, f1 ar = .inl (cy 14, 90, .inr (.inr (.inr (.inr (fun j => if j < 90 then some (b + (base + 2 * j)) else none))))) → (∀ j, j < 90 → f1 (base + 2 * j) = .inr (0, [.ref (b + (base + 2 * j + 1)), .int 1]) ∧ f1 (base + 2 * j + 1) = .inl (cy 12, 24, .inr (.inl (fun _ => 0)))) → (∀ i, i < base → i ≠ ar → f1 i = f0 i) → rc_J X D 2 Q b (base + 180) f1 (ce0 + 180) (sl0 + 2340) 161 [(1, .int (nI 90)), (0, .ref (b + h))] []) : ∀ (z k : Nat), k + z = 90 → ∀ f : Nat → va_E, f ar = .inl (cy 14, 90, .inr (.inr (.inr (.inr (fun j => if j < k then some (b + (base + 2 * j)) else none))))) → (∀ j, j < k → f (base + 2 * j) = .inr (0, [.ref (b + (base + 2 * j + 1)), .int 1]) ∧ f (base + 2 * j + 1) = .inl (cy 12, 24, .inr (.inl (fun _ => 0)))) → (∀ i, i < base → i ≠ ar → f i = f0 i) → rc_J X D 2 Q b (base + 2 * k) f (ce0 + 2 * k) (sl0 + 26 * k) 131 [(1, .int (nI k)), (0, .ref (b + h))] [] := by
  intro z
  induction z with
  | zero =>
    intro k hk f har hbg hot
    have hk : k = 90 := by omega
    subst hk
    refine ry_iload_n C 0 dX7_init_131 rfl ?_
    refine ry_aload_n C 1 dX7_init_132 rfl ?_
    refine ry_get (i := h) (fs := OBJ) (v := .ref (b + ar)) C 5 0 inX7 rfl (by decide) q_165 (by omega) (by rw [hot _ (by omega) (by omega), hf0]) hv dX7_init_133 ?_
    refine ry_alen (kd := 14) (v := nI 90) C (Or.inl rfl) (by omega) har rfl dX7_init_136 ?_
    refine ry_icmp_ge (tgt := 161) C dX7_init_137 (by decide) (fun hc => ?_) (fun hc => ?_)
    · exact kont f har hbg hot
    · exact absurd (nI_le (Nat.le_refl _) (by omega)) hc
  | succ z ih =>
    intro k hk f har hbg hot
    refine ry_iload_n C 0 dX7_init_131 rfl ?_
    refine ry_aload_n C 1 dX7_init_132 rfl ?_
    refine ry_get (i := h) (fs := OBJ) (v := .ref (b + ar)) C 5 0 inX7 rfl (by decide) q_165 (by omega) (by rw [hot _ (by omega) (by omega), hf0]) hv dX7_init_133 ?_
    refine ry_alen (kd := 14) (v := nI 90) C (Or.inl rfl) (by omega) har rfl dX7_init_136 ?_
    refine ry_icmp_ge (tgt := 161) C dX7_init_137 (by decide) (fun hc => ?_) (fun hc => ?_)
    · exact absurd ((nI_leI (by omega) (by omega)).mp hc) (by omega)
    refine ry_aload_n C 1 dX7_init_140 rfl ?_
    refine ry_get (i := h) (fs := OBJ) (v := .ref (b + ar)) C 5 0 inX7 rfl (by decide) q_165 (by omega) (by rw [hot _ (by omega) (by omega), hf0]) hv dX7_init_141 ?_
    refine ry_iload_n C 0 dX7_init_144 rfl ?_
    refine ry_new (ci := 0) (fs := [.null, .int 0]) C tyX0 tyX0_ok inX0 rfl q_148 q_150 q_6 bl_0 (by omega) (by omega) dX7_init_145 ?_
    refine ry_dup C dX7_init_148 rfl ?_
    refine ry_bipush (v := 24) C dX7_init_149 rfl ?_
    refine ry_call (i := base + 2 * k) (rest := [.ref (b + (base + 2 * k)), .int (nI k), .ref (b + ar)]) C hll (k_Big l D cy b (base + 2 * k + 1) _ (base + 2 * k) 24 (by omega) (by rw [va_up_self]) (N0 := 24) rfl (by decide) (by decide)) q_151 q_152 q_6 q_153 rfl hk_Big ⟨by omega, by omega⟩ (by omega) (by omega) rfl rfl (Nat.le_of_ble_eq_true rfl) dX7_init_151 (fun nF fF hF => ?_)
    obtain ⟨eF, hF1, hF2, hF3⟩ := hF
    subst eF
    refine ry_aast (t0 := 4) (kd := 14) (ci := 0) (r := (RX0, TX0, 2)) (vs := [.ref (b + (base + 2 * k + 1)), .int 1]) (g := fun j => if j < k then some (b + (base + 2 * j)) else none) (N0 := 90) C rfl rfl (by omega) (by rw [hF3 _ (by omega) (by omega), va_up_ne _ _ (by omega), har]) (by omega) hF1 (vp_in_nI (by omega) (by omega)) dX7_init_154 ?_
    refine ry_iinc (v := nI (k + 1)) (lv1 := [(1, .int (nI (k + 1))), (0, .ref (b + h))]) C 0 dX7_init_155 rfl (nI_1 k) (by omega) rfl ?_
    refine ry_goto (tgt := 131) C dX7_init_158 (by decide) ?_
    rw [show base + 2 * k + 1 + 1 = base + 2 * (k + 1) by omega, show ce0 + 2 * k + 1 + 1 = ce0 + 2 * (k + 1) by omega, show sl0 + 26 * k + 2 + 24 = sl0 + 26 * (k + 1) by omega]
    refine ih (k + 1) (by omega) _ ?_ ?_ ?_
    · rw [va_up_self]
      congr 7
      funext j
      rw [nI_clamp (by omega)]
      by_cases hj : j = k
      · subst hj
        rw [va_up_self, if_pos (by omega)]
      · rw [va_up_ne _ _ hj]
        by_cases h2 : j < k
        · rw [if_pos h2, if_pos (by omega)]
        · rw [if_neg h2, if_neg (by omega)]
    · intro j hj
      by_cases h2 : j = k
      · subst h2
        exact ⟨by rw [va_up_ne _ _ (by omega), hF1], by rw [va_up_ne _ _ (by omega), hF2]⟩
      · have h3 := hbg j (by omega)
        exact ⟨by rw [va_up_ne _ _ (by omega), hF3 _ (by omega) (by omega), va_up_ne _ _ (by omega), h3.1], by rw [va_up_ne _ _ (by omega), hF3 _ (by omega) (by omega), va_up_ne _ _ (by omega), h3.2]⟩
    · intro i h1 h2
      rw [va_up_ne _ _ h2, hF3 _ (by omega) (by omega), va_up_ne _ _ (by omega)]
      exact hot i h1 h2
theorem kl_Seq2 {X : rr_X} {D : va_G} {cy : Nat → ClassId} {l : Launch} {Q : State → Prop} {lo mc ms b : Nat} {fr : Nat} (hfr : 2 ≤ fr) (hlo : 44 ≤ lo) (hll : X.2.1 = l) (C : rc_C X D cy cX7_init 2 "RootRows$Sequence" fr lo mc ms b) (base h ar ce0 sl0 : Nat) (f0 : Nat → va_E) (OBJ : List Value) (hh : h < base) (ha : ar < base) (hne : h ≠ ar) (hce : ce0 + 18 ≤ mc) (hsl : sl0 + 882 ≤ ms) (hf0 : f0 h = .inr (5, OBJ)) (hv : OBJ[4]? = some (.ref (b + ar))) (kont : ∀ f1 : Nat → va_E, f1 ar = .inl (cy 14, 9, .inr (.inr (.inr (.inr (fun j => if j < 9 then some (b + (base + 2 * j)) else none))))) → (∀ j, j < 9 → f1 (base + 2 * j) = .inr (0, [.ref (b + (base + 2 * j + 1)), .int 1]) ∧ f1 (base + 2 * j + 1) = .inl (cy 12, 96, .inr (.inl (fun _ => 0)))) → (∀ i, i < base → i ≠ ar → f1 i = f0 i) → rc_J X D 2 Q b (base + 18) f1 (ce0 + 18) (sl0 + 882) 190 [(1, .int (nI 9)), (0, .ref (b + h))] []) : ∀ (z k : Nat), k + z = 9 → ∀ f : Nat → va_E, f ar = .inl (cy 14, 9, .inr (.inr (.inr (.inr (fun j => if j < k then some (b + (base + 2 * j)) else none))))) → (∀ j, j < k → f (base + 2 * j) = .inr (0, [.ref (b + (base + 2 * j + 1)), .int 1]) ∧ f (base + 2 * j + 1) = .inl (cy 12, 96, .inr (.inl (fun _ => 0)))) → (∀ i, i < base → i ≠ ar → f i = f0 i) → rc_J X D 2 Q b (base + 2 * k) f (ce0 + 2 * k) (sl0 + 98 * k) 163 [(1, .int (nI k)), (0, .ref (b + h))] [] := by
  intro z
  induction z with
  | zero =>
    intro k hk f har hbg hot
    have hk : k = 9 := by omega
    subst hk
    refine ry_iload_n C 0 dX7_init_163 rfl ?_
    refine ry_bipush (v := nI 9) C dX7_init_164 rfl ?_
    refine ry_icmp_ge (tgt := 190) C dX7_init_166 (by decide) (fun hc => ?_) (fun hc => ?_)
    · exact kont f har hbg hot
    · exact absurd (nI_le (Nat.le_refl _) (by omega)) hc
  | succ z ih =>
    intro k hk f har hbg hot
    refine ry_iload_n C 0 dX7_init_163 rfl ?_
    refine ry_bipush (v := nI 9) C dX7_init_164 rfl ?_
    refine ry_icmp_ge (tgt := 190) C dX7_init_166 (by decide) (fun hc => ?_) (fun hc => ?_)
    · exact absurd ((nI_leI (by omega) (by omega)).mp hc) (by omega)
    refine ry_aload_n C 1 dX7_init_169 rfl ?_
    refine ry_get (i := h) (fs := OBJ) (v := .ref (b + ar)) C 5 4 inX7 rfl (by decide) q_177 (by omega) (by rw [hot _ (by omega) (by omega), hf0]) hv dX7_init_170 ?_
    refine ry_iload_n C 0 dX7_init_173 rfl ?_
    refine ry_new (ci := 0) (fs := [.null, .int 0]) C tyX0 tyX0_ok inX0 rfl q_148 q_150 q_6 bl_0 (by omega) (by omega) dX7_init_174 ?_
    refine ry_dup C dX7_init_177 rfl ?_
    refine ry_bipush (v := 96) C dX7_init_178 rfl ?_
    refine ry_call (i := base + 2 * k) (rest := [.ref (b + (base + 2 * k)), .int (nI k), .ref (b + ar)]) C hll (k_Big l D cy b (base + 2 * k + 1) _ (base + 2 * k) 96 (by omega) (by rw [va_up_self]) (N0 := 96) rfl (by decide) (by decide)) q_151 q_152 q_6 q_153 rfl hk_Big ⟨by omega, by omega⟩ (by omega) (by omega) rfl rfl (Nat.le_of_ble_eq_true rfl) dX7_init_180 (fun nF fF hF => ?_)
    obtain ⟨eF, hF1, hF2, hF3⟩ := hF
    subst eF
    refine ry_aast (t0 := 4) (kd := 14) (ci := 0) (r := (RX0, TX0, 2)) (vs := [.ref (b + (base + 2 * k + 1)), .int 1]) (g := fun j => if j < k then some (b + (base + 2 * j)) else none) (N0 := 9) C rfl rfl (by omega) (by rw [hF3 _ (by omega) (by omega), va_up_ne _ _ (by omega), har]) (by omega) hF1 (vp_in_nI (by omega) (by omega)) dX7_init_183 ?_
    refine ry_iinc (v := nI (k + 1)) (lv1 := [(1, .int (nI (k + 1))), (0, .ref (b + h))]) C 0 dX7_init_184 rfl (nI_1 k) (by omega) rfl ?_
    refine ry_goto (tgt := 163) C dX7_init_187 (by decide) ?_
    rw [show base + 2 * k + 1 + 1 = base + 2 * (k + 1) by omega, show ce0 + 2 * k + 1 + 1 = ce0 + 2 * (k + 1) by omega, show sl0 + 98 * k + 2 + 96 = sl0 + 98 * (k + 1) by omega]
    refine ih (k + 1) (by omega) _ ?_ ?_ ?_
    · rw [va_up_self]
      congr 7
      funext j
      rw [nI_clamp (by omega)]
      by_cases hj : j = k
      · subst hj
        rw [va_up_self, if_pos (by omega)]
      · rw [va_up_ne _ _ hj]
        by_cases h2 : j < k
        · rw [if_pos h2, if_pos (by omega)]
        · rw [if_neg h2, if_neg (by omega)]
    · intro j hj
      by_cases h2 : j = k
      · subst h2
        exact ⟨by rw [va_up_ne _ _ (by omega), hF1], by rw [va_up_ne _ _ (by omega), hF2]⟩
      · have h3 := hbg j (by omega)
        exact ⟨by rw [va_up_ne _ _ (by omega), hF3 _ (by omega) (by omega), va_up_ne _ _ (by omega), h3.1], by rw [va_up_ne _ _ (by omega), hF3 _ (by omega) (by omega), va_up_ne _ _ (by omega), h3.2]⟩
    · intro i h1 h2
      rw [va_up_ne _ _ h2, hF3 _ (by omega) (by omega), va_up_ne _ _ (by omega)]
      exact hot i h1 h2
theorem kl_Poi1 {X : rr_X} {D : va_G} {cy : Nat → ClassId} {l : Launch} {Q : State → Prop} {lo mc ms b : Nat} {fr : Nat} (hfr : 2 ≤ fr) (hlo : 44 ≤ lo) (hll : X.2.1 = l) (C : rc_C X D cy cX5_init 2 "RootRows$Point" fr lo mc ms b) (base h ar ce0 sl0 : Nat) (f0 : Nat → va_E) (OBJ : List Value) (hh : h < base) (ha : ar < base) (hne : h ≠ ar) (hce : ce0 + 18 ≤ mc) (hsl : sl0 + 54 ≤ ms) (hf0 : f0 h = .inr (4, OBJ)) (hv : OBJ[2]? = some (.ref (b + ar))) (kont : ∀ f1 : Nat → va_E, f1 ar = .inl (cy 14, 9, .inr (.inr (.inr (.inr (fun j => if j < 9 then some (b + (base + 2 * j)) else none))))) → (∀ j, j < 9 → f1 (base + 2 * j) = .inr (0, [.ref (b + (base + 2 * j + 1)), .int 1]) ∧ f1 (base + 2 * j + 1) = .inl (cy 12, 4, .inr (.inl (fun _ => 0)))) → (∀ i, i < base → i ≠ ar → f1 i = f0 i) → rc_J X D 2 Q b (base + 18) f1 (ce0 + 18) (sl0 + 54) 80 [(1, .int (nI 9)), (0, .ref (b + h))] []) : ∀ (z k : Nat), k + z = 9 → ∀ f : Nat → va_E, f ar = .inl (cy 14, 9, .inr (.inr (.inr (.inr (fun j => if j < k then some (b + (base + 2 * j)) else none))))) → (∀ j, j < k → f (base + 2 * j) = .inr (0, [.ref (b + (base + 2 * j + 1)), .int 1]) ∧ f (base + 2 * j + 1) = .inl (cy 12, 4, .inr (.inl (fun _ => 0)))) → (∀ i, i < base → i ≠ ar → f i = f0 i) → rc_J X D 2 Q b (base + 2 * k) f (ce0 + 2 * k) (sl0 + 6 * k) 54 [(1, .int (nI k)), (0, .ref (b + h))] [] := by
  intro z
  induction z with
  | zero =>
    intro k hk f har hbg hot
    have hk : k = 9 := by omega
    subst hk
    refine ry_iload_n C 0 dX5_init_54 rfl ?_
    refine ry_bipush (v := nI 9) C dX5_init_55 rfl ?_
    refine ry_icmp_ge (tgt := 80) C dX5_init_57 (by decide) (fun hc => ?_) (fun hc => ?_)
    · exact kont f har hbg hot
    · exact absurd (nI_le (Nat.le_refl _) (by omega)) hc
  | succ z ih =>
    intro k hk f har hbg hot
    refine ry_iload_n C 0 dX5_init_54 rfl ?_
    refine ry_bipush (v := nI 9) C dX5_init_55 rfl ?_
    refine ry_icmp_ge (tgt := 80) C dX5_init_57 (by decide) (fun hc => ?_) (fun hc => ?_)
    · exact absurd ((nI_leI (by omega) (by omega)).mp hc) (by omega)
    refine ry_aload_n C 1 dX5_init_60 rfl ?_
    refine ry_get (i := h) (fs := OBJ) (v := .ref (b + ar)) C 4 2 inX5 rfl (by decide) q_220 (by omega) (by rw [hot _ (by omega) (by omega), hf0]) hv dX5_init_61 ?_
    refine ry_iload_n C 0 dX5_init_64 rfl ?_
    refine ry_new (ci := 0) (fs := [.null, .int 0]) C tyX0 tyX0_ok inX0 rfl q_216 q_150 q_6 bl_0 (by omega) (by omega) dX5_init_65 ?_
    refine ry_dup C dX5_init_68 rfl ?_
    refine ry_iconst (v := 4) C dX5_init_69 rfl ?_
    refine ry_call (i := base + 2 * k) (rest := [.ref (b + (base + 2 * k)), .int (nI k), .ref (b + ar)]) C hll (k_Big l D cy b (base + 2 * k + 1) _ (base + 2 * k) 4 (by omega) (by rw [va_up_self]) (N0 := 4) rfl (by decide) (by decide)) q_217 q_152 q_6 q_153 rfl hk_Big ⟨by omega, by omega⟩ (by omega) (by omega) rfl rfl (Nat.le_of_ble_eq_true rfl) dX5_init_70 (fun nF fF hF => ?_)
    obtain ⟨eF, hF1, hF2, hF3⟩ := hF
    subst eF
    refine ry_aast (t0 := 4) (kd := 14) (ci := 0) (r := (RX0, TX0, 2)) (vs := [.ref (b + (base + 2 * k + 1)), .int 1]) (g := fun j => if j < k then some (b + (base + 2 * j)) else none) (N0 := 9) C rfl rfl (by omega) (by rw [hF3 _ (by omega) (by omega), va_up_ne _ _ (by omega), har]) (by omega) hF1 (vp_in_nI (by omega) (by omega)) dX5_init_73 ?_
    refine ry_iinc (v := nI (k + 1)) (lv1 := [(1, .int (nI (k + 1))), (0, .ref (b + h))]) C 0 dX5_init_74 rfl (nI_1 k) (by omega) rfl ?_
    refine ry_goto (tgt := 54) C dX5_init_77 (by decide) ?_
    rw [show base + 2 * k + 1 + 1 = base + 2 * (k + 1) by omega, show ce0 + 2 * k + 1 + 1 = ce0 + 2 * (k + 1) by omega, show sl0 + 6 * k + 2 + 4 = sl0 + 6 * (k + 1) by omega]
    refine ih (k + 1) (by omega) _ ?_ ?_ ?_
    · rw [va_up_self]
      congr 7
      funext j
      rw [nI_clamp (by omega)]
      by_cases hj : j = k
      · subst hj
        rw [va_up_self, if_pos (by omega)]
      · rw [va_up_ne _ _ hj]
        by_cases h2 : j < k
        · rw [if_pos h2, if_pos (by omega)]
        · rw [if_neg h2, if_neg (by omega)]
    · intro j hj
      by_cases h2 : j = k
      · subst h2
        exact ⟨by rw [va_up_ne _ _ (by omega), hF1], by rw [va_up_ne _ _ (by omega), hF2]⟩
      · have h3 := hbg j (by omega)
        exact ⟨by rw [va_up_ne _ _ (by omega), hF3 _ (by omega) (by omega), va_up_ne _ _ (by omega), h3.1], by rw [va_up_ne _ _ (by omega), hF3 _ (by omega) (by omega), va_up_ne _ _ (by omega), h3.2]⟩
    · intro i h1 h2
      rw [va_up_ne _ _ h2, hF3 _ (by omega) (by omega), va_up_ne _ _ (by omega)]
      exact hot i h1 h2
theorem k_Seq (l : Launch) (D : va_G) (cy : Nat → ClassId) (b n : Nat) (f : Nat → va_E) (h : Nat) (hh : h < n) (hf : f h = .inr (5, [.null, .null, .null, .int 0, .null, .null, .null, .null, .null, .null, .null, .null])) : rc_Met l D cy yX7_init cX7_init 2 2 44 216 3811 [.ref (b + h)] b n f (fun n1 f1 => n1 = n + 216 ∧ f1 h = .inr (5, [.ref (b + n), .ref (b + (n + 1)), .ref (b + (n + 2)), .int 0, .ref (b + (n + 3)), .ref (b + (n + 4)), .ref (b + (n + 6)), .ref (b + (n + 8)), .ref (b + (n + 10)), .ref (b + (n + 12)), .ref (b + (n + 14)), .ref (b + (n + 16))]) ∧ f1 (n) = .inl (cy 14, 90, .inr (.inr (.inr (.inr (fun j => if j < 90 then some (b + (n + 18 + 2 * j)) else none))))) ∧ f1 (n + 1) = .inl (cy 11, 10, .inl (fun _ => 0)) ∧ f1 (n + 2) = .inl (cy 11, 10, .inl (fun _ => 0)) ∧ f1 (n + 3) = .inl (cy 14, 9, .inr (.inr (.inr (.inr (fun j => if j < 9 then some (b + (n + 198 + 2 * j)) else none))))) ∧ f1 (n + 4) = .inr (0, [.ref (b + (n + 5)), .int 1]) ∧ f1 (n + 5) = .inl (cy 12, 96, .inr (.inl (fun _ => 0))) ∧ f1 (n + 6) = .inr (0, [.ref (b + (n + 7)), .int 1]) ∧ f1 (n + 7) = .inl (cy 12, 96, .inr (.inl (fun _ => 0))) ∧ f1 (n + 8) = .inr (0, [.ref (b + (n + 9)), .int 1]) ∧ f1 (n + 9) = .inl (cy 12, 96, .inr (.inl (fun _ => 0))) ∧ f1 (n + 10) = .inr (0, [.ref (b + (n + 11)), .int 1]) ∧ f1 (n + 11) = .inl (cy 12, 96, .inr (.inl (fun _ => 0))) ∧ f1 (n + 12) = .inr (0, [.ref (b + (n + 13)), .int 1]) ∧ f1 (n + 13) = .inl (cy 12, 24, .inr (.inl (fun _ => 0))) ∧ f1 (n + 14) = .inr (0, [.ref (b + (n + 15)), .int 1]) ∧ f1 (n + 15) = .inl (cy 12, 24, .inr (.inl (fun _ => 0))) ∧ f1 (n + 16) = .inr (0, [.ref (b + (n + 17)), .int 1]) ∧ f1 (n + 17) = .inl (cy 12, 24, .inr (.inl (fun _ => 0))) ∧ (∀ j, j < 90 → f1 (n + 18 + 2 * j) = .inr (0, [.ref (b + (n + 18 + 2 * j + 1)), .int 1]) ∧ f1 (n + 18 + 2 * j + 1) = .inl (cy 12, 24, .inr (.inl (fun _ => 0)))) ∧ (∀ j, j < 9 → f1 (n + 198 + 2 * j) = .inr (0, [.ref (b + (n + 198 + 2 * j + 1)), .int 1]) ∧ f1 (n + 198 + 2 * j + 1) = .inl (cy 12, 96, .inr (.inl (fun _ => 0)))) ∧ ∀ i, i < n → i ≠ h → f1 i = f i) := by
  refine rc_enter (lv0 := [(0, .ref (b + h))]) hq_Seq rfl (Nat.le_of_ble_eq_true rfl) rfl (fun X hll C => ?_)
  replace C : rc_C X D cy cX7_init 2 "RootRows$Sequence" 2 44 216 3811 b := C
  refine ry_aload_n C 0 dX7_init_0 rfl ?_
  refine ry_obj (rest := []) C q_147 q_23 q_24 (by decide) (by decide) (Nat.le_of_ble_eq_true rfl) dX7_init_1 ?_
  refine ry_aload_n C 0 dX7_init_4 rfl ?_
  refine ry_bipush (v := 90) C dX7_init_5 rfl ?_
  refine ry_newq_Big (N0 := 90) C q_148 (by decide) (by decide) (by decide) (by omega) (by omega) dX7_init_7 ?_
  refine ry_put (i := h) (fs := [.null, .null, .null, .int 0, .null, .null, .null, .null, .null, .null, .null, .null]) (fs1 := [.ref (b + n), .null, .null, .int 0, .null, .null, .null, .null, .null, .null, .null, .null]) C 5 0 tyX7 tyX7_ok nmX7 inX7 rfl (by decide) q_165 rfl rfl (by omega) (by rw [va_up_ne _ _ (by omega), hf]) (Nat.le_of_ble_eq_true rfl) rfl rfl rfl dX7_init_10 ?_
  refine ry_aload_n C 0 dX7_init_13 rfl ?_
  refine ry_bipush (v := 10) C dX7_init_14 rfl ?_
  refine ry_newa_i (N0 := 10) C (by decide) (by decide) (by decide) (by omega) (by omega) dX7_init_16 ?_
  refine ry_put (i := h) (fs := [.ref (b + n), .null, .null, .int 0, .null, .null, .null, .null, .null, .null, .null, .null]) (fs1 := [.ref (b + n), .ref (b + (n + 1)), .null, .int 0, .null, .null, .null, .null, .null, .null, .null, .null]) C 5 1 tyX7 tyX7_ok nmX7 inX7 rfl (by decide) q_167 rfl rfl (by omega) (by rw [va_up_ne _ _ (by omega), va_up_self]) (Nat.le_of_ble_eq_true rfl) rfl rfl rfl dX7_init_18 ?_
  refine ry_aload_n C 0 dX7_init_21 rfl ?_
  refine ry_bipush (v := 10) C dX7_init_22 rfl ?_
  refine ry_newa_i (N0 := 10) C (by decide) (by decide) (by decide) (by omega) (by omega) dX7_init_24 ?_
  refine ry_put (i := h) (fs := [.ref (b + n), .ref (b + (n + 1)), .null, .int 0, .null, .null, .null, .null, .null, .null, .null, .null]) (fs1 := [.ref (b + n), .ref (b + (n + 1)), .ref (b + (n + 2)), .int 0, .null, .null, .null, .null, .null, .null, .null, .null]) C 5 2 tyX7 tyX7_ok nmX7 inX7 rfl (by decide) q_170 rfl rfl (by omega) (by rw [va_up_ne _ _ (by omega), va_up_self]) (Nat.le_of_ble_eq_true rfl) rfl rfl rfl dX7_init_26 ?_
  refine ry_aload_n C 0 dX7_init_29 rfl ?_
  refine ry_bipush (v := 9) C dX7_init_30 rfl ?_
  refine ry_newq_Big (N0 := 9) C q_148 (by decide) (by decide) (by decide) (by omega) (by omega) dX7_init_32 ?_
  refine ry_put (i := h) (fs := [.ref (b + n), .ref (b + (n + 1)), .ref (b + (n + 2)), .int 0, .null, .null, .null, .null, .null, .null, .null, .null]) (fs1 := [.ref (b + n), .ref (b + (n + 1)), .ref (b + (n + 2)), .int 0, .ref (b + (n + 3)), .null, .null, .null, .null, .null, .null, .null]) C 5 4 tyX7 tyX7_ok nmX7 inX7 rfl (by decide) q_177 rfl rfl (by omega) (by rw [va_up_ne _ _ (by omega), va_up_self]) (Nat.le_of_ble_eq_true rfl) rfl rfl rfl dX7_init_35 ?_
  refine ry_aload_n C 0 dX7_init_38 rfl ?_
  refine ry_new (ci := 0) (fs := [.null, .int 0]) C tyX0 tyX0_ok inX0 rfl q_148 q_150 q_6 bl_0 (by omega) (by omega) dX7_init_39 ?_
  refine ry_dup C dX7_init_42 rfl ?_
  refine ry_bipush (v := 96) C dX7_init_43 rfl ?_
  refine ry_call (i := n + 4) (rest := [.ref (b + (n + 4)), .ref (b + h)]) C hll (k_Big l D cy b (n + 5) _ (n + 4) 96 (by omega) (by rw [va_up_self]) (N0 := 96) rfl (by decide) (by decide)) q_151 q_152 q_6 q_153 rfl hk_Big ⟨by decide, by decide⟩ (by omega) (by omega) rfl rfl (Nat.le_of_ble_eq_true rfl) dX7_init_45 (fun nF0 fF0 hF0 => ?_)
  obtain ⟨eF0, hF0⟩ := hF0
  subst eF0
  refine ry_put (i := h) (fs := [.ref (b + n), .ref (b + (n + 1)), .ref (b + (n + 2)), .int 0, .ref (b + (n + 3)), .null, .null, .null, .null, .null, .null, .null]) (fs1 := [.ref (b + n), .ref (b + (n + 1)), .ref (b + (n + 2)), .int 0, .ref (b + (n + 3)), .ref (b + (n + 4)), .null, .null, .null, .null, .null, .null]) C 5 5 tyX7 tyX7_ok nmX7 inX7 rfl (by decide) q_178 rfl rfl (by omega) (by rw [hF0.2.2 _ (by omega) (by omega), va_up_ne _ _ (by omega), va_up_self]) (Nat.le_of_ble_eq_true rfl) rfl rfl rfl dX7_init_48 ?_
  refine ry_aload_n C 0 dX7_init_51 rfl ?_
  refine ry_new (ci := 0) (fs := [.null, .int 0]) C tyX0 tyX0_ok inX0 rfl q_148 q_150 q_6 bl_0 (by omega) (by omega) dX7_init_52 ?_
  refine ry_dup C dX7_init_55 rfl ?_
  refine ry_bipush (v := 96) C dX7_init_56 rfl ?_
  refine ry_call (i := n + 6) (rest := [.ref (b + (n + 6)), .ref (b + h)]) C hll (k_Big l D cy b (n + 7) _ (n + 6) 96 (by omega) (by rw [va_up_self]) (N0 := 96) rfl (by decide) (by decide)) q_151 q_152 q_6 q_153 rfl hk_Big ⟨by decide, by decide⟩ (by omega) (by omega) rfl rfl (Nat.le_of_ble_eq_true rfl) dX7_init_58 (fun nF1 fF1 hF1 => ?_)
  obtain ⟨eF1, hF1⟩ := hF1
  subst eF1
  refine ry_put (i := h) (fs := [.ref (b + n), .ref (b + (n + 1)), .ref (b + (n + 2)), .int 0, .ref (b + (n + 3)), .ref (b + (n + 4)), .null, .null, .null, .null, .null, .null]) (fs1 := [.ref (b + n), .ref (b + (n + 1)), .ref (b + (n + 2)), .int 0, .ref (b + (n + 3)), .ref (b + (n + 4)), .ref (b + (n + 6)), .null, .null, .null, .null, .null]) C 5 6 tyX7 tyX7_ok nmX7 inX7 rfl (by decide) q_179 rfl rfl (by omega) (by rw [hF1.2.2 _ (by omega) (by omega), va_up_ne _ _ (by omega), va_up_self]) (Nat.le_of_ble_eq_true rfl) rfl rfl rfl dX7_init_61 ?_
  refine ry_aload_n C 0 dX7_init_64 rfl ?_
  refine ry_new (ci := 0) (fs := [.null, .int 0]) C tyX0 tyX0_ok inX0 rfl q_148 q_150 q_6 bl_0 (by omega) (by omega) dX7_init_65 ?_
  refine ry_dup C dX7_init_68 rfl ?_
  refine ry_bipush (v := 96) C dX7_init_69 rfl ?_
  refine ry_call (i := n + 8) (rest := [.ref (b + (n + 8)), .ref (b + h)]) C hll (k_Big l D cy b (n + 9) _ (n + 8) 96 (by omega) (by rw [va_up_self]) (N0 := 96) rfl (by decide) (by decide)) q_151 q_152 q_6 q_153 rfl hk_Big ⟨by decide, by decide⟩ (by omega) (by omega) rfl rfl (Nat.le_of_ble_eq_true rfl) dX7_init_71 (fun nF2 fF2 hF2 => ?_)
  obtain ⟨eF2, hF2⟩ := hF2
  subst eF2
  refine ry_put (i := h) (fs := [.ref (b + n), .ref (b + (n + 1)), .ref (b + (n + 2)), .int 0, .ref (b + (n + 3)), .ref (b + (n + 4)), .ref (b + (n + 6)), .null, .null, .null, .null, .null]) (fs1 := [.ref (b + n), .ref (b + (n + 1)), .ref (b + (n + 2)), .int 0, .ref (b + (n + 3)), .ref (b + (n + 4)), .ref (b + (n + 6)), .ref (b + (n + 8)), .null, .null, .null, .null]) C 5 7 tyX7 tyX7_ok nmX7 inX7 rfl (by decide) q_180 rfl rfl (by omega) (by rw [hF2.2.2 _ (by omega) (by omega), va_up_ne _ _ (by omega), va_up_self]) (Nat.le_of_ble_eq_true rfl) rfl rfl rfl dX7_init_74 ?_
  refine ry_aload_n C 0 dX7_init_77 rfl ?_
  refine ry_new (ci := 0) (fs := [.null, .int 0]) C tyX0 tyX0_ok inX0 rfl q_148 q_150 q_6 bl_0 (by omega) (by omega) dX7_init_78 ?_
  refine ry_dup C dX7_init_81 rfl ?_
  refine ry_bipush (v := 96) C dX7_init_82 rfl ?_
  refine ry_call (i := n + 10) (rest := [.ref (b + (n + 10)), .ref (b + h)]) C hll (k_Big l D cy b (n + 11) _ (n + 10) 96 (by omega) (by rw [va_up_self]) (N0 := 96) rfl (by decide) (by decide)) q_151 q_152 q_6 q_153 rfl hk_Big ⟨by decide, by decide⟩ (by omega) (by omega) rfl rfl (Nat.le_of_ble_eq_true rfl) dX7_init_84 (fun nF3 fF3 hF3 => ?_)
  obtain ⟨eF3, hF3⟩ := hF3
  subst eF3
  refine ry_put (i := h) (fs := [.ref (b + n), .ref (b + (n + 1)), .ref (b + (n + 2)), .int 0, .ref (b + (n + 3)), .ref (b + (n + 4)), .ref (b + (n + 6)), .ref (b + (n + 8)), .null, .null, .null, .null]) (fs1 := [.ref (b + n), .ref (b + (n + 1)), .ref (b + (n + 2)), .int 0, .ref (b + (n + 3)), .ref (b + (n + 4)), .ref (b + (n + 6)), .ref (b + (n + 8)), .ref (b + (n + 10)), .null, .null, .null]) C 5 8 tyX7 tyX7_ok nmX7 inX7 rfl (by decide) q_181 rfl rfl (by omega) (by rw [hF3.2.2 _ (by omega) (by omega), va_up_ne _ _ (by omega), va_up_self]) (Nat.le_of_ble_eq_true rfl) rfl rfl rfl dX7_init_87 ?_
  refine ry_aload_n C 0 dX7_init_90 rfl ?_
  refine ry_new (ci := 0) (fs := [.null, .int 0]) C tyX0 tyX0_ok inX0 rfl q_148 q_150 q_6 bl_0 (by omega) (by omega) dX7_init_91 ?_
  refine ry_dup C dX7_init_94 rfl ?_
  refine ry_bipush (v := 24) C dX7_init_95 rfl ?_
  refine ry_call (i := n + 12) (rest := [.ref (b + (n + 12)), .ref (b + h)]) C hll (k_Big l D cy b (n + 13) _ (n + 12) 24 (by omega) (by rw [va_up_self]) (N0 := 24) rfl (by decide) (by decide)) q_151 q_152 q_6 q_153 rfl hk_Big ⟨by decide, by decide⟩ (by omega) (by omega) rfl rfl (Nat.le_of_ble_eq_true rfl) dX7_init_97 (fun nF4 fF4 hF4 => ?_)
  obtain ⟨eF4, hF4⟩ := hF4
  subst eF4
  refine ry_put (i := h) (fs := [.ref (b + n), .ref (b + (n + 1)), .ref (b + (n + 2)), .int 0, .ref (b + (n + 3)), .ref (b + (n + 4)), .ref (b + (n + 6)), .ref (b + (n + 8)), .ref (b + (n + 10)), .null, .null, .null]) (fs1 := [.ref (b + n), .ref (b + (n + 1)), .ref (b + (n + 2)), .int 0, .ref (b + (n + 3)), .ref (b + (n + 4)), .ref (b + (n + 6)), .ref (b + (n + 8)), .ref (b + (n + 10)), .ref (b + (n + 12)), .null, .null]) C 5 9 tyX7 tyX7_ok nmX7 inX7 rfl (by decide) q_182 rfl rfl (by omega) (by rw [hF4.2.2 _ (by omega) (by omega), va_up_ne _ _ (by omega), va_up_self]) (Nat.le_of_ble_eq_true rfl) rfl rfl rfl dX7_init_100 ?_
  refine ry_aload_n C 0 dX7_init_103 rfl ?_
  refine ry_new (ci := 0) (fs := [.null, .int 0]) C tyX0 tyX0_ok inX0 rfl q_148 q_150 q_6 bl_0 (by omega) (by omega) dX7_init_104 ?_
  refine ry_dup C dX7_init_107 rfl ?_
  refine ry_bipush (v := 24) C dX7_init_108 rfl ?_
  refine ry_call (i := n + 14) (rest := [.ref (b + (n + 14)), .ref (b + h)]) C hll (k_Big l D cy b (n + 15) _ (n + 14) 24 (by omega) (by rw [va_up_self]) (N0 := 24) rfl (by decide) (by decide)) q_151 q_152 q_6 q_153 rfl hk_Big ⟨by decide, by decide⟩ (by omega) (by omega) rfl rfl (Nat.le_of_ble_eq_true rfl) dX7_init_110 (fun nF5 fF5 hF5 => ?_)
  obtain ⟨eF5, hF5⟩ := hF5
  subst eF5
  refine ry_put (i := h) (fs := [.ref (b + n), .ref (b + (n + 1)), .ref (b + (n + 2)), .int 0, .ref (b + (n + 3)), .ref (b + (n + 4)), .ref (b + (n + 6)), .ref (b + (n + 8)), .ref (b + (n + 10)), .ref (b + (n + 12)), .null, .null]) (fs1 := [.ref (b + n), .ref (b + (n + 1)), .ref (b + (n + 2)), .int 0, .ref (b + (n + 3)), .ref (b + (n + 4)), .ref (b + (n + 6)), .ref (b + (n + 8)), .ref (b + (n + 10)), .ref (b + (n + 12)), .ref (b + (n + 14)), .null]) C 5 10 tyX7 tyX7_ok nmX7 inX7 rfl (by decide) q_183 rfl rfl (by omega) (by rw [hF5.2.2 _ (by omega) (by omega), va_up_ne _ _ (by omega), va_up_self]) (Nat.le_of_ble_eq_true rfl) rfl rfl rfl dX7_init_113 ?_
  refine ry_aload_n C 0 dX7_init_116 rfl ?_
  refine ry_new (ci := 0) (fs := [.null, .int 0]) C tyX0 tyX0_ok inX0 rfl q_148 q_150 q_6 bl_0 (by omega) (by omega) dX7_init_117 ?_
  refine ry_dup C dX7_init_120 rfl ?_
  refine ry_bipush (v := 24) C dX7_init_121 rfl ?_
  refine ry_call (i := n + 16) (rest := [.ref (b + (n + 16)), .ref (b + h)]) C hll (k_Big l D cy b (n + 17) _ (n + 16) 24 (by omega) (by rw [va_up_self]) (N0 := 24) rfl (by decide) (by decide)) q_151 q_152 q_6 q_153 rfl hk_Big ⟨by decide, by decide⟩ (by omega) (by omega) rfl rfl (Nat.le_of_ble_eq_true rfl) dX7_init_123 (fun nF6 fF6 hF6 => ?_)
  obtain ⟨eF6, hF6⟩ := hF6
  subst eF6
  refine ry_put (i := h) (fs := [.ref (b + n), .ref (b + (n + 1)), .ref (b + (n + 2)), .int 0, .ref (b + (n + 3)), .ref (b + (n + 4)), .ref (b + (n + 6)), .ref (b + (n + 8)), .ref (b + (n + 10)), .ref (b + (n + 12)), .ref (b + (n + 14)), .null]) (fs1 := [.ref (b + n), .ref (b + (n + 1)), .ref (b + (n + 2)), .int 0, .ref (b + (n + 3)), .ref (b + (n + 4)), .ref (b + (n + 6)), .ref (b + (n + 8)), .ref (b + (n + 10)), .ref (b + (n + 12)), .ref (b + (n + 14)), .ref (b + (n + 16))]) C 5 11 tyX7 tyX7_ok nmX7 inX7 rfl (by decide) q_184 rfl rfl (by omega) (by rw [hF6.2.2 _ (by omega) (by omega), va_up_ne _ _ (by omega), va_up_self]) (Nat.le_of_ble_eq_true rfl) rfl rfl rfl dX7_init_126 ?_
  refine ry_iconst (v := nI 0) C dX7_init_129 rfl ?_
  refine ry_istore_n (lv1 := [(1, .int (nI 0)), (0, .ref (b + h))]) C dX7_init_130 (by decide) rfl ?_
  refine kl_Seq1 (by decide) (by decide) hll C (n + 18) h (n) 18 589 _ [.ref (b + n), .ref (b + (n + 1)), .ref (b + (n + 2)), .int 0, .ref (b + (n + 3)), .ref (b + (n + 4)), .ref (b + (n + 6)), .ref (b + (n + 8)), .ref (b + (n + 10)), .ref (b + (n + 12)), .ref (b + (n + 14)), .ref (b + (n + 16))] (by omega) (by omega) (by omega) (by omega) (by omega) (by rw [va_up_self]) rfl (fun fa ha_1 ha_2 ha_3 => ?_) 90 0 rfl _ (by rw [va_up_ne _ _ (by omega), hF6.2.2 _ (by omega) (by omega), va_up_ne _ _ (by omega), va_up_ne _ _ (by omega), hF5.2.2 _ (by omega) (by omega), va_up_ne _ _ (by omega), va_up_ne _ _ (by omega), hF4.2.2 _ (by omega) (by omega), va_up_ne _ _ (by omega), va_up_ne _ _ (by omega), hF3.2.2 _ (by omega) (by omega), va_up_ne _ _ (by omega), va_up_ne _ _ (by omega), hF2.2.2 _ (by omega) (by omega), va_up_ne _ _ (by omega), va_up_ne _ _ (by omega), hF1.2.2 _ (by omega) (by omega), va_up_ne _ _ (by omega), va_up_ne _ _ (by omega), hF0.2.2 _ (by omega) (by omega), va_up_ne _ _ (by omega), va_up_ne _ _ (by omega), va_up_ne _ _ (by omega), va_up_ne _ _ (by omega), va_up_ne _ _ (by omega), va_up_ne _ _ (by omega), va_up_ne _ _ (by omega), va_up_ne _ _ (by omega), va_up_self]; congr 7) (fun j hj => absurd hj (by omega)) (fun i _ _ => rfl)
  refine ry_iconst (v := nI 0) C dX7_init_161 rfl ?_
  refine ry_istore_n (lv1 := [(1, .int (nI 0)), (0, .ref (b + h))]) C dX7_init_162 (by decide) rfl ?_
  refine kl_Seq2 (by decide) (by decide) hll C (n + 198) h (n + 3) 198 2929 _ [.ref (b + n), .ref (b + (n + 1)), .ref (b + (n + 2)), .int 0, .ref (b + (n + 3)), .ref (b + (n + 4)), .ref (b + (n + 6)), .ref (b + (n + 8)), .ref (b + (n + 10)), .ref (b + (n + 12)), .ref (b + (n + 14)), .ref (b + (n + 16))] (by omega) (by omega) (by omega) (by omega) (by omega) (by rw [ha_3 _ (by omega) (by omega), va_up_self]) rfl (fun fb hb_1 hb_2 hb_3 => ?_) 9 0 rfl _ (by rw [ha_3 _ (by omega) (by omega), va_up_ne _ _ (by omega), hF6.2.2 _ (by omega) (by omega), va_up_ne _ _ (by omega), va_up_ne _ _ (by omega), hF5.2.2 _ (by omega) (by omega), va_up_ne _ _ (by omega), va_up_ne _ _ (by omega), hF4.2.2 _ (by omega) (by omega), va_up_ne _ _ (by omega), va_up_ne _ _ (by omega), hF3.2.2 _ (by omega) (by omega), va_up_ne _ _ (by omega), va_up_ne _ _ (by omega), hF2.2.2 _ (by omega) (by omega), va_up_ne _ _ (by omega), va_up_ne _ _ (by omega), hF1.2.2 _ (by omega) (by omega), va_up_ne _ _ (by omega), va_up_ne _ _ (by omega), hF0.2.2 _ (by omega) (by omega), va_up_ne _ _ (by omega), va_up_ne _ _ (by omega), va_up_self]; congr 7) (fun j hj => absurd hj (by omega)) (fun i _ _ => rfl)
  exact ry_ret C dX7_init_190 ⟨rfl, by rw [hb_3 _ (by omega) (by omega), ha_3 _ (by omega) (by omega), va_up_self], by rw [hb_3 _ (by omega) (by omega), ha_1], by rw [hb_3 _ (by omega) (by omega), ha_3 _ (by omega) (by omega), va_up_ne _ _ (by omega), hF6.2.2 _ (by omega) (by omega), va_up_ne _ _ (by omega), va_up_ne _ _ (by omega), hF5.2.2 _ (by omega) (by omega), va_up_ne _ _ (by omega), va_up_ne _ _ (by omega), hF4.2.2 _ (by omega) (by omega), va_up_ne _ _ (by omega), va_up_ne _ _ (by omega), hF3.2.2 _ (by omega) (by omega), va_up_ne _ _ (by omega), va_up_ne _ _ (by omega), hF2.2.2 _ (by omega) (by omega), va_up_ne _ _ (by omega), va_up_ne _ _ (by omega), hF1.2.2 _ (by omega) (by omega), va_up_ne _ _ (by omega), va_up_ne _ _ (by omega), hF0.2.2 _ (by omega) (by omega), va_up_ne _ _ (by omega), va_up_ne _ _ (by omega), va_up_ne _ _ (by omega), va_up_ne _ _ (by omega), va_up_ne _ _ (by omega), va_up_ne _ _ (by omega), va_up_self], by rw [hb_3 _ (by omega) (by omega), ha_3 _ (by omega) (by omega), va_up_ne _ _ (by omega), hF6.2.2 _ (by omega) (by omega), va_up_ne _ _ (by omega), va_up_ne _ _ (by omega), hF5.2.2 _ (by omega) (by omega), va_up_ne _ _ (by omega), va_up_ne _ _ (by omega), hF4.2.2 _ (by omega) (by omega), va_up_ne _ _ (by omega), va_up_ne _ _ (by omega), hF3.2.2 _ (by omega) (by omega), va_up_ne _ _ (by omega), va_up_ne _ _ (by omega), hF2.2.2 _ (by omega) (by omega), va_up_ne _ _ (by omega), va_up_ne _ _ (by omega), hF1.2.2 _ (by omega) (by omega), va_up_ne _ _ (by omega), va_up_ne _ _ (by omega), hF0.2.2 _ (by omega) (by omega), va_up_ne _ _ (by omega), va_up_ne _ _ (by omega), va_up_ne _ _ (by omega), va_up_ne _ _ (by omega), va_up_self], by rw [hb_1], by rw [hb_3 _ (by omega) (by omega), ha_3 _ (by omega) (by omega), va_up_ne _ _ (by omega), hF6.2.2 _ (by omega) (by omega), va_up_ne _ _ (by omega), va_up_ne _ _ (by omega), hF5.2.2 _ (by omega) (by omega), va_up_ne _ _ (by omega), va_up_ne _ _ (by omega), hF4.2.2 _ (by omega) (by omega), va_up_ne _ _ (by omega), va_up_ne _ _ (by omega), hF3.2.2 _ (by omega) (by omega), va_up_ne _ _ (by omega), va_up_ne _ _ (by omega), hF2.2.2 _ (by omega) (by omega), va_up_ne _ _ (by omega), va_up_ne _ _ (by omega), hF1.2.2 _ (by omega) (by omega), va_up_ne _ _ (by omega), va_up_ne _ _ (by omega), hF0.1], by rw [hb_3 _ (by omega) (by omega), ha_3 _ (by omega) (by omega), va_up_ne _ _ (by omega), hF6.2.2 _ (by omega) (by omega), va_up_ne _ _ (by omega), va_up_ne _ _ (by omega), hF5.2.2 _ (by omega) (by omega), va_up_ne _ _ (by omega), va_up_ne _ _ (by omega), hF4.2.2 _ (by omega) (by omega), va_up_ne _ _ (by omega), va_up_ne _ _ (by omega), hF3.2.2 _ (by omega) (by omega), va_up_ne _ _ (by omega), va_up_ne _ _ (by omega), hF2.2.2 _ (by omega) (by omega), va_up_ne _ _ (by omega), va_up_ne _ _ (by omega), hF1.2.2 _ (by omega) (by omega), va_up_ne _ _ (by omega), va_up_ne _ _ (by omega), hF0.2.1], by rw [hb_3 _ (by omega) (by omega), ha_3 _ (by omega) (by omega), va_up_ne _ _ (by omega), hF6.2.2 _ (by omega) (by omega), va_up_ne _ _ (by omega), va_up_ne _ _ (by omega), hF5.2.2 _ (by omega) (by omega), va_up_ne _ _ (by omega), va_up_ne _ _ (by omega), hF4.2.2 _ (by omega) (by omega), va_up_ne _ _ (by omega), va_up_ne _ _ (by omega), hF3.2.2 _ (by omega) (by omega), va_up_ne _ _ (by omega), va_up_ne _ _ (by omega), hF2.2.2 _ (by omega) (by omega), va_up_ne _ _ (by omega), va_up_ne _ _ (by omega), hF1.1], by rw [hb_3 _ (by omega) (by omega), ha_3 _ (by omega) (by omega), va_up_ne _ _ (by omega), hF6.2.2 _ (by omega) (by omega), va_up_ne _ _ (by omega), va_up_ne _ _ (by omega), hF5.2.2 _ (by omega) (by omega), va_up_ne _ _ (by omega), va_up_ne _ _ (by omega), hF4.2.2 _ (by omega) (by omega), va_up_ne _ _ (by omega), va_up_ne _ _ (by omega), hF3.2.2 _ (by omega) (by omega), va_up_ne _ _ (by omega), va_up_ne _ _ (by omega), hF2.2.2 _ (by omega) (by omega), va_up_ne _ _ (by omega), va_up_ne _ _ (by omega), hF1.2.1], by rw [hb_3 _ (by omega) (by omega), ha_3 _ (by omega) (by omega), va_up_ne _ _ (by omega), hF6.2.2 _ (by omega) (by omega), va_up_ne _ _ (by omega), va_up_ne _ _ (by omega), hF5.2.2 _ (by omega) (by omega), va_up_ne _ _ (by omega), va_up_ne _ _ (by omega), hF4.2.2 _ (by omega) (by omega), va_up_ne _ _ (by omega), va_up_ne _ _ (by omega), hF3.2.2 _ (by omega) (by omega), va_up_ne _ _ (by omega), va_up_ne _ _ (by omega), hF2.1], by rw [hb_3 _ (by omega) (by omega), ha_3 _ (by omega) (by omega), va_up_ne _ _ (by omega), hF6.2.2 _ (by omega) (by omega), va_up_ne _ _ (by omega), va_up_ne _ _ (by omega), hF5.2.2 _ (by omega) (by omega), va_up_ne _ _ (by omega), va_up_ne _ _ (by omega), hF4.2.2 _ (by omega) (by omega), va_up_ne _ _ (by omega), va_up_ne _ _ (by omega), hF3.2.2 _ (by omega) (by omega), va_up_ne _ _ (by omega), va_up_ne _ _ (by omega), hF2.2.1], by rw [hb_3 _ (by omega) (by omega), ha_3 _ (by omega) (by omega), va_up_ne _ _ (by omega), hF6.2.2 _ (by omega) (by omega), va_up_ne _ _ (by omega), va_up_ne _ _ (by omega), hF5.2.2 _ (by omega) (by omega), va_up_ne _ _ (by omega), va_up_ne _ _ (by omega), hF4.2.2 _ (by omega) (by omega), va_up_ne _ _ (by omega), va_up_ne _ _ (by omega), hF3.1], by rw [hb_3 _ (by omega) (by omega), ha_3 _ (by omega) (by omega), va_up_ne _ _ (by omega), hF6.2.2 _ (by omega) (by omega), va_up_ne _ _ (by omega), va_up_ne _ _ (by omega), hF5.2.2 _ (by omega) (by omega), va_up_ne _ _ (by omega), va_up_ne _ _ (by omega), hF4.2.2 _ (by omega) (by omega), va_up_ne _ _ (by omega), va_up_ne _ _ (by omega), hF3.2.1], by rw [hb_3 _ (by omega) (by omega), ha_3 _ (by omega) (by omega), va_up_ne _ _ (by omega), hF6.2.2 _ (by omega) (by omega), va_up_ne _ _ (by omega), va_up_ne _ _ (by omega), hF5.2.2 _ (by omega) (by omega), va_up_ne _ _ (by omega), va_up_ne _ _ (by omega), hF4.1], by rw [hb_3 _ (by omega) (by omega), ha_3 _ (by omega) (by omega), va_up_ne _ _ (by omega), hF6.2.2 _ (by omega) (by omega), va_up_ne _ _ (by omega), va_up_ne _ _ (by omega), hF5.2.2 _ (by omega) (by omega), va_up_ne _ _ (by omega), va_up_ne _ _ (by omega), hF4.2.1], by rw [hb_3 _ (by omega) (by omega), ha_3 _ (by omega) (by omega), va_up_ne _ _ (by omega), hF6.2.2 _ (by omega) (by omega), va_up_ne _ _ (by omega), va_up_ne _ _ (by omega), hF5.1], by rw [hb_3 _ (by omega) (by omega), ha_3 _ (by omega) (by omega), va_up_ne _ _ (by omega), hF6.2.2 _ (by omega) (by omega), va_up_ne _ _ (by omega), va_up_ne _ _ (by omega), hF5.2.1], by rw [hb_3 _ (by omega) (by omega), ha_3 _ (by omega) (by omega), va_up_ne _ _ (by omega), hF6.1], by rw [hb_3 _ (by omega) (by omega), ha_3 _ (by omega) (by omega), va_up_ne _ _ (by omega), hF6.2.1], fun j hj => ⟨by rw [hb_3 _ (by omega) (by omega), (ha_2 j hj).1], by rw [hb_3 _ (by omega) (by omega), (ha_2 j hj).2]⟩, hb_2, fun i h1 h2 => by rw [hb_3 _ (by omega) (by omega), ha_3 _ (by omega) (by omega), va_up_ne _ _ (by omega), hF6.2.2 _ (by omega) (by omega), va_up_ne _ _ (by omega), va_up_ne _ _ (by omega), hF5.2.2 _ (by omega) (by omega), va_up_ne _ _ (by omega), va_up_ne _ _ (by omega), hF4.2.2 _ (by omega) (by omega), va_up_ne _ _ (by omega), va_up_ne _ _ (by omega), hF3.2.2 _ (by omega) (by omega), va_up_ne _ _ (by omega), va_up_ne _ _ (by omega), hF2.2.2 _ (by omega) (by omega), va_up_ne _ _ (by omega), va_up_ne _ _ (by omega), hF1.2.2 _ (by omega) (by omega), va_up_ne _ _ (by omega), va_up_ne _ _ (by omega), hF0.2.2 _ (by omega) (by omega), va_up_ne _ _ (by omega), va_up_ne _ _ (by omega), va_up_ne _ _ (by omega), va_up_ne _ _ (by omega), va_up_ne _ _ (by omega), va_up_ne _ _ (by omega), va_up_ne _ _ (by omega), va_up_ne _ _ (by omega), va_up_ne _ _ (by omega)]⟩
theorem k_Poi (l : Launch) (D : va_G) (cy : Nat → ClassId) (b n : Nat) (f : Nat → va_E) (h : Nat) (hh : h < n) (hf : f h = .inr (4, [.null, .int 0, .null, .null, .null])) : rc_Met l D cy yX5_init cX5_init 2 2 44 25 281 [.ref (b + h)] b n f (fun n1 f1 => n1 = n + 25 ∧ f1 h = .inr (4, [.ref (b + n), .int 0, .ref (b + (n + 2)), .ref (b + (n + 3)), .ref (b + (n + 5))]) ∧ f1 (n) = .inr (0, [.ref (b + (n + 1)), .int 1]) ∧ f1 (n + 1) = .inl (cy 12, 20, .inr (.inl (fun _ => 0))) ∧ f1 (n + 2) = .inl (cy 14, 9, .inr (.inr (.inr (.inr (fun j => if j < 9 then some (b + (n + 7 + 2 * j)) else none))))) ∧ f1 (n + 3) = .inr (0, [.ref (b + (n + 4)), .int 1]) ∧ f1 (n + 4) = .inl (cy 12, 96, .inr (.inl (fun _ => 0))) ∧ f1 (n + 5) = .inr (0, [.ref (b + (n + 6)), .int 1]) ∧ f1 (n + 6) = .inl (cy 12, 96, .inr (.inl (fun _ => 0))) ∧ (∀ j, j < 9 → f1 (n + 7 + 2 * j) = .inr (0, [.ref (b + (n + 7 + 2 * j + 1)), .int 1]) ∧ f1 (n + 7 + 2 * j + 1) = .inl (cy 12, 4, .inr (.inl (fun _ => 0)))) ∧ ∀ i, i < n → i ≠ h → f1 i = f i) := by
  refine rc_enter (lv0 := [(0, .ref (b + h))]) hq_Poi rfl (Nat.le_of_ble_eq_true rfl) rfl (fun X hll C => ?_)
  replace C : rc_C X D cy cX5_init 2 "RootRows$Point" 2 44 25 281 b := C
  refine ry_aload_n C 0 dX5_init_0 rfl ?_
  refine ry_obj (rest := []) C q_215 q_23 q_24 (by decide) (by decide) (Nat.le_of_ble_eq_true rfl) dX5_init_1 ?_
  refine ry_aload_n C 0 dX5_init_4 rfl ?_
  refine ry_new (ci := 0) (fs := [.null, .int 0]) C tyX0 tyX0_ok inX0 rfl q_216 q_150 q_6 bl_0 (by omega) (by omega) dX5_init_5 ?_
  refine ry_dup C dX5_init_8 rfl ?_
  refine ry_bipush (v := 20) C dX5_init_9 rfl ?_
  refine ry_call (i := n) (rest := [.ref (b + n), .ref (b + h)]) C hll (k_Big l D cy b (n + 1) _ n 20 (by omega) (by rw [va_up_self]) (N0 := 20) rfl (by decide) (by decide)) q_217 q_152 q_6 q_153 rfl hk_Big ⟨by decide, by decide⟩ (by omega) (by omega) rfl rfl (Nat.le_of_ble_eq_true rfl) dX5_init_11 (fun nF0 fF0 hF0 => ?_)
  obtain ⟨eF0, hF0⟩ := hF0
  subst eF0
  refine ry_put (i := h) (fs := [.null, .int 0, .null, .null, .null]) (fs1 := [.ref (b + n), .int 0, .null, .null, .null]) C 4 0 tyX5 tyX5_ok nmX5 inX5 rfl (by decide) q_218 rfl rfl (by omega) (by rw [hF0.2.2 _ (by omega) (by omega), va_up_ne _ _ (by omega), hf]) (Nat.le_of_ble_eq_true rfl) rfl rfl rfl dX5_init_14 ?_
  refine ry_aload_n C 0 dX5_init_17 rfl ?_
  refine ry_bipush (v := 9) C dX5_init_18 rfl ?_
  refine ry_newq_Big (N0 := 9) C q_216 (by decide) (by decide) (by decide) (by omega) (by omega) dX5_init_20 ?_
  refine ry_put (i := h) (fs := [.ref (b + n), .int 0, .null, .null, .null]) (fs1 := [.ref (b + n), .int 0, .ref (b + (n + 2)), .null, .null]) C 4 2 tyX5 tyX5_ok nmX5 inX5 rfl (by decide) q_220 rfl rfl (by omega) (by rw [va_up_ne _ _ (by omega), va_up_self]) (Nat.le_of_ble_eq_true rfl) rfl rfl rfl dX5_init_23 ?_
  refine ry_aload_n C 0 dX5_init_26 rfl ?_
  refine ry_new (ci := 0) (fs := [.null, .int 0]) C tyX0 tyX0_ok inX0 rfl q_216 q_150 q_6 bl_0 (by omega) (by omega) dX5_init_27 ?_
  refine ry_dup C dX5_init_30 rfl ?_
  refine ry_bipush (v := 96) C dX5_init_31 rfl ?_
  refine ry_call (i := n + 3) (rest := [.ref (b + (n + 3)), .ref (b + h)]) C hll (k_Big l D cy b (n + 4) _ (n + 3) 96 (by omega) (by rw [va_up_self]) (N0 := 96) rfl (by decide) (by decide)) q_217 q_152 q_6 q_153 rfl hk_Big ⟨by decide, by decide⟩ (by omega) (by omega) rfl rfl (Nat.le_of_ble_eq_true rfl) dX5_init_33 (fun nF1 fF1 hF1 => ?_)
  obtain ⟨eF1, hF1⟩ := hF1
  subst eF1
  refine ry_put (i := h) (fs := [.ref (b + n), .int 0, .ref (b + (n + 2)), .null, .null]) (fs1 := [.ref (b + n), .int 0, .ref (b + (n + 2)), .ref (b + (n + 3)), .null]) C 4 3 tyX5 tyX5_ok nmX5 inX5 rfl (by decide) q_221 rfl rfl (by omega) (by rw [hF1.2.2 _ (by omega) (by omega), va_up_ne _ _ (by omega), va_up_self]) (Nat.le_of_ble_eq_true rfl) rfl rfl rfl dX5_init_36 ?_
  refine ry_aload_n C 0 dX5_init_39 rfl ?_
  refine ry_new (ci := 0) (fs := [.null, .int 0]) C tyX0 tyX0_ok inX0 rfl q_216 q_150 q_6 bl_0 (by omega) (by omega) dX5_init_40 ?_
  refine ry_dup C dX5_init_43 rfl ?_
  refine ry_bipush (v := 96) C dX5_init_44 rfl ?_
  refine ry_call (i := n + 5) (rest := [.ref (b + (n + 5)), .ref (b + h)]) C hll (k_Big l D cy b (n + 6) _ (n + 5) 96 (by omega) (by rw [va_up_self]) (N0 := 96) rfl (by decide) (by decide)) q_217 q_152 q_6 q_153 rfl hk_Big ⟨by decide, by decide⟩ (by omega) (by omega) rfl rfl (Nat.le_of_ble_eq_true rfl) dX5_init_46 (fun nF2 fF2 hF2 => ?_)
  obtain ⟨eF2, hF2⟩ := hF2
  subst eF2
  refine ry_put (i := h) (fs := [.ref (b + n), .int 0, .ref (b + (n + 2)), .ref (b + (n + 3)), .null]) (fs1 := [.ref (b + n), .int 0, .ref (b + (n + 2)), .ref (b + (n + 3)), .ref (b + (n + 5))]) C 4 4 tyX5 tyX5_ok nmX5 inX5 rfl (by decide) q_222 rfl rfl (by omega) (by rw [hF2.2.2 _ (by omega) (by omega), va_up_ne _ _ (by omega), va_up_self]) (Nat.le_of_ble_eq_true rfl) rfl rfl rfl dX5_init_49 ?_
  refine ry_iconst (v := nI 0) C dX5_init_52 rfl ?_
  refine ry_istore_n (lv1 := [(1, .int (nI 0)), (0, .ref (b + h))]) C dX5_init_53 (by decide) rfl ?_
  refine kl_Poi1 (by decide) (by decide) hll C (n + 7) h (n + 2) 7 227 _ [.ref (b + n), .int 0, .ref (b + (n + 2)), .ref (b + (n + 3)), .ref (b + (n + 5))] (by omega) (by omega) (by omega) (by omega) (by omega) (by rw [va_up_self]) rfl (fun fa ha_1 ha_2 ha_3 => ?_) 9 0 rfl _ (by rw [va_up_ne _ _ (by omega), hF2.2.2 _ (by omega) (by omega), va_up_ne _ _ (by omega), va_up_ne _ _ (by omega), hF1.2.2 _ (by omega) (by omega), va_up_ne _ _ (by omega), va_up_ne _ _ (by omega), va_up_self]; congr 7) (fun j hj => absurd hj (by omega)) (fun i _ _ => rfl)
  exact ry_ret C dX5_init_80 ⟨rfl, by rw [ha_3 _ (by omega) (by omega), va_up_self], by rw [ha_3 _ (by omega) (by omega), va_up_ne _ _ (by omega), hF2.2.2 _ (by omega) (by omega), va_up_ne _ _ (by omega), va_up_ne _ _ (by omega), hF1.2.2 _ (by omega) (by omega), va_up_ne _ _ (by omega), va_up_ne _ _ (by omega), va_up_ne _ _ (by omega), va_up_ne _ _ (by omega), hF0.1], by rw [ha_3 _ (by omega) (by omega), va_up_ne _ _ (by omega), hF2.2.2 _ (by omega) (by omega), va_up_ne _ _ (by omega), va_up_ne _ _ (by omega), hF1.2.2 _ (by omega) (by omega), va_up_ne _ _ (by omega), va_up_ne _ _ (by omega), va_up_ne _ _ (by omega), va_up_ne _ _ (by omega), hF0.2.1], by rw [ha_1], by rw [ha_3 _ (by omega) (by omega), va_up_ne _ _ (by omega), hF2.2.2 _ (by omega) (by omega), va_up_ne _ _ (by omega), va_up_ne _ _ (by omega), hF1.1], by rw [ha_3 _ (by omega) (by omega), va_up_ne _ _ (by omega), hF2.2.2 _ (by omega) (by omega), va_up_ne _ _ (by omega), va_up_ne _ _ (by omega), hF1.2.1], by rw [ha_3 _ (by omega) (by omega), va_up_ne _ _ (by omega), hF2.1], by rw [ha_3 _ (by omega) (by omega), va_up_ne _ _ (by omega), hF2.2.1], ha_2, fun i h1 h2 => by rw [ha_3 _ (by omega) (by omega), va_up_ne _ _ (by omega), hF2.2.2 _ (by omega) (by omega), va_up_ne _ _ (by omega), va_up_ne _ _ (by omega), hF1.2.2 _ (by omega) (by omega), va_up_ne _ _ (by omega), va_up_ne _ _ (by omega), va_up_ne _ _ (by omega), va_up_ne _ _ (by omega), hF0.2.2 _ (by omega) (by omega), va_up_ne _ _ (by omega)]⟩
