theorem st_K {s : State} {args : Array Value} (ht : ∀ w ∈ lw_tbl, w.before args s = true) : ∃ D : va_G, ∀ (c : Nat) (q : vw_C), rr_cls[c]? = some q → u_Kn s q.1 q.2.1 q.2.2 (D.1 c) (D.2 c) := by
  have hb : ∀ w ∈ rr_tb, w.before args s = true := fun w h => ht w (rr_tbl h)
  obtain ⟨c0, i0, h0⟩ := u_known hb inX0 (hb _ q_150)
  obtain ⟨c1, i1, h1⟩ := u_known hb inX1 (hb _ q_235)
  obtain ⟨c2, i2, h2⟩ := u_known hb inX2 (hb _ q_132)
  obtain ⟨c3, i3, h3⟩ := u_known hb inX4 (hb _ q_262)
  obtain ⟨c4, i4, h4⟩ := u_known hb inX5 (hb _ q_211)
  obtain ⟨c5, i5, h5⟩ := u_known hb inX7 (hb _ q_143)
  obtain ⟨c6, i6, h6⟩ := u_known hb inX8 (hb _ q_98)
  obtain ⟨c7, i7, h7⟩ := u_known hb inX9 (hb _ q_27)
  obtain ⟨c8, i8, h8⟩ := u_known hb inX10 (hb _ q_18)
  obtain ⟨c9, i9, h9⟩ := u_known hb inX11 (hb _ q_835)
  refine ⟨(fun c => match c with
    | 0 => c0
    | 1 => c1
    | 2 => c2
    | 3 => c3
    | 4 => c4
    | 5 => c5
    | 6 => c6
    | 7 => c7
    | 8 => c8
    | _ => c9, fun c => match c with
    | 0 => i0
    | 1 => i1
    | 2 => i2
    | 3 => i3
    | 4 => i4
    | 5 => i5
    | 6 => i6
    | 7 => i7
    | 8 => i8
    | _ => i9), fun c q hq => ?_⟩
  match c, hq with
  | 0, hq => cases hq; exact h0
  | 1, hq => cases hq; exact h1
  | 2, hq => cases hq; exact h2
  | 3, hq => cases hq; exact h3
  | 4, hq => cases hq; exact h4
  | 5, hq => cases hq; exact h5
  | 6, hq => cases hq; exact h6
  | 7, hq => cases hq; exact h7
  | 8, hq => cases hq; exact h8
  | 9, hq => cases hq; exact h9
  | c + 10, hq => simp [rr_cls] at hq
theorem st_X {s : State} {args : Array Value} (ht : ∀ w ∈ lw_tbl, w.before args s = true) : ∃ (D : va_G) (cy : Nat → ClassId), rc_X D cy s := by
  obtain ⟨D, hD⟩ := st_K ht
  have hb : ∀ w ∈ rr_tb, w.before args s = true := fun w h => ht w (rr_tbl h)
  obtain ⟨a10, k10, m10, f10, g10, e10⟩ := Cond.arrayClass_spec (hb _ q_896)
  obtain ⟨a11, k11, m11, f11, g11, e11⟩ := Cond.arrayClass_spec (hb _ q_95)
  obtain ⟨a12, k12, m12, f12, g12, e12⟩ := Cond.arrayClass_spec (hb _ q_94)
  obtain ⟨a13, k13, m13, f13, g13, e13⟩ := Cond.arrayClass_spec (hb _ q_96)
  obtain ⟨m14, a14, k14, n14, -, g14, e14, f14⟩ := Cond.arrayOver_spec (ht _ q_149)
  obtain ⟨m15, a15, k15, n15, -, g15, e15, f15⟩ := Cond.arrayOver_spec (ht _ q_26)
  obtain ⟨m16, a16, k16, n16, g16, e16, f16⟩ := Cond.arrayOver_specA (ht _ q_241)
  have e12b : m16 = a12 := Option.some.inj (n16.symm.trans f12)
  subst e12b
  have hao : (Cond.arrayOver (.array .long)).before #[] s = true := Jvm.Stand.arrayOver_alikeB (Vm.Alike.refl s.vm) (ht _ q_241)
  refine ⟨D, (fun k => match k with
    | 10 => a10
    | 11 => a11
    | 12 => m16
    | 13 => a13
    | 14 => a14
    | 15 => a15
    | _ => a16), ⟨hD, fun k q hq => ?_⟩, ⟨va_AO.of (ht _ q_149), f14⟩, ⟨va_AO.of (ht _ q_26), f15⟩, ⟨hao, f16, n16, f12⟩, ⟨f11, f13, f10⟩, va_Nw.of rfl (ht _ q_28), va_Nw.of rfl (ht _ q_99), va_Nw.of rfl (ht _ q_133)⟩
  match k, hq with
  | 0, hq => cases hq; exact ⟨fun n z => ⟨fun k h => (by cases h), k10, g10, m10, e10⟩, f10⟩
  | 1, hq => cases hq; exact ⟨fun n z => ⟨fun k h => (by cases h), k11, g11, m11, e11⟩, f11⟩
  | 2, hq => cases hq; exact ⟨fun n z => ⟨fun k h => (by cases h), k12, g12, m12, e12⟩, f12⟩
  | 3, hq => cases hq; exact ⟨fun n z => ⟨fun k h => (by cases h), k13, g13, m13, e13⟩, f13⟩
  | 4, hq => cases hq; exact ⟨fun n z => ⟨fun k h => (by cases h), k14, g14, m14, e14⟩, ⟨k14, m14, g14, e14, n14, f14⟩⟩
  | 5, hq => cases hq; exact ⟨fun n z => ⟨fun k h => (by cases h), k15, g15, m15, e15⟩, ⟨k15, m15, g15, e15, n15, f15⟩⟩
  | 6, hq => cases hq; exact ⟨fun n z => ⟨fun k h => (by cases h), k16, g16, m16, e16⟩, f16⟩
  | k + 7, hq => simp [rc_ty, rr_tys] at hq
set_option maxRecDepth 4000 in
theorem whole_start_of (fu : Nat) (Inv : Nat → Nat → rr_M → rr_M → Prop) (hops : ∀ B : Nat, rl_ops fu B (B + 341) (Inv B (B + 341))) (hini : ∀ B : Nat, Inv B (B + 341) (sX B) (sM (B + 341))) {p : Program} {e : Env} {s : State} {m : MethodId} {below : List Frame} {meth : Method} {c : Code} (l : Launch) {b L : Nat} {xs : Nat → Int32} (hL : L ≤ 3072) (C0 : lw_At p s m meth c b L xs) : W p l e room_1 s m #[Value.ref b] below meth c s.heap [] 0 0 (lw_Z below #[Value.ref b] s) (entryFrame m ([Value.ref b] : List Value).toArray 4) := by
  obtain ⟨hx, hb, hr, hml, hown, hts, hX, hbl, hlocks, hgv⟩ := C0
  obtain ⟨D, cy, hXX⟩ := st_X hts
  obtain ⟨B, hB⟩ : ∃ B : Nat, B = s.heap.size := ⟨_, rfl⟩
  obtain ⟨C, hC⟩ : ∃ C : Nat, C = B + 341 := ⟨_, rfl⟩
  have hops1 := hops B
  have hini1 := hini B
  rw [← hC] at hops1 hini1
  have htb : ∀ w ∈ rr_tb, w.before #[Value.ref b] s = true := fun w h => hts w (rr_tbl h)
  have C1 : rl_C (p, l, e, room_1, s, m, #[Value.ref b], below, meth, c) D cy cL_law 4 "RootRowsLaw" 12 506 600000 7302250 B := ⟨hx, hb, hml, hown, htb, hXX, trivial, trivial, trivial, rfl, by show B ≤ s.heap.size; omega⟩
  have K0 : rl_L (p, l, e, room_1, s, m, #[Value.ref b], below, meth, c) D cy B C b L xs := ⟨hx, hb, hml, hown, htb, hXX.1, hC, hB, ⟨hX, hbl⟩, rfl⟩
  have main : rc_J (p, l, e, room_1, s, m, #[Value.ref b], below, meth, c) D 4 (lw_Z below #[Value.ref b] s) B 0 (fun _ => .inr (0, [])) 0 0 0 [(0, .ref b)] [] := by
    refine rz_new (ci := 8) (fs := [.null, .null, .null, .null, .null, .null, .null]) C1 tyX10 tyX10_ok inX10 rfl q_17 q_18 q_1 bl_8 (Nat.le_of_ble_eq_true rfl) (Nat.le_of_ble_eq_true rfl) dL_law_0 ?_
    refine rz_dup C1 dL_law_3 rfl ?_
    refine rz_call (i := 0) (rest := [.ref (B + 0)]) C1 rfl (k_Roo l D cy B 1 _ 0 (by decide) (by rw [va_up_self])) q_19 q_20 q_1 q_21 rfl hk_Roo ⟨by decide, by decide⟩ (Nat.le_of_ble_eq_true rfl) (Nat.le_of_ble_eq_true rfl) rfl rfl (Nat.le_of_ble_eq_true rfl) dL_law_4 (fun n1 f1 h1 => ?_)
    obtain ⟨e1, hroo⟩ := h1
    subst e1
    refine rz_astore_n (lv1 := [(1, .ref (B + 0)), (0, .ref b)]) C1 dL_law_7 (by decide) rfl ?_
    refine rz_new (ci := 9) (fs := [.int 0, .null, .null, .null, .null, .null, .null, .null, .null, .null, .null, .int 0, .null, .null, .int 0, .int 0, .int 0, .int 0]) C1 tyX11 tyX11_ok inX11 rfl q_834 q_835 q_11 bl_9 (Nat.le_of_ble_eq_true rfl) (Nat.le_of_ble_eq_true rfl) dL_law_8 ?_
    refine rz_dup C1 dL_law_11 rfl ?_
    refine rz_call (i := 341) (rest := [.ref (B + 341)]) C1 rfl (k_Mod l D cy B 342 _ 341 (by decide) (by rw [va_up_self])) q_836 q_837 q_11 q_838 rfl hk_Mod ⟨by decide, by decide⟩ (Nat.le_of_ble_eq_true rfl) (Nat.le_of_ble_eq_true rfl) rfl rfl (Nat.le_of_ble_eq_true rfl) dL_law_12 (fun n2 f2 h2 => ?_)
    obtain ⟨e2, hmod⟩ := h2
    subst e2
    refine rz_astore_n (lv1 := [(2, .ref (B + 341)), (1, .ref (B + 0)), (0, .ref b)]) C1 dL_law_15 (by decide) rfl ?_
    refine rz_iconst (v := nI 0) C1 dL_law_16 rfl ?_
    refine rz_istore_n (lv1 := [(3, .int (nI 0)), (2, .ref (B + 341)), (1, .ref (B + 0)), (0, .ref b)]) C1 dL_law_17 (by decide) rfl ?_
    obtain ⟨g_h, g_0, g_1, g_2, g_3, g_4, g_5, g_6, g_7, g_8, g_9, g_10, g_11, hmo⟩ := hmod
    have hroo2 : rc_roo cy B 1 0 f2 := by
      have hq : ∀ i, i < 341 → f2 i = f1 i := fun i hi => by rw [hmo i (by omega) (by omega), va_up_ne _ _ (by omega)]
      unfold rc_roo at hroo ⊢
      obtain ⟨s_h, s_0, s_1, s_2, s_3, s_4, s_5, s_6, s_7, s_8, s_9, s_10, s_11, s_12, s_13, s_14, s_15, s_16, s_17, s_18, s_19, s_20, s_21, s_22, s_23, s_24, s_25, s_26, s_27, s_28, s_29, s_30, s_31, s_32, s_33, s_34, s_35, s_36, s_37, s_38, s_39, s_40, s_41, s_42, s_43, s_44, s_45, s_46, s_47, s_48, s_49, f_0, f_1, f_2, f_3, f_4, f_5⟩ := hroo
      exact ⟨by rw [hq _ (by decide)]; exact s_h, by have q := s_0; rw [hq _ (by decide)]; exact q, by have q := s_1; rw [hq _ (by decide)]; exact q, by have q := s_2; rw [hq _ (by decide)]; exact q, by have q := s_3; rw [hq _ (by decide)]; exact q, by have q := s_4; rw [hq _ (by decide)]; exact q, by have q := s_5; rw [hq _ (by decide)]; exact q, by have q := s_6; rw [hq _ (by decide)]; exact q, by have q := s_7; rw [hq _ (by decide)]; exact q, by have q := s_8; rw [hq _ (by decide)]; exact q, by have q := s_9; rw [hq _ (by decide)]; exact q, by have q := s_10; rw [hq _ (by decide)]; exact q, by have q := s_11; rw [hq _ (by decide)]; exact q, by have q := s_12; rw [hq _ (by decide)]; exact q, by have q := s_13; rw [hq _ (by decide)]; exact q, by have q := s_14; rw [hq _ (by decide)]; exact q, by have q := s_15; rw [hq _ (by decide)]; exact q, by have q := s_16; rw [hq _ (by decide)]; exact q, by have q := s_17; rw [hq _ (by decide)]; exact q, by have q := s_18; rw [hq _ (by decide)]; exact q, by have q := s_19; rw [hq _ (by decide)]; exact q, by have q := s_20; rw [hq _ (by decide)]; exact q, by have q := s_21; rw [hq _ (by decide)]; exact q, by have q := s_22; rw [hq _ (by decide)]; exact q, by have q := s_23; rw [hq _ (by decide)]; exact q, by have q := s_24; rw [hq _ (by decide)]; exact q, by have q := s_25; rw [hq _ (by decide)]; exact q, by have q := s_26; rw [hq _ (by decide)]; exact q, by have q := s_27; rw [hq _ (by decide)]; exact q, by have q := s_28; rw [hq _ (by decide)]; exact q, by have q := s_29; rw [hq _ (by decide)]; exact q, by have q := s_30; rw [hq _ (by decide)]; exact q, by have q := s_31; rw [hq _ (by decide)]; exact q, by have q := s_32; rw [hq _ (by decide)]; exact q, by have q := s_33; rw [hq _ (by decide)]; exact q, by have q := s_34; rw [hq _ (by decide)]; exact q, by have q := s_35; rw [hq _ (by decide)]; exact q, by have q := s_36; rw [hq _ (by decide)]; exact q, by have q := s_37; rw [hq _ (by decide)]; exact q, by have q := s_38; rw [hq _ (by decide)]; exact q, by have q := s_39; rw [hq _ (by decide)]; exact q, by have q := s_40; rw [hq _ (by decide)]; exact q, by have q := s_41; rw [hq _ (by decide)]; exact q, by have q := s_42; rw [hq _ (by decide)]; exact q, by have q := s_43; rw [hq _ (by decide)]; exact q, by have q := s_44; rw [hq _ (by decide)]; exact q, by have q := s_45; rw [hq _ (by decide)]; exact q, by have q := s_46; rw [hq _ (by decide)]; exact q, by have q := s_47; rw [hq _ (by decide)]; exact q, by have q := s_48; rw [hq _ (by decide)]; exact q, by have q := s_49; rw [hq _ (by decide)]; exact q, fun j hj => by have q := f_0 j hj; rw [hq _ (by omega), hq _ (by omega), hq _ (by omega), hq _ (by omega), hq _ (by omega), hq _ (by omega), hq _ (by omega)]; exact q, fun j hj => by have q := f_1 j hj; rw [hq _ (by omega), hq _ (by omega)]; exact q, fun j hj => by have q := f_2 j hj; rw [hq _ (by omega), hq _ (by omega)]; exact q, fun j hj => by have q := f_3 j hj; rw [hq _ (by omega), hq _ (by omega)]; exact q, fun j hj => by have q := f_4 j hj; rw [hq _ (by omega)]; exact q, fun j hj => by have q := f_5 j hj; rw [hq _ (by omega)]; exact q⟩
    have hcm : ∀ i, i < 13 → rl_eq ((fun i => f2 (341 + i)) i) (rr_ce (GM D cy C) (sM C) (C + i)) := lm_cells ⟨by
      show f2 341 = _
      rw [g_h]
      simp only [show B + 342 = C + 1 from by omega, show B + (342 + 1) = C + 2 from by omega, show B + (342 + 2) = C + 3 from by omega, show B + (342 + 3) = C + 4 from by omega, show B + (342 + 4) = C + 5 from by omega, show B + (342 + 5) = C + 6 from by omega, show B + (342 + 6) = C + 7 from by omega, show B + (342 + 7) = C + 8 from by omega, show B + (342 + 8) = C + 9 from by omega, show B + (342 + 9) = C + 10 from by omega, show B + (342 + 10) = C + 11 from by omega, show B + (342 + 11) = C + 12 from by omega], g_0, g_1, g_2, g_3, g_4, g_5, g_6, g_7, g_8, g_9, g_10, g_11⟩
    intro H locs ls hl hP hS
    have hB0 : B + 0 = B := Nat.add_zero B
    rw [hB0] at hl
    rw [← hC] at hl
    exact law_loop hL rfl K0 hr hlocks rfl hops1 (L + 7) 0 (sX B) (sM C) (by omega) (by omega) hini1 (lx_T D cy B) (lm_T D cy C) H locs ls hl (lx_world hroo2 (by decide) hP) (lm_world hC hcm (by decide) hP) hS
  have hl := lv_entry ([.ref b]) (n := 4) (Nat.le_of_ble_eq_true rfl)
  rw [lg_entry_eq]
  exact main s.heap [] _ hl ⟨by omega, fun k q hk => by simp [rc_w] at hk⟩ va_S.rf
