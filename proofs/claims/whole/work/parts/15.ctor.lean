theorem vr_outer (c : ClassId) (N h0 : Nat) : ∀ i : Nat, Jvm.Free.Multi.outerC c N h0 i = arrV c N (fun j => va_rf (if j < i then some (h0 + 1 + j) else none))
  | 0 => by
    show ({ cls := c, slots := Array.replicate N .null, vm := .none } : Cell) = _
    rw [arrV_new]
    refine congrArg (arrV c N) (funext fun j => ?_)
    simp [va_rf]
  | i + 1 => by
    show (Jvm.Free.Multi.outerC c N h0 i).setSlot i (.ref (h0 + 1 + i)) = _
    rw [vr_outer c N h0 i, arrV_store]
    refine congrArg (arrV c N) (funext fun j => ?_)
    by_cases e : j = i
    · subst e
      simp [updV, va_rf]
    · by_cases h : j < i
      · simp [updV, e, h, Nat.lt_succ_of_lt h]
      · simp [updV, e, h, show ¬ j < i + 1 by omega]
/-! while cells are being made: the cells from b on, by their offsets -/
def rc_w (b n : Nat) (f : Nat → va_E) : va_W := (List.range n).map (fun i => (b + i, f i))
theorem rc_at {b n i : Nat} {f : Nat → va_E} (h : i < n) : (rc_w b n f)[i]? = some (b + i, f i) := by
  simp [rc_w, List.getElem?_range h]
theorem rc_at_inv {b n i : Nat} {f : Nat → va_E} {q : Nat × va_E} (h : (rc_w b n f)[i]? = some q) : i < n ∧ q = (b + i, f i) := by
  have hl := (List.getElem?_eq_some_iff.mp h).1
  simp only [rc_w, List.length_map, List.length_range] at hl
  rw [rc_at hl] at h
  exact ⟨hl, (Option.some.inj h).symm⟩
theorem rc_D {b n : Nat} {f : Nat → va_E} : va_D (fun q => b ≤ q) (rc_w b n f) := by
  refine ⟨fun i j p q hi hj hpq => ?_, fun k q hk => ?_⟩
  · obtain ⟨-, rfl⟩ := rc_at_inv hi
    obtain ⟨-, rfl⟩ := rc_at_inv hj
    have h : b + i = b + j := hpq
    omega
  · obtain ⟨-, rfl⟩ := rc_at_inv hk
    exact Nat.le_add_right _ _
theorem rc_set {b n i : Nat} {f : Nat → va_E} {e : va_E} (h : i < n) : (rc_w b n f).set i (b + i, e) = rc_w b n (va_up f i e) := by
  apply List.ext_getElem?
  intro j
  by_cases hj : j = i
  · subst hj
    rw [List.getElem?_set_self (by simp [rc_w, h]), rc_at h, va_up_self]
  · rw [List.getElem?_set_ne (Ne.symm hj)]
    by_cases hn : j < n
    · rw [rc_at hn, rc_at hn, va_up_ne _ _ hj]
    · rw [List.getElem?_eq_none (by simp [rc_w]; omega), List.getElem?_eq_none (by simp [rc_w]; omega)]
def rc_H (D : va_G) (b n : Nat) (f : Nat → va_E) (H : Heap) : Prop := H.size = b + n ∧ va_P D rr_cls (rc_w b n f) H
def rc_ty (cy : Nat → ClassId) : List (ClassId × FieldType) := rr_tys (((fun _ => 0), (fun _ _ => 0)), cy, [], (fun _ => 0), (fun _ => 0))
/-- what the tables say beside the words: the classes of arrays, the private constructors -/
def rc_X (D : va_G) (cy : Nat → ClassId) (U : State) : Prop := va_K D rr_cls (rc_ty cy) U ∧ (va_AO "RootRows$Big" U ∧ U.vm.findClass ("[" ++ (FieldType.object "RootRows$Big").toString) = some (cy 14)) ∧ (va_AO "RootRows$Tray" U ∧ U.vm.findClass ("[" ++ (FieldType.object "RootRows$Tray").toString) = some (cy 15)) ∧ ((Cond.arrayOver (.array .long)).before #[] U = true ∧ U.vm.findClass ("[" ++ (FieldType.array .long).toString) = some (cy 16) ∧ U.vm.findClass (FieldType.array .long).toString = some (cy 12) ∧ U.vm.findClass ("[" ++ FieldType.long.toString) = some (cy 12)) ∧ (U.vm.findClass ("[" ++ FieldType.int.toString) = some (cy 11) ∧ U.vm.findClass ("[" ++ FieldType.boolean.toString) = some (cy 13) ∧ U.vm.findClass ("[" ++ FieldType.byte.toString) = some (cy 10)) ∧ (va_Nw (Jvm.Cond.methodLinkNest "RootRows" (15 : Nat) ({ cls := "RootRows$Tray", name := "<init>", desc := "()V" } : Jvm.MethodName) "RootRows") U ∧ va_Nw (Jvm.Cond.methodLinkNest "RootRows" (18 : Nat) ({ cls := "RootRows$Tape", name := "<init>", desc := "()V" } : Jvm.MethodName) "RootRows") U ∧ va_Nw (Jvm.Cond.methodLinkNest "RootRows" (25 : Nat) ({ cls := "RootRows$Maker", name := "<init>", desc := "()V" } : Jvm.MethodName) "RootRows") U)
def rc_B (D : va_G) (cy : Nat → ClassId) (b n : Nat) (f : Nat → va_E) (U : State) : Prop := rc_H D b n f U.heap ∧ rc_X D cy U ∧ b ≤ U.heap.size
def rc_Q (D : va_G) (cy : Nat → ClassId) (b : Nat) (Φ : Nat → (Nat → va_E) → Prop) : Array Value → State → Outcome → State → Prop := fun _ st oc t => oc = .returned none ∧ (∃ (n : Nat) (f : Nat → va_E), Φ n f ∧ rc_B D cy b n f t) ∧ va_F (fun q => b ≤ q) st t
def rc_Met (l : Launch) (D : va_G) (cy : Nat → ClassId) (y : MethodName) (cc : ByteArray) (maxL fr lo mc ms : Nat) (av : List Value) (b n : Nat) (f : Nat → va_E) (Φ : Nat → (Nat → va_E) → Prop) : Prop :=
  Met l y (.code y cc maxL none :: rr_tb) { frames := fr, cells := mc, slots := ms, locals := lo } (va_Pc av (rc_B D cy b n f)) (rc_Q D cy b Φ) mc ms (fun q => b ≤ q)
def rc_C (X : rr_X) (D : va_G) (cy : Nat → ClassId) (cc : ByteArray) (nL : Nat) (own : String) (fr lo mc ms b : Nat) : Prop :=
  X.1.tables.exec = Jvm.exec ∧ X.2.2.2.2.2.2.2.2.2.code = cc ∧ X.2.2.2.2.2.2.2.2.2.maxLocals = nL ∧ X.2.2.2.2.1.vm.findClass own = some X.2.2.2.2.2.1.cls ∧ (∀ w ∈ rr_tb, w.before X.2.2.2.2.2.2.1 X.2.2.2.2.1 = true) ∧ rc_X D cy X.2.2.2.2.1 ∧ X.2.2.2.2.2.2.2.2.1.locks = false ∧ X.2.2.2.2.2.2.2.2.1.sig.returnType = none ∧ X.2.2.2.2.2.2.2.2.1.name = "<init>" ∧ X.2.2.2.1 = { frames := fr, cells := mc, slots := ms, locals := lo } ∧ b ≤ X.2.2.2.2.1.heap.size
def rc_J (X : rr_X) (D : va_G) (nL : Nat) (Q : State → Prop) (b n : Nat) (f : Nat → va_E) (ce sl : Nat) (pc : Nat) (lv : List (Nat × Value)) (st : List Value) : Prop :=
  ∀ (H : Heap) (locs : List Loc) (ls : Array Slot), lv_has ls nL lv → rc_H D b n f H → va_S (fun q => b ≤ q) X.2.2.2.2.1.heap H locs → W X.1 X.2.1 X.2.2.1 X.2.2.2.1 X.2.2.2.2.1 X.2.2.2.2.2.1 X.2.2.2.2.2.2.1 X.2.2.2.2.2.2.2.1 X.2.2.2.2.2.2.2.2.1 X.2.2.2.2.2.2.2.2.2 H locs ce sl Q (F0 X.2.2.2.2.2.1 pc ls st)
theorem rc_jj : ("[" ++ (FieldType.array .long).toString : String) = "[[J" := by decide +kernel
section RYS
variable {X : rr_X} {D : va_G} {cy : Nat → ClassId} {nL : Nat} {Q : State → Prop} {cc : ByteArray} {own : String} {fr lo mc ms b n ce sl : Nat} {f : Nat → va_E} {pc : Nat} {lv : List (Nat × Value)} {rest : List Value}
theorem ry_iconst (C : rc_C X D cy cc nL own fr lo mc ms b) {n0 : Int} {v : Int32} (hdg : decode cc pc = .ok (.iconst n0, 1)) (hv : Int32.ofInt n0 = v) (k : rc_J X D nL Q b n f ce sl (pc + 1) lv (.int v :: rest)) : rc_J X D nL Q b n f ce sl pc lv (rest) := fun H locs ls hl hP hS => lv_iconst C.1 C.2.1 hdg hv (k H locs ls hl hP hS)
theorem ry_bipush (C : rc_C X D cy cc nL own fr lo mc ms b) {n0 : Int} {v : Int32} (hdg : decode cc pc = .ok (.bipush n0, 2)) (hv : (Int8.ofInt n0).toInt32 = v) (k : rc_J X D nL Q b n f ce sl (pc + 2) lv (.int v :: rest)) : rc_J X D nL Q b n f ce sl pc lv (rest) := fun H locs ls hl hP hS => lv_bipush C.1 C.2.1 hdg hv (k H locs ls hl hP hS)
theorem ry_sipush (C : rc_C X D cy cc nL own fr lo mc ms b) {n0 : Int} {v : Int32} (hdg : decode cc pc = .ok (.sipush n0, 3)) (hv : (Int16.ofInt n0).toInt32 = v) (k : rc_J X D nL Q b n f ce sl (pc + 3) lv (.int v :: rest)) : rc_J X D nL Q b n f ce sl pc lv (rest) := fun H locs ls hl hP hS => lv_sipush C.1 C.2.1 hdg hv (k H locs ls hl hP hS)
theorem ry_lconst (C : rc_C X D cy cc nL own fr lo mc ms b) {n0 : Fin 2} {v : Int64} (hdg : decode cc pc = .ok (.lconst n0, 1)) (hv : Int64.ofNat (n0 : Nat) = v) (k : rc_J X D nL Q b n f ce sl (pc + 1) lv (.long v :: rest)) : rc_J X D nL Q b n f ce sl pc lv (rest) := fun H locs ls hl hP hS => lv_lconst C.1 C.2.1 hdg hv (k H locs ls hl hP hS)
theorem ry_dup (C : rc_C X D cy cc nL own fr lo mc ms b) {va : Value} (hdg : decode cc pc = .ok (.dup, 1)) (hc : va.category = 1) (k : rc_J X D nL Q b n f ce sl (pc + 1) lv (va :: va :: rest)) : rc_J X D nL Q b n f ce sl pc lv (va :: rest) := fun H locs ls hl hP hS => lv_dup C.1 C.2.1 hdg hc (k H locs ls hl hP hS)
theorem ry_ldc (C : rc_C X D cy cc nL own fr lo mc ms b) {index : Nat} {v : Int32} (hq : Jvm.Cond.constant own index v ∈ rr_tb) (hdg : decode cc pc = .ok (.ldc index, 2)) (k : rc_J X D nL Q b n f ce sl (pc + 2) lv (.int v :: rest)) : rc_J X D nL Q b n f ce sl pc lv rest := fun H locs ls hl hP hS => lv_ldc C.1 C.2.1 C.2.2.2.1 (C.2.2.2.2.1 _ hq) hdg (k H locs ls hl hP hS)
theorem ry_iload_n (C : rc_C X D cy cc nL own fr lo mc ms b) {j : Fin 4} {x : Int32} (q : Nat) (hdg : decode cc pc = .ok (.iload_n j, 1)) (hq : lv[q]? = some ((j : Nat), .int x)) (k : rc_J X D nL Q b n f ce sl (pc + 1) lv (.int x :: rest)) : rc_J X D nL Q b n f ce sl pc lv rest := fun H locs ls hl hP hS => lv_iload_n C.1 C.2.1 hdg rfl (lv_at hl q hq) (k H locs ls hl hP hS)
theorem ry_aload_n (C : rc_C X D cy cc nL own fr lo mc ms b) {j : Fin 4} {x : Nat} (q : Nat) (hdg : decode cc pc = .ok (.aload_n j, 1)) (hq : lv[q]? = some ((j : Nat), .ref x)) (k : rc_J X D nL Q b n f ce sl (pc + 1) lv (.ref x :: rest)) : rc_J X D nL Q b n f ce sl pc lv rest := fun H locs ls hl hP hS => lv_aload_n C.1 C.2.1 hdg rfl (lv_at hl q hq) (k H locs ls hl hP hS)
theorem ry_istore_n (C : rc_C X D cy cc nL own fr lo mc ms b) {j : Fin 4} {x : Int32} {lv1 : List (Nat × Value)} (hdg : decode cc pc = .ok (.istore_n j, 1)) (hn : (j : Nat) < nL) (he : ((j : Nat), Value.int x) :: lv.filter (fun q => !(q.1 == (j : Nat)) && !(q.1 + 1 == (j : Nat) && q.2.category == 2)) = lv1) (k : rc_J X D nL Q b n f ce sl (pc + 1) lv1 rest) : rc_J X D nL Q b n f ce sl pc lv (.int x :: rest) := fun H locs ls hl hP hS => lv_istore_n C.1 C.2.1 hdg rfl hl hn he (fun ls1 hl1 => k H locs ls1 hl1 hP hS)
theorem ry_iinc (C : rc_C X D cy cc nL own fr lo mc ms b) {i : Nat} {n0 : Int} {x v : Int32} {lv1 : List (Nat × Value)} (q : Nat) (hdg : decode cc pc = .ok (.iinc i n0, 3)) (hq : lv[q]? = some (i, .int x)) (hv : x + Int32.ofInt n0 = v) (hn : i < nL) (he : (i, Value.int v) :: lv.filter (fun q => !(q.1 == i) && !(q.1 + 1 == i && q.2.category == 2)) = lv1) (k : rc_J X D nL Q b n f ce sl (pc + 3) lv1 rest) : rc_J X D nL Q b n f ce sl pc lv rest := fun H locs ls hl hP hS => lv_iinc (k := q) C.1 C.2.1 hdg hl hq hv hn he (fun ls1 hl1 => k H locs ls1 hl1 hP hS)
theorem ry_goto (C : rc_C X D cy cc nL own fr lo mc ms b) {off : Int} {tgt : Nat} (hdg : decode cc pc = .ok (.goto off, 3)) (ht : (pc : Int) + off = (tgt : Int)) (k : rc_J X D nL Q b n f ce sl tgt lv rest) : rc_J X D nL Q b n f ce sl pc lv rest := fun H locs ls hl hP hS => lv_goto C.1 C.2.1 hdg ht (k H locs ls hl hP hS)
theorem ry_icmp_ge (C : rc_C X D cy cc nL own fr lo mc ms b) {x y : Int32} {off : Int} {tgt : Nat} (hdg : decode cc pc = .ok (.if_icmp .ge off, 3)) (ht : (pc : Int) + off = (tgt : Int)) (kt : y ≤ x → rc_J X D nL Q b n f ce sl tgt lv rest) (kf : ¬ y ≤ x → rc_J X D nL Q b n f ce sl (pc + 3) lv rest) : rc_J X D nL Q b n f ce sl pc lv (.int y :: .int x :: rest) := fun H locs ls hl hP hS => lv_icmp_ge C.1 C.2.1 hdg ht (fun h => kt h H locs ls hl hP hS) (fun h => kf h H locs ls hl hP hS)
theorem rc_room (C : rc_C X D cy cc nL own fr lo mc ms b) : X.2.2.2.1.frames = fr ∧ X.2.2.2.1.locals = lo ∧ X.2.2.2.1.cells = mc ∧ X.2.2.2.1.slots = ms := by rw [C.2.2.2.2.2.2.2.2.2.1]; exact ⟨rfl, rfl, rfl, rfl⟩
theorem ry_mmax (C : rc_C X D cy cc nL own fr lo mc ms b) {index : Nat} {x y v : Int32} (q1 : Cond.methodLink own index Lib.Math.max.name ∈ rr_tb) (hfr : 1 ≤ fr) (hlo : 23 ≤ lo) (hce : ce ≤ mc) (hsl : sl ≤ ms) (hcat : (rest.map fun v => v.category).sum ≤ 8) (hv : rr_mx x y = v) (hdg : decode cc pc = .ok (.invokestatic index, 3)) (k : rc_J X D nL Q b n f ce sl (pc + 3) lv (.int v :: rest)) : rc_J X D nL Q b n f ce sl pc lv (.int y :: .int x :: rest) := by
  intro H locs ls hl hP hS
  subst hv
  have hRR := rc_room C
  have ht := C.2.2.2.2.1
  exact va_mmax C.1 C.2.1 (C.2.2.1.trans hl.1.symm) C.2.2.2.1 (ht _ q1) (ht _ q_156) (ht _ q_7) (ht _ q_157) (by rw [hRR.1]; exact hfr) (by rw [hRR.2.1]; omega) (by rw [hRR.2.2.1]; exact hce) (by rw [hRR.2.2.2]; exact hsl) hdg (k H locs ls hl hP hS)
theorem ry_obj (C : rc_C X D cy cc nL own fr lo mc ms b) {idx : Nat} {a : Nat} (q1 : Cond.methodLink own idx Lib.objectInit ∈ rr_tb) (q2 : Cond.instanceMethod Lib.objectInit ∈ rr_tb) (q3 : Cond.code Lib.objectInit ⟨#[0xb1]⟩ 1 none ∈ rr_tb) (hfr : 1 ≤ fr) (hlo : 20 ≤ lo) (hcat : (rest.map fun v => v.category).sum ≤ 8) (hdg : decode cc pc = .ok (.invokespecial idx, 3)) (k : rc_J X D nL Q b n f ce sl (pc + 3) lv rest) : rc_J X D nL Q b n f ce sl pc lv (.ref a :: rest) := by
  intro H locs ls hl hP hS
  have hRR := rc_room C
  have ht := C.2.2.2.2.1
  refine W.objInit C.1 C.2.1 C.2.2.2.1 (ht _ q1) (ht _ q2) (ht _ q3) rfl (hl.1.trans C.2.2.1.symm) rfl hdg (by rw [hRR.1]; exact hfr) ?_ (k H locs ls hl hP hS)
  have := lv_room (m := X.2.2.2.2.2.1) (pc := pc) (ls := ls) (rest := .ref a :: rest) hcat
  rw [hRR.2.1]
  omega
theorem rc_grow {H H1 : Heap} {e : va_E} (hP : rc_H D b n f H) (z1 : H1.size = H.size + 1) (o1 : ∀ q : Nat, q < H.size → H1[q]? = H[q]?) (he : va_at D rr_cls (b + n, e) H1) : rc_H D b (n + 1) (va_up f n e) H1 := by
  refine ⟨by rw [z1, hP.1]; omega, fun k q hk => ?_⟩
  obtain ⟨hl, rfl⟩ := rc_at_inv hk
  by_cases hkn : k = n
  · subst hkn
    rw [va_up_self]
    exact he
  · rw [va_up_ne _ _ hkn]
    have h := hP.2 k _ (rc_at (by omega))
    exact h.kept (o1 _ (by rw [hP.1]; show b + k < b + n; omega))
theorem rc_S {H H1 : Heap} {locs : List Loc} {s : State} (hS : va_S (fun q => b ≤ q) s.heap H locs) (z1 : H.size ≤ H1.size) (o1 : ∀ q : Nat, q < H.size → H1[q]? = H[q]?) : va_S (fun q => b ≤ q) s.heap H1 locs := ⟨Nat.le_trans hS.1 z1, fun x h1 h2 => (o1 x (Nat.lt_of_lt_of_le h1 hS.1)).trans (hS.2.1 x h1 h2), hS.2.2⟩
theorem ry_new (C : rc_C X D cy cc nL own fr lo mc ms b) {index ci N : Nat} {K0 : String} {T : u_T} {fs : List Value} (ty : Nat → FieldType) (hty : ∀ k, k < N → parseFieldDescriptor (T k).2.2.1 = some (ty k)) (hin : ∀ w ∈ u_ws K0 T N, w ∈ rr_tb) (hc : rr_cls[ci]? = some (K0, T, N)) (q1 : Cond.classLink own index K0 ∈ rr_tb) (q2 : Cond.instantiable K0 N ∈ rr_tb) (q3 : Cond.initialized K0 ∈ rr_tb) (hfs : ∀ j, j < N → defaultValue (ty j) = vp_V fs j) (hce : ce + 1 ≤ mc) (hsl : sl + N ≤ ms) (hdg : decode cc pc = .ok (.new index, 3)) (k : rc_J X D nL Q b (n + 1) (va_up f n (.inr (ci, fs))) (ce + 1) (sl + N) (pc + 3) lv (.ref (b + n) :: rest)) : rc_J X D nL Q b n f ce sl pc lv rest := by
  intro H locs ls hl hP hS
  have hRR := rc_room C
  have ht := C.2.2.2.2.1
  have hKn := C.2.2.2.2.2.1.1.1 ci _ hc
  refine W.newcK C.1 C.2.1 C.2.2.2.1 (ht _ q1) (ht _ q2) (ht _ q3) rfl hdg (by rw [hRR.2.2.1]; exact hce) (by rw [hRR.2.2.2]; exact hsl) hKn.2.1 hP.1 fun H1 kC hkC e1 z1 o1 => ?_
  exact k H1 locs ls hl (rc_grow hP (by rw [z1, hP.1]) (fun q hq => o1 q (by rw [← hP.1]; exact hq)) ⟨_, hc, (u_born ty ht hin hKn hkC e1 hty).to hfs⟩) (rc_S hS (by rw [z1, hP.1]; omega) (fun q hq => o1 q (by rw [← hP.1]; exact hq)))
theorem ry_newa_i (C : rc_C X D cy cc nL own fr lo mc ms b) {x : Int32} {N0 : Nat} (hx : ¬ x < 0) (hN : x.toNatClampNeg = N0) (hbd : N0 ≤ 100000) (hce : ce + 1 ≤ mc) (hsl : sl + N0 ≤ ms) (hdg : decode cc pc = .ok (.newarray .int, 2)) (k : rc_J X D nL Q b (n + 1) (va_up f n (.inl (cy 11, N0, .inl (fun _ => 0)))) (ce + 1) (sl + N0) (pc + 2) lv (.ref (b + n) :: rest)) : rc_J X D nL Q b n f ce sl pc lv (.int x :: rest) := by
  intro H locs ls hl hP hS
  have hRR := rc_room C
  refine va_newaK (atype := .int) C.1 C.2.1 (C.2.2.2.2.1 _ q_95) rfl hdg rfl hx hN (Nat.le_trans (Nat.mul_le_mul hbd (show componentBytes (newarray.typeOf .int) ≤ 8 from by decide)) (Nat.le_of_ble_eq_true rfl)) (by rw [hRR.2.2.1]; exact hce) (by rw [hRR.2.2.2]; exact hsl) hP.1 fun H1 cA e1 z1 o1 hAr hNm => ?_
  have hc : cA = cy 11 := Option.some.inj (hNm.symm.trans C.2.2.2.2.2.1.2.2.2.2.1.1)
  subst hc
  exact k H1 locs ls hl (rc_grow hP (by rw [z1, hP.1]) (fun q hq => o1 q (by rw [← hP.1]; exact hq)) e1) (rc_S hS (by rw [z1, hP.1]; omega) (fun q hq => o1 q (by rw [← hP.1]; exact hq)))
theorem ry_newa_l (C : rc_C X D cy cc nL own fr lo mc ms b) {x : Int32} {N0 : Nat} (hx : ¬ x < 0) (hN : x.toNatClampNeg = N0) (hbd : N0 ≤ 100000) (hce : ce + 1 ≤ mc) (hsl : sl + N0 ≤ ms) (hdg : decode cc pc = .ok (.newarray .long, 2)) (k : rc_J X D nL Q b (n + 1) (va_up f n (.inl (cy 12, N0, .inr (.inl (fun _ => 0))))) (ce + 1) (sl + N0) (pc + 2) lv (.ref (b + n) :: rest)) : rc_J X D nL Q b n f ce sl pc lv (.int x :: rest) := by
  intro H locs ls hl hP hS
  have hRR := rc_room C
  refine va_newaK (atype := .long) C.1 C.2.1 (C.2.2.2.2.1 _ q_94) rfl hdg rfl hx hN (Nat.le_trans (Nat.mul_le_mul hbd (show componentBytes (newarray.typeOf .long) ≤ 8 from by decide)) (Nat.le_of_ble_eq_true rfl)) (by rw [hRR.2.2.1]; exact hce) (by rw [hRR.2.2.2]; exact hsl) hP.1 fun H1 cA e1 z1 o1 hAr hNm => ?_
  have hc : cA = cy 12 := Option.some.inj (hNm.symm.trans C.2.2.2.2.2.1.2.2.2.1.2.2.2)
  subst hc
  exact k H1 locs ls hl (rc_grow hP (by rw [z1, hP.1]) (fun q hq => o1 q (by rw [← hP.1]; exact hq)) e1) (rc_S hS (by rw [z1, hP.1]; omega) (fun q hq => o1 q (by rw [← hP.1]; exact hq)))
theorem ry_newa_z (C : rc_C X D cy cc nL own fr lo mc ms b) {x : Int32} {N0 : Nat} (hx : ¬ x < 0) (hN : x.toNatClampNeg = N0) (hbd : N0 ≤ 100000) (hce : ce + 1 ≤ mc) (hsl : sl + N0 ≤ ms) (hdg : decode cc pc = .ok (.newarray .boolean, 2)) (k : rc_J X D nL Q b (n + 1) (va_up f n (.inl (cy 13, N0, .inl (fun _ => 0)))) (ce + 1) (sl + N0) (pc + 2) lv (.ref (b + n) :: rest)) : rc_J X D nL Q b n f ce sl pc lv (.int x :: rest) := by
  intro H locs ls hl hP hS
  have hRR := rc_room C
  refine va_newaK (atype := .boolean) C.1 C.2.1 (C.2.2.2.2.1 _ q_96) rfl hdg rfl hx hN (Nat.le_trans (Nat.mul_le_mul hbd (show componentBytes (newarray.typeOf .boolean) ≤ 8 from by decide)) (Nat.le_of_ble_eq_true rfl)) (by rw [hRR.2.2.1]; exact hce) (by rw [hRR.2.2.2]; exact hsl) hP.1 fun H1 cA e1 z1 o1 hAr hNm => ?_
  have hc : cA = cy 13 := Option.some.inj (hNm.symm.trans C.2.2.2.2.2.1.2.2.2.2.1.2.1)
  subst hc
  exact k H1 locs ls hl (rc_grow hP (by rw [z1, hP.1]) (fun q hq => o1 q (by rw [← hP.1]; exact hq)) e1) (rc_S hS (by rw [z1, hP.1]; omega) (fun q hq => o1 q (by rw [← hP.1]; exact hq)))
theorem ry_newa_b (C : rc_C X D cy cc nL own fr lo mc ms b) {x : Int32} {N0 : Nat} (hx : ¬ x < 0) (hN : x.toNatClampNeg = N0) (hbd : N0 ≤ 100000) (hce : ce + 1 ≤ mc) (hsl : sl + N0 ≤ ms) (hdg : decode cc pc = .ok (.newarray .byte, 2)) (k : rc_J X D nL Q b (n + 1) (va_up f n (.inl (cy 10, N0, .inl (fun _ => 0)))) (ce + 1) (sl + N0) (pc + 2) lv (.ref (b + n) :: rest)) : rc_J X D nL Q b n f ce sl pc lv (.int x :: rest) := by
  intro H locs ls hl hP hS
  have hRR := rc_room C
  refine va_newaK (atype := .byte) C.1 C.2.1 (C.2.2.2.2.1 _ q_896) rfl hdg rfl hx hN (Nat.le_trans (Nat.mul_le_mul hbd (show componentBytes (newarray.typeOf .byte) ≤ 8 from by decide)) (Nat.le_of_ble_eq_true rfl)) (by rw [hRR.2.2.1]; exact hce) (by rw [hRR.2.2.2]; exact hsl) hP.1 fun H1 cA e1 z1 o1 hAr hNm => ?_
  have hc : cA = cy 10 := Option.some.inj (hNm.symm.trans C.2.2.2.2.2.1.2.2.2.2.1.2.2)
  subst hc
  exact k H1 locs ls hl (rc_grow hP (by rw [z1, hP.1]) (fun q hq => o1 q (by rw [← hP.1]; exact hq)) e1) (rc_S hS (by rw [z1, hP.1]; omega) (fun q hq => o1 q (by rw [← hP.1]; exact hq)))
theorem ry_newq_Big (C : rc_C X D cy cc nL own fr lo mc ms b) {index : Nat} {x : Int32} {N0 : Nat} (q1 : Cond.classLink own index "RootRows$Big" ∈ rr_tb) (hx : ¬ x < 0) (hN : x.toNatClampNeg = N0) (hbd : N0 ≤ 100000) (hce : ce + 1 ≤ mc) (hsl : sl + N0 ≤ ms) (hdg : decode cc pc = .ok (.anewarray index, 3)) (k : rc_J X D nL Q b (n + 1) (va_up f n (.inl (cy 14, N0, .inr (.inr (.inr (.inr (fun _ => none))))))) (ce + 1) (sl + N0) (pc + 3) lv (.ref (b + n) :: rest)) : rc_J X D nL Q b n f ce sl pc lv (.int x :: rest) := by
  intro H locs ls hl hP hS
  have hRR := rc_room C
  subst hN
  refine W.anew C.1 C.2.1 C.2.2.2.1 (C.2.2.2.2.1 _ q1) (va_AO.use C.2.2.2.2.2.1.2.1.1) rfl hdg rfl hx (Nat.le_trans (Nat.mul_le_mul_right 4 hbd) (Nat.le_of_ble_eq_true rfl)) (by rw [hRR.2.2.1]; exact hce) (by rw [hRR.2.2.2]; exact hsl) fun cA kA comp f1 f2 f3 f4 => ?_
  generalize hH1 : H.push ({ cls := cA, slots := Array.replicate x.toNatClampNeg .null, vm := .none } : Cell) = H1
  have z1 : H1.size = H.size + 1 := by rw [← hH1, Array.size_push]
  have e1 : H1[H.size]? = some (arrV cA x.toNatClampNeg (fun _ => .null)) := by rw [← hH1, Array.getElem?_push_size, ← arrV_new]
  have o1 : ∀ q : Nat, q < H.size → H1[q]? = H[q]? := fun q hq => by rw [← hH1, Array.getElem?_push, if_neg (Nat.ne_of_lt hq)]
  have hc : cA = cy 14 := Option.some.inj (f1.symm.trans C.2.2.2.2.2.1.2.1.2)
  subst hc
  have he : va_at D rr_cls (b + n, (.inl (cy 14, x.toNatClampNeg, .inr (.inr (.inr (.inr (fun _ => none))))))) H1 := by
    show H1[b + n]? = _
    rw [← hP.1, e1]
    rfl
  have k0 := k H1 locs ls hl (rc_grow hP z1 o1 he) (rc_S hS (by rw [z1]; omega) o1)
  rw [← hP.1] at k0
  exact k0
theorem ry_newq_Tray (C : rc_C X D cy cc nL own fr lo mc ms b) {index : Nat} {x : Int32} {N0 : Nat} (q1 : Cond.classLink own index "RootRows$Tray" ∈ rr_tb) (hx : ¬ x < 0) (hN : x.toNatClampNeg = N0) (hbd : N0 ≤ 100000) (hce : ce + 1 ≤ mc) (hsl : sl + N0 ≤ ms) (hdg : decode cc pc = .ok (.anewarray index, 3)) (k : rc_J X D nL Q b (n + 1) (va_up f n (.inl (cy 15, N0, .inr (.inr (.inr (.inr (fun _ => none))))))) (ce + 1) (sl + N0) (pc + 3) lv (.ref (b + n) :: rest)) : rc_J X D nL Q b n f ce sl pc lv (.int x :: rest) := by
  intro H locs ls hl hP hS
  have hRR := rc_room C
  subst hN
  refine W.anew C.1 C.2.1 C.2.2.2.1 (C.2.2.2.2.1 _ q1) (va_AO.use C.2.2.2.2.2.1.2.2.1.1) rfl hdg rfl hx (Nat.le_trans (Nat.mul_le_mul_right 4 hbd) (Nat.le_of_ble_eq_true rfl)) (by rw [hRR.2.2.1]; exact hce) (by rw [hRR.2.2.2]; exact hsl) fun cA kA comp f1 f2 f3 f4 => ?_
  generalize hH1 : H.push ({ cls := cA, slots := Array.replicate x.toNatClampNeg .null, vm := .none } : Cell) = H1
  have z1 : H1.size = H.size + 1 := by rw [← hH1, Array.size_push]
  have e1 : H1[H.size]? = some (arrV cA x.toNatClampNeg (fun _ => .null)) := by rw [← hH1, Array.getElem?_push_size, ← arrV_new]
  have o1 : ∀ q : Nat, q < H.size → H1[q]? = H[q]? := fun q hq => by rw [← hH1, Array.getElem?_push, if_neg (Nat.ne_of_lt hq)]
  have hc : cA = cy 15 := Option.some.inj (f1.symm.trans C.2.2.2.2.2.1.2.2.1.2)
  subst hc
  have he : va_at D rr_cls (b + n, (.inl (cy 15, x.toNatClampNeg, .inr (.inr (.inr (.inr (fun _ => none))))))) H1 := by
    show H1[b + n]? = _
    rw [← hP.1, e1]
    rfl
  have k0 := k H1 locs ls hl (rc_grow hP z1 o1 he) (rc_S hS (by rw [z1]; omega) o1)
  rw [← hP.1] at k0
  exact k0
theorem ry_mna (C : rc_C X D cy cc nL own fr lo mc ms b) {index : Nat} (q1 : Cond.classLink own index "[[J" ∈ rr_tb) (hce : ce + 10 ≤ mc) (hsl : sl + 90 ≤ ms) (hdg : decode cc pc = .ok (.multianewarray index 2, 4)) (k : ∀ g : Nat → va_E, g n = .inl (cy 16, 9, .inr (.inr (.inr (.inr (fun j => if j < 9 then some (b + (n + 1 + j)) else none))))) → (∀ j, j < 9 → g (n + 1 + j) = .inl (cy 12, 9, .inr (.inl (fun _ => 0)))) → (∀ i, i < n → g i = f i) → rc_J X D nL Q b (n + 10) g (ce + 10) (sl + 90) (pc + 4) lv (.ref (b + n) :: rest)) : rc_J X D nL Q b n f ce sl pc lv (.int 9 :: .int 9 :: rest) := by
  intro H locs ls hl hP hS
  have hRR := rc_room C
  intro T hT Xs
  have hAO := C.2.2.2.2.2.1.2.2.2.1
  obtain ⟨vm₁, cA, comp, -, fA, fC, hO, -, X', step⟩ := Xs.multianewarray2F C.1 (own := own) (index := index) (ty := .long) C.2.2.2.1 (by rw [rc_jj]; exact C.2.2.2.2.1 _ q1) hAO.1 (C.2.2.2.2.1 _ q_94) (g := F0 X.2.2.2.2.2.1 pc ls (.int 9 :: .int 9 :: rest)) rfl (by rw [C.2.1]; exact hdg) rfl (by decide) (by decide) (Nat.le_of_ble_eq_true rfl) (Nat.le_of_ble_eq_true rfl) (Nat.le_of_ble_eq_true rfl) rfl rfl (by rw [hRR.2.2.1]; exact hce) (by rw [hRR.2.2.2]; exact hsl)
  have e1 : cA = cy 16 := Option.some.inj (fA.symm.trans hAO.2.1)
  have e2 : comp = cy 12 := Option.some.inj (fC.symm.trans hAO.2.2.1)
  subst e1
  subst e2
  have h9 : (9 : Int32).toNatClampNeg = 9 := by decide
  rw [h9] at X' step
  generalize hF : Jvm.Free.Multi.fill (T.setVm vm₁) (cy 16) (cy 12) 9 9 (defaultValue .long) 9 = F at X' step
  have hTh : (T.setVm vm₁).heap = H := hT
  obtain ⟨f1, f2, -, -⟩ := Jvm.Free.Multi.fill_facts (T.setVm vm₁) (cy 16) (cy 12) 9 9 (defaultValue .long) 9
  rw [hF, hTh] at f1 f2
  have hold : ∀ x : Nat, x < H.size → F.heap[x]? = H[x]? := fun x hx => by
    have := Jvm.Free.Multi.fill_old (T.setVm vm₁) (cy 16) (cy 12) 9 9 (defaultValue .long) (a := x) (by rw [hTh]; exact hx) 9
    rw [hF, hTh] at this
    exact this
  have hrow : ∀ j : Nat, j < 9 → F.heap[H.size + 1 + j]? = some (vp_cell (cy 12) (9, .inr (.inl (fun _ => 0)))) := fun j hj => by
    have := Jvm.Free.Multi.fill_inner (T.setVm vm₁) (cy 16) (cy 12) 9 9 (defaultValue .long) 9 j hj
    rw [hF, hTh] at this
    rw [this]
    show some (({ cls := cy 12, slots := Array.replicate 9 (.long 0), vm := .none } : Cell)) = _
    rw [arrV_new]
    rfl
  rw [vr_outer (cy 16) 9 H.size 9] at f2
  obtain ⟨t, a1, b1⟩ := k (fun i => if i < n then f i else if i = n then .inl (cy 16, 9, .inr (.inr (.inr (.inr (fun j => if j < 9 then some (b + (n + 1 + j)) else none))))) else .inl (cy 12, 9, .inr (.inl (fun _ => 0)))) (by simp) (fun j hj => by rw [if_neg (by omega), if_neg (by omega)]) (fun i hi => by rw [if_pos hi]) F.heap locs ls hl ⟨by rw [f1, hP.1]; omega, fun q w hq => by
      obtain ⟨hl9, rfl⟩ := rc_at_inv hq
      by_cases h1 : q < n
      · rw [if_pos h1]
        exact (hP.2 q _ (rc_at h1)).kept (hold _ (by rw [hP.1]; show b + q < b + n; omega))
      · rw [if_neg h1]
        by_cases h2 : q = n
        · subst h2
          rw [if_pos rfl]
          show F.heap[b + q]? = _
          rw [← hP.1, f2]
          refine Eq.trans ?_ (congrArg some (vp_cell_q (cy 16) 9 (fun j => if j < 9 then some (b + (q + 1 + j)) else none))).symm
          congr 2
          funext j
          by_cases hj : j < 9
          · simp only [hj, if_true]
            rw [hP.1, show b + q + 1 + j = b + (q + 1 + j) by omega]
          · simp only [hj, if_false]
        · rw [if_neg h2]
          show F.heap[b + q]? = _
          rw [show b + q = H.size + 1 + (q - n - 1) by rw [hP.1]; omega, hrow (q - n - 1) (by omega)]⟩ (rc_S hS (by rw [f1]; omega) hold) F rfl X'
  refine ⟨t, step t ?_, b1⟩
  have e : T.heap.size = b + n := by rw [hT, hP.1]
  rw [e]
  exact a1
theorem ry_put (C : rc_C X D cy cc nL own fr lo mc ms b) {index : Nat} (ci j : Nat) {i : Nat} {K0 : String} {T : u_T} {M : Nat} {v : Value} {ty : FieldType} {fs fs1 : List Value} (ty0 : Nat → FieldType) (hty : ∀ k, k < M → parseFieldDescriptor (T k).2.2.1 = some (ty0 k)) (hnm : ∀ a, a < M → ∀ b, b < M → a ≠ b → (T a).2.1 ≠ (T b).2.1) (hin : ∀ w ∈ u_ws K0 T M, w ∈ rr_tb) (hc : rr_cls[ci]? = some (K0, T, M)) (hj : j < M) (hlink : Cond.fieldLink own index (T j).1 (T j).2.1 (T j).2.2.1 ∈ rr_tb) (hdecl : (T j).1 = own) (hd : parseFieldDescriptor (T j).2.2.1 = some ty) (hi : i < n) (hf : f i = .inr (ci, fs)) (hlen : j < fs.length) (he : fs.set j v = fs1) (hn : narrow ty v = v) (hfit : fits ty v = true) (hdg : decode cc pc = .ok (.putfield index, 3)) (k : rc_J X D nL Q b n (va_up f i (.inr (ci, fs1))) ce sl (pc + 3) lv rest) : rc_J X D nL Q b n f ce sl pc lv (v :: .ref (b + i) :: rest) := by
  intro H locs ls hl hP hS
  subst he
  have hq := rc_at (b := b) (f := f) hi
  rw [hf] at hq
  have kk : ∀ (H1 : Heap) (locs1 : List Loc), H1.size = H.size → va_P D rr_cls ((rc_w b n f).set i (b + i, .inr (ci, fs.set j v))) H1 → va_S (fun q => b ≤ q) X.2.2.2.2.1.heap H1 locs1 → W X.1 X.2.1 X.2.2.1 X.2.2.2.1 X.2.2.2.2.1 X.2.2.2.2.2.1 X.2.2.2.2.2.2.1 X.2.2.2.2.2.2.2.1 X.2.2.2.2.2.2.2.2.1 X.2.2.2.2.2.2.2.2.2 H1 locs1 ce sl Q (F0 X.2.2.2.2.2.1 (pc + 3) ls rest) := fun H1 locs1 hz hP1 hS1 => by
    rw [rc_set hi] at hP1
    exact k H1 locs1 ls hl ⟨by rw [hz, hP.1], hP1⟩ hS1
  have hK := C.2.2.2.2.2.1.1
  have hap := va_apart (own := own) C.2.2.2.2.1 hin ty0 hty hnm hK hc
  obtain ⟨r, h1, cell, q1, q2, q3, q4⟩ := hP.2 i _ hq
  have hr : r = (K0, T, M) := Option.some.inj (h1.symm.trans hc)
  subst hr
  obtain ⟨hS9, hfc, kC, hkC, hkind⟩ := hK.1 ci _ hc
  obtain ⟨cf, kf, fi, fd, hfd, hsl⟩ := hS9 j hj
  have hlay := C.2.2.2.2.1 _ (hin _ (u_in_lay hj))
  have hst := (u_facts hfc hkC (u_lays C.2.2.2.2.1 hin hj) hfd).1
  by_cases hfin : (T j).2.2.2 = true
  · unfold u_lay at hlay
    rw [if_pos hfin] at hlay
    have hcf : X.2.2.2.2.2.1.cls = cf := by
      obtain ⟨_, _, c', _, _, _, -, -, hf', -, -, -, hown2, -⟩ := Cond.laysFinal_spec hlay
      have e1 : c' = cf := by have := hfd.symm.trans hf'; simp at this; exact this.1.symm
      rw [hdecl] at hown2
      rw [← e1]; exact Option.some.inj (C.2.2.2.1.symm.trans hown2)
    have h6 := u_fits hfc hkC hkind (Or.inr hlay) hfd hd hn hfit
    refine W.putFinK C.1 C.2.1 C.2.2.2.1 (C.2.2.2.2.1 _ hlink) hfd hst hcf C.2.2.2.2.2.2.2.2.1 (by rw [q2]; exact h6) q1 q3 (by rw [hsl]; exact k2_hasslot (q4 j hj)) rfl rfl hdg fun H' e1 e2 e3 => ?_
    rw [hsl] at e1 ⊢
    exact kk H' _ e2 (hP.2.set rc_D hq ⟨_, hc, t_OB.to (V := updV (vp_V fs) j v) ⟨_, e1, q2, q3, t_set q4 hap hj v⟩ (fun z _ => vp_updV_set hlen v z)⟩ e3) (hS.put e2 e3 (Nat.le_add_right _ _))
  · unfold u_lay at hlay
    rw [if_neg hfin] at hlay
    have h6 := u_store hfc hkC hkind hlay hfd hd hn hfit
    refine W.putK C.1 C.2.1 (f := fd) ⟨C.2.2.2.1, C.2.2.2.2.1 _ hlink, ⟨_, _, _, hfd⟩, hst⟩ (by rw [q2]; exact h6) q1 q3 (by rw [hsl]; exact k2_hasslot (q4 j hj)) rfl rfl hdg fun H' e1 e2 e3 => ?_
    rw [hsl] at e1 ⊢
    exact kk H' _ e2 (hP.2.set rc_D hq ⟨_, hc, t_OB.to (V := updV (vp_V fs) j v) ⟨_, e1, q2, q3, t_set q4 hap hj v⟩ (fun z _ => vp_updV_set hlen v z)⟩ e3) (hS.put e2 e3 (Nat.le_add_right _ _))
theorem ry_get (C : rc_C X D cy cc nL own fr lo mc ms b) {index : Nat} (ci j : Nat) {i : Nat} {K0 : String} {T : u_T} {M : Nat} {v : Value} {fs : List Value} (hin : ∀ w ∈ u_ws K0 T M, w ∈ rr_tb) (hc : rr_cls[ci]? = some (K0, T, M)) (hj : j < M) (hlink : Cond.fieldLink own index (T j).1 (T j).2.1 (T j).2.2.1 ∈ rr_tb) (hi : i < n) (hf : f i = .inr (ci, fs)) (hv : fs[j]? = some v) (hdg : decode cc pc = .ok (.getfield index, 3)) (k : rc_J X D nL Q b n f ce sl (pc + 3) lv (v :: rest)) : rc_J X D nL Q b n f ce sl pc lv (.ref (b + i) :: rest) := by
  intro H locs ls hl hP hS
  have hq := rc_at (b := b) (f := f) hi
  rw [hf] at hq
  exact va_get C.1 C.2.1 C.2.2.2.2.1 hin C.2.2.2.1 C.2.2.2.2.2.1.1 hP.2 i hq hc j hj (C.2.2.2.2.1 _ hlink) (fun _ h => h) hv hdg (k H locs ls hl hP hS)
theorem ry_alen (C : rc_C X D cy cc nL own fr lo mc ms b) {i kd N0 : Nat} {v : Int32} {g : Nat → Option Nat} (hkd : kd = 14 ∨ kd = 15) (hi : i < n) (hf : f i = .inl (cy kd, N0, .inr (.inr (.inr (.inr g))))) (hv : Int32.ofNat N0 = v) (hdg : decode cc pc = .ok (.arraylength, 1)) (k : rc_J X D nL Q b n f ce sl (pc + 1) lv (.int v :: rest)) : rc_J X D nL Q b n f ce sl pc lv (.ref (b + i) :: rest) := by
  intro H locs ls hl hP hS
  have hq := rc_at (b := b) (f := f) hi
  rw [hf] at hq
  rcases hkd with h | h <;> subst h
  · exact va_alen C.1 C.2.1 C.2.2.2.2.2.1.1 hP.2 i 4 hq rfl hv hdg (k H locs ls hl hP hS)
  · exact va_alen C.1 C.2.1 C.2.2.2.2.2.1.1 hP.2 i 5 hq rfl hv hdg (k H locs ls hl hP hS)
theorem ry_aast (C : rc_C X D cy cc nL own fr lo mc ms b) {i v kd ci t0 N0 : Nat} {x : Int32} {r : vw_C} {vs : List Value} {g : Nat → Option Nat} (hkd : (rc_ty cy)[t0]? = some (cy kd, .object r.1)) (hc : rr_cls[ci]? = some r) (hi : i < n) (hf : f i = .inl (cy kd, N0, .inr (.inr (.inr (.inr g))))) (hv : v < n) (hfv : f v = .inr (ci, vs)) (hin : vp_in x N0) (hdg : decode cc pc = .ok (.aastore, 1)) (k : rc_J X D nL Q b n (va_up f i (.inl (cy kd, N0, .inr (.inr (.inr (.inr (va_up g x.toNatClampNeg (some (b + v)))))))) ) ce sl (pc + 1) lv rest) : rc_J X D nL Q b n f ce sl pc lv (.ref (b + v) :: .int x :: .ref (b + i) :: rest) := by
  intro H locs ls hl hP hS
  have hq := rc_at (b := b) (f := f) hi
  rw [hf] at hq
  have hqv := rc_at (b := b) (f := f) hv
  rw [hfv] at hqv
  have hlt : x.toNatClampNeg < N0 := Nat.not_le.mp fun q => hin (Or.inr q)
  have h0 : ¬ x < 0 := fun q => hin (Or.inl q)
  have hK := C.2.2.2.2.2.1.1
  obtain ⟨r', hr', cellV, g1, g2, g3, -⟩ := hP.2 v _ hqv
  have hcls := (hK.1 ci r hc).2
  obtain ⟨kA, comp, k1, k2, k3, -⟩ := (hK.2 t0 _ hkd).2
  have hcomp : comp = D.1 ci := Option.some.inj (k3.symm.trans hcls.1)
  subst hcomp
  obtain ⟨kC, hkC, -⟩ := hcls.2
  refine W.aast C.1 C.2.1 (hP.2 i _ hq) (fun q h => by cases h) (fun h => by cases h) k1 k2 rfl hkC ⟨h0, by show _ < (arrV _ _ _).slots.size; rw [arrV_size]; exact hlt⟩ g1 (fun q h => by rw [g3] at h; cases h) (by rw [g2]; exact hkC) (by rw [g2]; exact va_assign hcls) rfl rfl hdg fun H1 e z oq => ?_
  have hset : va_P D rr_cls ((rc_w b n f).set i (b + i, .inl (cy kd, N0, .inr (.inr (.inr (.inr (va_up g x.toNatClampNeg (some (b + v))))))))) H1 := hP.2.set rc_D hq (by
    show H1[b + i]? = some (vp_cell _ _)
    rw [e]
    rw [vp_cell_q, vp_cell_q, arrV_store]
    congr 2
    funext q
    by_cases hq : q = x.toNatClampNeg
    · subst hq
      simp [updV, va_up, va_rf]
    · simp [updV, va_up, hq]) oq
  rw [rc_set hi] at hset
  exact k H1 _ ls hl ⟨by rw [z, hP.1], hset⟩ (hS.put z oq (Nat.le_add_right _ _))
theorem ry_lv {lv1 : List (Nat × Value)} {st : List Value} (ks : List Nat) (he : lv_pick lv ks = lv1) (k : rc_J X D nL Q b n f ce sl pc lv1 st) : rc_J X D nL Q b n f ce sl pc lv st := fun H locs ls hl hP hS => k H locs ls (lv_sub hl ks he) hP hS
theorem rc_blind {av : List Value} : FrameBlind (va_Pc av (rc_B D cy b n f)) := fun a U g mk q => by
  obtain ⟨q0, qP, qX, qb⟩ := q
  exact ⟨q0, qP, qX, qb⟩
theorem rc_Xmoved {u U : State} (hW : u.WarmedH U.vm) (h : rc_X D cy u) : rc_X D cy U := by
  obtain ⟨h1, ⟨h2, h3⟩, ⟨h4, h5⟩, ⟨h6, h7, h8, h8b⟩, ⟨h9, h10, h11⟩, h12, h13, h14⟩ := h
  have hf : ∀ x, U.vm.findClass x = u.vm.findClass x := fun x => hW.alike.findClass x _
  refine ⟨va_K.moved hW.alike h1, ⟨va_AO.moved hW.alike h2, by rw [hf]; exact h3⟩, ⟨va_AO.moved hW.alike h4, by rw [hf]; exact h5⟩, ⟨?_, by rw [hf]; exact h7, by rw [hf]; exact h8, by rw [hf]; exact h8b⟩, ⟨by rw [hf]; exact h9, by rw [hf]; exact h10, by rw [hf]; exact h11⟩, va_Nw.warmM hW h12, va_Nw.warmM hW h13, va_Nw.warmM hW h14⟩
  exact Jvm.Stand.arrayOver_alikeB hW.alike h6
theorem rc_callk {st0 : List Value} {a : Array Value} {mc0 ms0 : Nat} {H : Heap} {locs : List Loc} {ls : Array Slot} {Φ : Nat → (Nat → va_E) → Prop} (hl : lv_has ls nL lv) (hr : va_Run X.1 X.2.1 X.2.2.1 X.2.2.2.1 X.2.2.2.2.1 X.2.2.2.2.2.1 X.2.2.2.2.2.2.1 X.2.2.2.2.2.2.2.1 X.2.2.2.2.2.2.2.2.1 X.2.2.2.2.2.2.2.2.2 H locs ce sl mc0 ms0 (F0 X.2.2.2.2.2.1 pc ls st0) rest (rc_Q D cy b Φ a) (fun q => b ≤ q)) (hS : va_S (fun q => b ≤ q) X.2.2.2.2.1.heap H locs) (kk : ∀ (n1 : Nat) (f1 : Nat → va_E), Φ n1 f1 → rc_J X D nL Q b n1 f1 (ce + mc0) (sl + ms0) (pc + 3) lv rest) : W X.1 X.2.1 X.2.2.1 X.2.2.2.1 X.2.2.2.2.1 X.2.2.2.2.2.1 X.2.2.2.2.2.2.1 X.2.2.2.2.2.2.2.1 X.2.2.2.2.2.2.2.2.1 X.2.2.2.2.2.2.2.2.2 H locs ce sl Q (F0 X.2.2.2.2.2.1 pc ls st0) := by
  intro T hT Y
  obtain ⟨v, st₀, t, T', L, h0, Y', hL, e1, e2, ⟨hv, ⟨n1, f1, hΦ, hP1, -, -⟩, hz, hk⟩, st⟩ := hr T hT Y
  cases hv
  rw [h0] at hz hk
  obtain ⟨t2, a1, b1⟩ := kk n1 f1 hΦ T'.heap (locs ++ L) ls hl (by rw [e1]; exact hP1) ⟨Nat.le_trans hS.1 (by rw [e1]; exact hz), fun q h1 h2 => by rw [e1, hk q (Nat.lt_of_lt_of_le h1 hS.1) h2]; exact hS.2.1 q h1 h2, fun q hq => by
      rcases List.mem_append.mp hq with h | h
      · exact hS.2.2 q h
      · exact hL q h⟩ T' rfl Y'
  exact ⟨t2, st t2 a1, b1⟩
theorem ry_call (C : rc_C X D cy cc nL own fr lo mc ms b) {l : Launch} {y : MethodName} {c0 : ByteArray} {n0 fr0 lo0 mc0 ms0 index np i : Nat} {As st0 : List Value} {Φ : Nat → (Nat → va_E) → Prop} (hll : X.2.1 = l) (hM : rc_Met l D cy y c0 n0 fr0 lo0 mc0 ms0 (.ref (b + i) :: As) b n f Φ)
    (q1 : Cond.methodLink own index y ∈ rr_tb) (q2 : Cond.instanceMethod y ∈ rr_tb) (q4 : Cond.initialized y.cls ∈ rr_tb) (q5 : Cond.code y c0 n0 none ∈ rr_tb) (hy : y.name = "<init>") (hd : y.cls ≠ "java/lang/invoke/MethodHandle" ∧ y.cls ≠ "java/lang/invoke/VarHandle" ∧ (parseMethodDescriptor y.desc).map (fun d => d.parameters.length) = some np)
    (hR : fr0 + 1 ≤ fr ∧ 8 + (n0 + 11) + lo0 ≤ lo) (hce : ce + mc0 ≤ mc) (hsl : sl + ms0 ≤ ms) (hn : As.length = np) (hst : st0 = As.reverse ++ .ref (b + i) :: rest) (hcat : (rest.map fun v => v.category).sum ≤ 8) (hdg : decode cc pc = .ok (.invokespecial index, 3)) (k : ∀ (n1 : Nat) (f1 : Nat → va_E), Φ n1 f1 → rc_J X D nL Q b n1 f1 (ce + mc0) (sl + ms0) (pc + 3) lv rest) : rc_J X D nL Q b n f ce sl pc lv st0 := by
  intro H locs ls hl hP hS
  subst hll
  have hRR := rc_room C
  have ht := C.2.2.2.2.1
  exact rc_callk hl (va_runI (As := As) (rest := rest) (b := b + i) (n := np) ⟨C.1, C.2.1, C.2.2.1, C.2.2.2.1, ht⟩ hM ⟨callB_of np ht (rr_goodc q5) rfl rfl rfl (ht _ q4) (ht _ q1) hd ⟨by rw [hRR.1]; exact hR.1, by rw [hRR.2.1]; exact hR.2⟩, hy, ht _ q2⟩ ⟨rc_blind, fun U hU hW => ⟨rfl, by rw [hU]; exact hP, rc_Xmoved hW C.2.2.2.2.2.1, by rw [hU, hP.1]; exact Nat.le_add_right _ _⟩⟩ rfl hn hl.1 hst (lv_room hcat) hdg ⟨by rw [hRR.2.2.1]; exact hce, by rw [hRR.2.2.2]; exact hsl⟩) hS k
theorem ry_callN (C : rc_C X D cy cc nL own fr lo mc ms b) {l : Launch} {y : MethodName} {host : String} {c0 : ByteArray} {n0 fr0 lo0 mc0 ms0 index np i : Nat} {As st0 : List Value} {Φ : Nat → (Nat → va_E) → Prop} (hll : X.2.1 = l) (hM : rc_Met l D cy y c0 n0 fr0 lo0 mc0 ms0 (.ref (b + i) :: As) b n f Φ)
    (q1 : va_Nw (.methodLinkNest own index y host) X.2.2.2.2.1) (q2 : Cond.instanceMethod y ∈ rr_tb) (q4 : Cond.initialized y.cls ∈ rr_tb) (q5 : Cond.code y c0 n0 none ∈ rr_tb) (hy : y.name = "<init>") (hd : y.cls ≠ "java/lang/invoke/MethodHandle" ∧ y.cls ≠ "java/lang/invoke/VarHandle" ∧ (parseMethodDescriptor y.desc).map (fun d => d.parameters.length) = some np)
    (hR : fr0 + 1 ≤ fr ∧ 8 + (n0 + 11) + lo0 ≤ lo) (hce : ce + mc0 ≤ mc) (hsl : sl + ms0 ≤ ms) (hn : As.length = np) (hst : st0 = As.reverse ++ .ref (b + i) :: rest) (hcat : (rest.map fun v => v.category).sum ≤ 8) (hdg : decode cc pc = .ok (.invokespecial index, 3)) (k : ∀ (n1 : Nat) (f1 : Nat → va_E), Φ n1 f1 → rc_J X D nL Q b n1 f1 (ce + mc0) (sl + ms0) (pc + 3) lv rest) : rc_J X D nL Q b n f ce sl pc lv st0 := by
  intro H locs ls hl hP hS
  subst hll
  have hRR := rc_room C
  have ht := C.2.2.2.2.1
  exact rc_callk hl (va_runIN (As := As) (rest := rest) (b := b + i) (n := np) ⟨C.1, C.2.1, C.2.2.1, C.2.2.2.1, ht⟩ hM ⟨va_cnB np ht (rr_goodc q5) rfl rfl rfl q1 (ht _ q4) hd ⟨by rw [hRR.1]; exact hR.1, by rw [hRR.2.1]; exact hR.2⟩, hy, ht _ q2⟩ ⟨rc_blind, fun U hU hW => ⟨rfl, by rw [hU]; exact hP, rc_Xmoved hW C.2.2.2.2.2.1, by rw [hU, hP.1]; exact Nat.le_add_right _ _⟩⟩ rfl hn hl.1 hst (lv_room hcat) hdg ⟨by rw [hRR.2.2.1]; exact hce, by rw [hRR.2.2.2]; exact hsl⟩) hS k
end RYS
section RYT
variable {X : rr_X} {D : va_G} {cy : Nat → ClassId} {nL : Nat} {cc : ByteArray} {own : String} {fr lo mc ms b n : Nat} {f : Nat → va_E} {pc : Nat} {lv : List (Nat × Value)}
def rc_E (X : rr_X) (D : va_G) (cy : Nat → ClassId) (b : Nat) (Φ : Nat → (Nat → va_E) → Prop) (mc ms : Nat) : State → Prop := MQ X.2.2.2.2.2.2.2.1 (rc_Q D cy b Φ) X.2.2.2.2.2.2.1 X.2.2.2.2.1 mc ms (fun q => b ≤ q)
theorem ry_ret (C : rc_C X D cy cc nL own fr lo mc ms b) {Φ : Nat → (Nat → va_E) → Prop} (hdg : decode cc pc = .ok (.return_, 1)) (hΦ : Φ n f) : rc_J X D nL (rc_E X D cy b Φ mc ms) b n f mc ms pc lv [] :=
  fun H locs ls hl hP hS => W.vret C.1 C.2.1 C.2.2.2.2.2.2.2.1 (fun t ht hW => ⟨rfl, ⟨n, f, hΦ, by rw [ht]; exact hP, rc_Xmoved hW C.2.2.2.2.2.1, by rw [ht, hP.1]; exact Nat.le_add_right _ _⟩, hS.F ht⟩) hS.2.2 hdg C.2.2.2.2.2.2.1
theorem rc_enter {l : Launch} {y : MethodName} {maxL : Nat} {av : List Value} {Φ : Nat → (Nat → va_E) → Prop} {lv0 : List (Nat × Value)} (hy : plainName y.cls = true) (hin : y.name = "<init>") (hlen : (lg_sl av).length ≤ maxL) (hlv : lv_args 0 av = lv0)
    (body : ∀ X : rr_X, X.2.1 = l → rc_C X D cy cc maxL y.cls fr lo mc ms b → rc_J X D maxL (rc_E X D cy b Φ mc ms) b n f 0 0 0 lv0 []) : rc_Met l D cy y cc maxL fr lo mc ms av b n f Φ := by
  refine Met.ofW (cc := cc) (maxL := maxL) (ret := none) hy rfl ?_
  intro p e s m args below meth c s₁ B hml hv
  obtain ⟨rfl, hP, hX, hbs⟩ := hv
  have hts := atoms_spec (ws := .code y cc maxL none :: rr_tb) B.pre
  have hown : s.vm.findClass y.cls = some m.cls := findClass_of_methodNamed B.named
  have hnm : meth.name = "<init>" := (name_of_methodNamed B.named B.method).1.trans hin
  have hl := lv_entry av (n := maxL) hlen
  rw [hlv] at hl
  rw [lg_entry_eq]
  exact body (p, l, e, { frames := fr, cells := mc, slots := ms, locals := lo }, s, m, av.toArray, below, meth, c) rfl ⟨B.exec, B.bytes, hml, hown, fun w h => hts w (List.mem_cons_of_mem _ h), hX, B.notSynchronized, B.returns, hnm, rfl, hbs⟩ s.heap [] _ hl hP va_S.rf
end RYT
