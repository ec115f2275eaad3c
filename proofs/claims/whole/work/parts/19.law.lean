/-! THE CLAIM OUT OF ONE WALK OF THE LAW'S BODY. Your part is whole_start (and what it stands on); all else here is the same for every law, but numbers. -/
def R_law : String := "RootRowsLaw"
def lw_P (b : Addr) (xs : List Int32) (args : Array Value) (s : State) : Prop := args = #[.ref b] ∧ s.IntsAt b xs ∧ xs.length ≤ 3072 ∧ (Jvm.Cond.and given_1 narrow_1).before args s = true
def lw_Q (_ : Array Value) (s : State) (o : Outcome) (t : State) : Prop := o = .returned (some (.int 1)) ∧ Framed s o t [] 600000 7302250
def lw_Z (below : List Frame) (a : Array Value) (s : State) : State → Prop := fun t => ∃ o, t.status = .running ∧ Ended t below o ∧ lw_Q a s o t
/-- the law's own end, with 1 on the stack, nothing written that was there before, its room as the claim has it -/
theorem lw_ret {p : Program} {l : Launch} {e : Env} {s : State} {m : MethodId} {below : List Frame} {meth : Method} {c : Code} {b : Nat} (hx : p.tables.exec = Jvm.exec) (hb : c.code = code) (hr : meth.sig.returnType = ret) (hlocks : meth.locks = false) {pc : Nat} {H : Heap} {ls : Array Slot} (hdg : decode code pc = .ok (.ireturn, 1)) : W p l e room_1 s m #[Value.ref b] below meth c H [] 600000 7302250 (lw_Z below #[Value.ref b] s) (F0 m pc ls [.int 1]) := by
  intro T hT X
  obtain ⟨fs, hret, hrun, hended, hW, hframe⟩ := X.leave (v := some (.int 1)) (hlocks := hlocks) (fun h => by rw [hr] at h; cases h)
  have hmeth' : T.vm.method? m = some meth := X.method'
  refine ⟨T.setFrames fs, ?_, .returned (some (.int 1)), hrun, hended, rfl, ⟨_, rfl⟩, hW, hframe⟩
  jvm_step X.here [X.here.top, hx, hb, hdg, hmeth', hr, ret, narrow_b1]
  (try refine ⟨rfl, ?_⟩); (try refine ⟨rfl, ?_⟩)
  first | (intro acts; rw [hret _ acts rfl rfl rfl]) | rw [hret _ _ rfl rfl rfl]
  exact Steps.refl _
/-- what holds at the law's entry: the machine, the code, the tables' words (any of lw_tbl by 'hts w (by decide +kernel)'), the script of L ints xs at the cell b, what the Statement gives of the start (any of its parts by flat_of_before) -/
def lw_At (p : Program) (s : State) (m : MethodId) (meth : Method) (c : Code) (b L : Nat) (xs : Nat → Int32) : Prop :=
  p.tables.exec = Jvm.exec ∧ c.code = code ∧ meth.sig.returnType = ret ∧ c.maxLocals = 4 ∧ s.vm.findClass R_law = some m.cls ∧ (∀ w ∈ lw_tbl, w.before #[Value.ref b] s = true) ∧ va_X b L xs s s.heap ∧ b < s.heap.size ∧ meth.locks = false ∧ (Jvm.Cond.and given_1 narrow_1).before #[Value.ref b] s = true
def rl_C (X : rr_X) (D : va_G) (cy : Nat → ClassId) (cc : ByteArray) (nL : Nat) (own : String) (fr lo mc ms b : Nat) : Prop :=
  X.1.tables.exec = Jvm.exec ∧ X.2.2.2.2.2.2.2.2.2.code = cc ∧ X.2.2.2.2.2.2.2.2.2.maxLocals = nL ∧ X.2.2.2.2.1.vm.findClass own = some X.2.2.2.2.2.1.cls ∧ (∀ w ∈ rr_tb, w.before X.2.2.2.2.2.2.1 X.2.2.2.2.1 = true) ∧ rc_X D cy X.2.2.2.2.1 ∧ True ∧ True ∧ True ∧ X.2.2.2.1 = { frames := fr, cells := mc, slots := ms, locals := lo } ∧ b ≤ X.2.2.2.2.1.heap.size
section RZS
variable {X : rr_X} {D : va_G} {cy : Nat → ClassId} {nL : Nat} {Q : State → Prop} {cc : ByteArray} {own : String} {fr lo mc ms b n ce sl : Nat} {f : Nat → va_E} {pc : Nat} {lv : List (Nat × Value)} {rest : List Value}
theorem rl_room (C : rl_C X D cy cc nL own fr lo mc ms b) : X.2.2.2.1.frames = fr ∧ X.2.2.2.1.locals = lo ∧ X.2.2.2.1.cells = mc ∧ X.2.2.2.1.slots = ms := by rw [C.2.2.2.2.2.2.2.2.2.1]; exact ⟨rfl, rfl, rfl, rfl⟩
theorem rz_iconst (C : rl_C X D cy cc nL own fr lo mc ms b) {n0 : Int} {v : Int32} (hdg : decode cc pc = .ok (.iconst n0, 1)) (hv : Int32.ofInt n0 = v) (k : rc_J X D nL Q b n f ce sl (pc + 1) lv (.int v :: rest)) : rc_J X D nL Q b n f ce sl pc lv (rest) := fun H locs ls hl hP hS => lv_iconst C.1 C.2.1 hdg hv (k H locs ls hl hP hS)
theorem rz_dup (C : rl_C X D cy cc nL own fr lo mc ms b) {va : Value} (hdg : decode cc pc = .ok (.dup, 1)) (hc : va.category = 1) (k : rc_J X D nL Q b n f ce sl (pc + 1) lv (va :: va :: rest)) : rc_J X D nL Q b n f ce sl pc lv (va :: rest) := fun H locs ls hl hP hS => lv_dup C.1 C.2.1 hdg hc (k H locs ls hl hP hS)
theorem rz_new (C : rl_C X D cy cc nL own fr lo mc ms b) {index ci N : Nat} {K0 : String} {T : u_T} {fs : List Value} (ty : Nat → FieldType) (hty : ∀ k, k < N → parseFieldDescriptor (T k).2.2.1 = some (ty k)) (hin : ∀ w ∈ u_ws K0 T N, w ∈ rr_tb) (hc : rr_cls[ci]? = some (K0, T, N)) (q1 : Cond.classLink own index K0 ∈ rr_tb) (q2 : Cond.instantiable K0 N ∈ rr_tb) (q3 : Cond.initialized K0 ∈ rr_tb) (hfs : ∀ j, j < N → defaultValue (ty j) = vp_V fs j) (hce : ce + 1 ≤ mc) (hsl : sl + N ≤ ms) (hdg : decode cc pc = .ok (.new index, 3)) (k : rc_J X D nL Q b (n + 1) (va_up f n (.inr (ci, fs))) (ce + 1) (sl + N) (pc + 3) lv (.ref (b + n) :: rest)) : rc_J X D nL Q b n f ce sl pc lv rest := by
  intro H locs ls hl hP hS
  have hRR := rl_room C
  have ht := C.2.2.2.2.1
  have hKn := C.2.2.2.2.2.1.1.1 ci _ hc
  refine W.newcK C.1 C.2.1 C.2.2.2.1 (ht _ q1) (ht _ q2) (ht _ q3) rfl hdg (by rw [hRR.2.2.1]; exact hce) (by rw [hRR.2.2.2]; exact hsl) hKn.2.1 hP.1 fun H1 kC hkC e1 z1 o1 => ?_
  exact k H1 locs ls hl (rc_grow hP (by rw [z1, hP.1]) (fun q hq => o1 q (by rw [← hP.1]; exact hq)) ⟨_, hc, (u_born ty ht hin hKn hkC e1 hty).to hfs⟩) (rc_S hS (by rw [z1, hP.1]; omega) (fun q hq => o1 q (by rw [← hP.1]; exact hq)))
theorem rz_call (C : rl_C X D cy cc nL own fr lo mc ms b) {l : Launch} {y : MethodName} {c0 : ByteArray} {n0 fr0 lo0 mc0 ms0 index np i : Nat} {As st0 : List Value} {Φ : Nat → (Nat → va_E) → Prop} (hll : X.2.1 = l) (hM : rc_Met l D cy y c0 n0 fr0 lo0 mc0 ms0 (.ref (b + i) :: As) b n f Φ)
    (q1 : Cond.methodLink own index y ∈ rr_tb) (q2 : Cond.instanceMethod y ∈ rr_tb) (q4 : Cond.initialized y.cls ∈ rr_tb) (q5 : Cond.code y c0 n0 none ∈ rr_tb) (hy : y.name = "<init>") (hd : y.cls ≠ "java/lang/invoke/MethodHandle" ∧ y.cls ≠ "java/lang/invoke/VarHandle" ∧ (parseMethodDescriptor y.desc).map (fun d => d.parameters.length) = some np)
    (hR : fr0 + 1 ≤ fr ∧ 8 + (n0 + 11) + lo0 ≤ lo) (hce : ce + mc0 ≤ mc) (hsl : sl + ms0 ≤ ms) (hn : As.length = np) (hst : st0 = As.reverse ++ .ref (b + i) :: rest) (hcat : (rest.map fun v => v.category).sum ≤ 8) (hdg : decode cc pc = .ok (.invokespecial index, 3)) (k : ∀ (n1 : Nat) (f1 : Nat → va_E), Φ n1 f1 → rc_J X D nL Q b n1 f1 (ce + mc0) (sl + ms0) (pc + 3) lv rest) : rc_J X D nL Q b n f ce sl pc lv st0 := by
  intro H locs ls hl hP hS
  subst hll
  have hRR := rl_room C
  have ht := C.2.2.2.2.1
  exact rc_callk hl (va_runI (As := As) (rest := rest) (b := b + i) (n := np) ⟨C.1, C.2.1, C.2.2.1, C.2.2.2.1, ht⟩ hM ⟨callB_of np ht (rr_goodc q5) rfl rfl rfl (ht _ q4) (ht _ q1) hd ⟨by rw [hRR.1]; exact hR.1, by rw [hRR.2.1]; exact hR.2⟩, hy, ht _ q2⟩ ⟨rc_blind, fun U hU hW => ⟨rfl, by rw [hU]; exact hP, rc_Xmoved hW C.2.2.2.2.2.1, by rw [hU, hP.1]; exact Nat.le_add_right _ _⟩⟩ rfl hn hl.1 hst (lv_room hcat) hdg ⟨by rw [hRR.2.2.1]; exact hce, by rw [hRR.2.2.2]; exact hsl⟩) hS k
theorem rz_istore_n (C : rl_C X D cy cc nL own fr lo mc ms b) {j : Fin 4} {x : Int32} {lv1 : List (Nat × Value)} (hdg : decode cc pc = .ok (.istore_n j, 1)) (hn : (j : Nat) < nL) (he : ((j : Nat), Value.int x) :: lv.filter (fun q => !(q.1 == (j : Nat)) && !(q.1 + 1 == (j : Nat) && q.2.category == 2)) = lv1) (k : rc_J X D nL Q b n f ce sl (pc + 1) lv1 rest) : rc_J X D nL Q b n f ce sl pc lv (.int x :: rest) := fun H locs ls hl hP hS => lv_istore_n C.1 C.2.1 hdg rfl hl hn he (fun ls1 hl1 => k H locs ls1 hl1 hP hS)
theorem rz_astore_n (C : rl_C X D cy cc nL own fr lo mc ms b) {j : Fin 4} {x : Nat} {lv1 : List (Nat × Value)} (hdg : decode cc pc = .ok (.astore_n j, 1)) (hn : (j : Nat) < nL) (he : ((j : Nat), Value.ref x) :: lv.filter (fun q => !(q.1 == (j : Nat)) && !(q.1 + 1 == (j : Nat) && q.2.category == 2)) = lv1) (k : rc_J X D nL Q b n f ce sl (pc + 1) lv1 rest) : rc_J X D nL Q b n f ce sl pc lv (.ref x :: rest) := fun H locs ls hl hP hS => lv_astore_n C.1 C.2.1 hdg rfl hl hn he (fun ls1 hl1 => k H locs ls1 hl1 hP hS)
end RZS
def nx (b : Nat) : Nat → Nat := fun a => NX (a - b)
def nm (b : Nat) : Nat → Nat := fun a => NM (a - b)
def rl_L (X : rr_X) (D : va_G) (cy : Nat → ClassId) (B C : Nat) (bs L : Nat) (xs : Nat → Int32) : Prop :=
  X.1.tables.exec = Jvm.exec ∧ X.2.2.2.2.2.2.2.2.2.code = cL_law ∧ X.2.2.2.2.2.2.2.2.2.maxLocals = 4 ∧ X.2.2.2.2.1.vm.findClass "RootRowsLaw" = some X.2.2.2.2.2.1.cls ∧ (∀ w ∈ rr_tb, w.before X.2.2.2.2.2.2.1 X.2.2.2.2.1 = true) ∧ va_K D rr_cls (rc_ty cy) X.2.2.2.2.1 ∧ C = B + 341 ∧ B = X.2.2.2.2.1.heap.size ∧ (va_X bs L xs X.2.2.2.2.1 X.2.2.2.2.1.heap ∧ bs < X.2.2.2.2.1.heap.size) ∧ X.2.2.2.1 = room_1
def rl_J (X : rr_X) (D : va_G) (cy : Nat → ClassId) (B C : Nat) (Q : State → Prop) (σx σm : rr_M) (pc : Nat) (lv : List (Nat × Value)) (st : List Value) : Prop :=
  rr_T (GX D cy B) σx → rr_T (GM D cy C) σm → ∀ (H : Heap) (locs : List Loc) (ls : Array Slot), lv_has ls 4 lv → rr_P (GX D cy B) σx H → rr_P (GM D cy C) σm H → va_S (fun q => B ≤ q) X.2.2.2.2.1.heap H locs → W X.1 X.2.1 X.2.2.1 X.2.2.2.1 X.2.2.2.2.1 X.2.2.2.2.2.1 X.2.2.2.2.2.2.1 X.2.2.2.2.2.2.2.1 X.2.2.2.2.2.2.2.2.1 X.2.2.2.2.2.2.2.2.2 H locs 354 99338 Q (F0 X.2.2.2.2.2.1 pc ls st)
section RLS
variable {X : rr_X} {D : va_G} {cy : Nat → ClassId} {B C bs L : Nat} {xs : Nat → Int32} {Q : State → Prop} {σx σm σ1 : rr_M} {pc : Nat} {lv : List (Nat × Value)} {rest : List Value}
theorem rl_iconst (K0 : rl_L X D cy B C bs L xs) {n0 : Int} {v : Int32} (hdg : decode cL_law pc = .ok (.iconst n0, 1)) (hv : Int32.ofInt n0 = v) (k : rl_J X D cy B C Q σx σm (pc + 1) lv (.int v :: rest)) : rl_J X D cy B C Q σx σm pc lv (rest) := fun hT hU H locs ls hl hP hM hS => lv_iconst K0.1 K0.2.1 hdg hv (k hT hU H locs ls hl hP hM hS)
theorem rl_bipush (K0 : rl_L X D cy B C bs L xs) {n0 : Int} {v : Int32} (hdg : decode cL_law pc = .ok (.bipush n0, 2)) (hv : (Int8.ofInt n0).toInt32 = v) (k : rl_J X D cy B C Q σx σm (pc + 2) lv (.int v :: rest)) : rl_J X D cy B C Q σx σm pc lv (rest) := fun hT hU H locs ls hl hP hM hS => lv_bipush K0.1 K0.2.1 hdg hv (k hT hU H locs ls hl hP hM hS)
theorem rl_iadd (K0 : rl_L X D cy B C bs L xs) {x y : Int32} (hdg : decode cL_law pc = .ok (.iadd, 1))  (k : rl_J X D cy B C Q σx σm (pc + 1) lv (.int (x + y) :: rest)) : rl_J X D cy B C Q σx σm pc lv (.int y :: .int x :: rest) := fun hT hU H locs ls hl hP hM hS => lv_iadd K0.1 K0.2.1 hdg  (k hT hU H locs ls hl hP hM hS)
theorem rl_isub (K0 : rl_L X D cy B C bs L xs) {x y : Int32} (hdg : decode cL_law pc = .ok (.isub, 1))  (k : rl_J X D cy B C Q σx σm (pc + 1) lv (.int (x - y) :: rest)) : rl_J X D cy B C Q σx σm pc lv (.int y :: .int x :: rest) := fun hT hU H locs ls hl hP hM hS => lv_isub K0.1 K0.2.1 hdg  (k hT hU H locs ls hl hP hM hS)
theorem rl_iand (K0 : rl_L X D cy B C bs L xs) {x y : Int32} (hdg : decode cL_law pc = .ok (.iand, 1))  (k : rl_J X D cy B C Q σx σm (pc + 1) lv (.int (x &&& y) :: rest)) : rl_J X D cy B C Q σx σm pc lv (.int y :: .int x :: rest) := fun hT hU H locs ls hl hP hM hS => lv_iand K0.1 K0.2.1 hdg  (k hT hU H locs ls hl hP hM hS)
theorem rl_pop (K0 : rl_L X D cy B C bs L xs) {va : Value} (hdg : decode cL_law pc = .ok (.pop, 1)) (hc : va.category = 1) (k : rl_J X D cy B C Q σx σm (pc + 1) lv (rest)) : rl_J X D cy B C Q σx σm pc lv (va :: rest) := fun hT hU H locs ls hl hP hM hS => lv_pop K0.1 K0.2.1 hdg hc (k hT hU H locs ls hl hP hM hS)
theorem rl_pop2 (K0 : rl_L X D cy B C bs L xs) {va : Value} (hdg : decode cL_law pc = .ok (.pop2, 1)) (hc : va.category = 2) (k : rl_J X D cy B C Q σx σm (pc + 1) lv (rest)) : rl_J X D cy B C Q σx σm pc lv (va :: rest) := fun hT hU H locs ls hl hP hM hS => lv_pop2_2 K0.1 K0.2.1 hdg hc (k hT hU H locs ls hl hP hM hS)
theorem rl_iload_n (K0 : rl_L X D cy B C bs L xs) {j : Fin 4} {x : Int32} (q : Nat) (hdg : decode cL_law pc = .ok (.iload_n j, 1)) (hq : lv[q]? = some ((j : Nat), .int x)) (k : rl_J X D cy B C Q σx σm (pc + 1) lv (.int x :: rest)) : rl_J X D cy B C Q σx σm pc lv rest := fun hT hU H locs ls hl hP hM hS => lv_iload_n K0.1 K0.2.1 hdg rfl (lv_at hl q hq) (k hT hU H locs ls hl hP hM hS)
theorem rl_aload_n (K0 : rl_L X D cy B C bs L xs) {j : Fin 4} {x : Nat} (q : Nat) (hdg : decode cL_law pc = .ok (.aload_n j, 1)) (hq : lv[q]? = some ((j : Nat), .ref x)) (k : rl_J X D cy B C Q σx σm (pc + 1) lv (.ref x :: rest)) : rl_J X D cy B C Q σx σm pc lv rest := fun hT hU H locs ls hl hP hM hS => lv_aload_n K0.1 K0.2.1 hdg rfl (lv_at hl q hq) (k hT hU H locs ls hl hP hM hS)
theorem rl_iinc (K0 : rl_L X D cy B C bs L xs) {i : Nat} {n0 : Int} {x v : Int32} {lv1 : List (Nat × Value)} (q : Nat) (hdg : decode cL_law pc = .ok (.iinc i n0, 3)) (hq : lv[q]? = some (i, .int x)) (hv : x + Int32.ofInt n0 = v) (hn : i < 4) (he : (i, Value.int v) :: lv.filter (fun q => !(q.1 == i) && !(q.1 + 1 == i && q.2.category == 2)) = lv1) (k : rl_J X D cy B C Q σx σm (pc + 3) lv1 rest) : rl_J X D cy B C Q σx σm pc lv rest := fun hT hU H locs ls hl hP hM hS => lv_iinc (k := q) K0.1 K0.2.1 hdg hl hq hv hn he (fun ls1 hl1 => k hT hU H locs ls1 hl1 hP hM hS)
theorem rl_goto (K0 : rl_L X D cy B C bs L xs) {off : Int} {tgt : Nat} (hdg : decode cL_law pc = .ok (.goto off, 3)) (ht : (pc : Int) + off = (tgt : Int)) (k : rl_J X D cy B C Q σx σm tgt lv rest) : rl_J X D cy B C Q σx σm pc lv rest := fun hT hU H locs ls hl hP hM hS => lv_goto K0.1 K0.2.1 hdg ht (k hT hU H locs ls hl hP hM hS)
theorem rl_icmp_gt (K0 : rl_L X D cy B C bs L xs) {x y : Int32} {off : Int} {tgt : Nat} (hdg : decode cL_law pc = .ok (.if_icmp .gt off, 3)) (ht : (pc : Int) + off = (tgt : Int)) (kt : y < x → rl_J X D cy B C Q σx σm tgt lv rest) (kf : ¬ y < x → rl_J X D cy B C Q σx σm (pc + 3) lv rest) : rl_J X D cy B C Q σx σm pc lv (.int y :: .int x :: rest) := fun hT hU H locs ls hl hP hM hS => lv_icmp_gt K0.1 K0.2.1 hdg ht (fun h => kt h hT hU H locs ls hl hP hM hS) (fun h => kf h hT hU H locs ls hl hP hM hS)
theorem rl_icmp_eq (K0 : rl_L X D cy B C bs L xs) {x y : Int32} {off : Int} {tgt : Nat} (hdg : decode cL_law pc = .ok (.if_icmp .eq off, 3)) (ht : (pc : Int) + off = (tgt : Int)) (kt : x = y → rl_J X D cy B C Q σx σm tgt lv rest) (kf : ¬ x = y → rl_J X D cy B C Q σx σm (pc + 3) lv rest) : rl_J X D cy B C Q σx σm pc lv (.int y :: .int x :: rest) := fun hT hU H locs ls hl hP hM hS => lv_icmp_eq K0.1 K0.2.1 hdg ht (fun h => kt h hT hU H locs ls hl hP hM hS) (fun h => kf h hT hU H locs ls hl hP hM hS)
theorem rl_if_eq (K0 : rl_L X D cy B C bs L xs) {x : Int32} {off : Int} {tgt : Nat} (hdg : decode cL_law pc = .ok (.ifCond .eq off, 3)) (ht : (pc : Int) + off = (tgt : Int)) (kt : x = 0 → rl_J X D cy B C Q σx σm tgt lv rest) (kf : ¬ x = 0 → rl_J X D cy B C Q σx σm (pc + 3) lv rest) : rl_J X D cy B C Q σx σm pc lv (.int x :: rest) := fun hT hU H locs ls hl hP hM hS => lv_if_eq K0.1 K0.2.1 hdg ht (fun h => kt h hT hU H locs ls hl hP hM hS) (fun h => kf h hT hU H locs ls hl hP hM hS)
theorem rl_lcmpeq (K0 : rl_L X D cy B C bs L xs) {x : Int64} {off : Int} {tgt : Nat} (hdg : decode cL_law pc = .ok (.lcmp, 1)) (hdh : decode cL_law (pc + 1) = .ok (.ifCond .eq off, 3)) (ht : ((pc + 1 : Nat) : Int) + off = (tgt : Int)) (kt : rl_J X D cy B C Q σx σm tgt lv rest) : rl_J X D cy B C Q σx σm pc lv (.long x :: .long x :: rest) := fun hT hU H locs ls hl hP hM hS => W.lcmp K0.1 K0.2.1 hdg (lv_if_eq K0.1 K0.2.1 hdh ht (fun _ => kt hT hU H locs ls hl hP hM hS) (fun h => absurd ((lg_cmp_eq x x).mpr rfl) h))
theorem rl_tin (K0 : rl_L X D cy B C bs L xs) {dflt lo9 hi9 : Int} {offs : Array Int} {len : Nat} {x v : Int32} {off : Int} {tgt : Nat} (hv : x = v) (hdg : decode cL_law pc = .ok (.tableswitch dflt lo9 hi9 offs, len)) (h1 : ¬ v.toInt < lo9) (h2 : ¬ hi9 < v.toInt) (ho : offs[(v.toInt - lo9).toNat]? = some off) (ht : (pc : Int) + off = (tgt : Int)) (k : rl_J X D cy B C Q σx σm tgt lv rest) : rl_J X D cy B C Q σx σm pc lv (.int x :: rest) := by
  subst hv
  exact fun hT hU H locs ls hl hP hM hS => lv_tableIn K0.1 K0.2.1 hdg h1 h2 ho ht (k hT hU H locs ls hl hP hM hS)
theorem rl_tout (K0 : rl_L X D cy B C bs L xs) {dflt lo9 hi9 : Int} {offs : Array Int} {len : Nat} {x : Int32} {tgt : Nat} (hdg : decode cL_law pc = .ok (.tableswitch dflt lo9 hi9 offs, len)) (h : x.toInt < lo9 ∨ hi9 < x.toInt) (ht : (pc : Int) + dflt = (tgt : Int)) (k : rl_J X D cy B C Q σx σm tgt lv rest) : rl_J X D cy B C Q σx σm pc lv (.int x :: rest) := fun hT hU H locs ls hl hP hM hS => lv_tableOut K0.1 K0.2.1 hdg h ht (k hT hU H locs ls hl hP hM hS)
theorem rl_bA (K0 : rl_L X D cy B C bs L xs) : ¬ (fun q => B ≤ q) bs := by
  have h := K0.2.2.2.2.2.2.2.2.1.2
  have e := K0.2.2.2.2.2.2.2.1
  intro w
  have w2 : B ≤ bs := w
  omega
theorem rl_slen (K0 : rl_L X D cy B C bs L xs) (hdg : decode cL_law pc = .ok (.arraylength, 1)) (k : rl_J X D cy B C Q σx σm (pc + 1) lv (.int (nI L) :: rest)) : rl_J X D cy B C Q σx σm pc lv (.ref bs :: rest) := fun hT hU H locs ls hl hP hM hS => va_slen K0.1 K0.2.1 K0.2.2.2.2.2.2.2.2.1.1 K0.2.2.2.2.2.2.2.2.1.2 (rl_bA K0) hS hdg (k hT hU H locs ls hl hP hM hS)
theorem rl_sld (K0 : rl_L X D cy B C bs L xs) {i : Int32} (hin : vp_in i L) (hdg : decode cL_law pc = .ok (.iaload, 1)) (k : rl_J X D cy B C Q σx σm (pc + 1) lv (.int (xs i.toNatClampNeg) :: rest)) : rl_J X D cy B C Q σx σm pc lv (.int i :: .ref bs :: rest) := fun hT hU H locs ls hl hP hM hS => va_sld K0.1 K0.2.1 K0.2.2.2.2.2.2.2.2.1.1 K0.2.2.2.2.2.2.2.2.1.2 (rl_bA K0) hS hin hdg (k hT hU H locs ls hl hP hM hS)
theorem rl_lv {lv1 : List (Nat × Value)} {st : List Value} (ks : List Nat) (he : lv_pick lv ks = lv1) (k : rl_J X D cy B C Q σx σm pc lv1 st) : rl_J X D cy B C Q σx σm pc lv st := fun hT hU H locs ls hl hP hM hS => k hT hU H locs ls (lv_sub hl ks he) hP hM hS
theorem rl_apart {a b : Nat} (hC : C = B + 341) (ha : a ∈ (GX D cy B).2.2.1) (hb : b ∈ (GM D cy C).2.2.1) : a ≠ b := by
  obtain ⟨i, hi, rfl⟩ := rl_mem.mp ha
  obtain ⟨j, hj, rfl⟩ := rl_mem.mp hb
  omega
theorem rl_keep {G G2 : rr_G} {σ : rr_M} {H H1 : Heap} (hP : rr_P G2 σ H) (hk : ∀ q : Nat, q < H.size → q ∉ G.2.2.1 → H1[q]? = H[q]?) (hd : ∀ a, a ∈ G2.2.2.1 → a ∉ G.2.2.1) : rr_P G2 σ H1 := by
  intro k q hq
  refine (hP k q hq).kept (hk q.1 ((hP k q hq).lt) (hd q.1 ?_))
  simp only [rr_w, va_pl, List.getElem?_map, Option.map_eq_some_iff] at hq
  obtain ⟨a, ha, rfl⟩ := hq
  exact List.mem_of_getElem? ha
theorem rl_callx (K0 : rl_L X D cy B C bs L xs) {l : Launch} {y : MethodName} {c0 : ByteArray} {n0 fr0 lo0 index n : Nat} {r0 : Option FieldType} {As st0 : List Value} {res : Option Value} (hll : X.2.1 = l) (hMet : rr_Met l (GX D cy B) y c0 n0 r0 fr0 lo0 (.ref B :: As) σx σ1 res)
    (q1 : Cond.methodLink "RootRowsLaw" index y ∈ rr_tb) (q2 : Cond.instanceMethod y ∈ rr_tb) (q3 : Cond.selects y.cls y y ∈ rr_tb) (q4 : Cond.initialized y.cls ∈ rr_tb) (q5 : Cond.code y c0 n0 r0 ∈ rr_tb) (hd : y.cls ≠ "java/lang/invoke/MethodHandle" ∧ y.cls ≠ "java/lang/invoke/VarHandle" ∧ (parseMethodDescriptor y.desc).map (fun d => d.parameters.length) = some n)
    (hc : ∃ q : vw_C, rr_cls[8]? = some q ∧ q.1 = y.cls) (hR : fr0 + 1 ≤ 12 ∧ 8 + (n0 + 11) + lo0 ≤ 506) (hn : As.length = n) (hst : st0 = As.reverse ++ .ref B :: rest) (hcat : (rest.map fun v => v.category).sum ≤ 8) {st1 : List Value} (hs1 : res.toList ++ rest = st1) (hdg : decode cL_law pc = .ok (.invokevirtual index, 3)) (k : rl_J X D cy B C Q σ1 σm (pc + 3) lv st1) : rl_J X D cy B C Q σx σm pc lv st0 := by
  subst hs1
  intro hT hU H locs ls hl hP hM hS
  subst hll
  have hmem : B ∈ (GX D cy B).2.2.1 := rl_mem.mpr ⟨0, by decide, rfl⟩
  obtain ⟨q, hq⟩ := rr_at (G := GX D cy B) (σ := σx) hmem
  rw [rr_cO (ci := 8) (by simp [GX]; decide) (by decide)] at hq
  obtain ⟨cq, hc1, hc2⟩ := hc
  have hrec := va_recv K0.2.2.2.2.2.1 hP hc1 hq
  rw [hc2] at hrec
  have ht := K0.2.2.2.2.1
  have hR0 : X.2.2.2.1 = room_1 := K0.2.2.2.2.2.2.2.2.2
  have hrun := va_runV (p := X.1) (l := X.2.1) (e := X.2.2.1) (R := X.2.2.2.1) (s := X.2.2.2.2.1) (m := X.2.2.2.2.2.1) (args := X.2.2.2.2.2.2.1) (below := X.2.2.2.2.2.2.2.1) (meth := X.2.2.2.2.2.2.2.2.1) (c := X.2.2.2.2.2.2.2.2.2) (H := H) (locs := locs) (cells := 354) (slots := 99338) (C := y.cls) (As := As) (rest := rest) (b := B) (n := n) (g := F0 X.2.2.2.2.2.1 pc ls st0) ⟨K0.1, K0.2.1, K0.2.2.1, K0.2.2.2.1, ht⟩ hMet ⟨callB_of n ht (rr_goodc q5) rfl rfl rfl (ht _ q4) (ht _ q1) hd ⟨by rw [hR0]; exact hR.1, by rw [hR0]; exact hR.2⟩, ht _ q2, ht _ q3⟩ ⟨rr_blind, hrec, fun U hU9 hW => ⟨rfl, by rw [hU9]; exact hP, va_K.moved hW.alike K0.2.2.2.2.2.1, hT⟩⟩ rfl hn hl.1 hst (lv_room hcat) hdg ⟨by rw [hR0]; exact Nat.le_of_ble_eq_true rfl, by rw [hR0]; exact Nat.le_of_ble_eq_true rfl⟩
  intro T hTT Y
  obtain ⟨v, st₀, t, T', L9, h0, Y', hL, w1, w2, ⟨hv, ⟨hP1, -, hT1⟩, hz, hk⟩, st⟩ := hrun T hTT Y
  cases hv
  rw [h0] at hz hk
  have hk2 : ∀ q : Nat, q < H.size → q ∉ (GX D cy B).2.2.1 → T'.heap[q]? = H[q]? := fun q h1 h2 => by rw [w1]; exact hk q h1 h2
  have hlow : ∀ a, a ∈ (GX D cy B).2.2.1 → B ≤ a := fun a ha => by
    obtain ⟨i, hi, rfl⟩ := rl_mem.mp ha
    have e := K0.2.2.2.2.2.2.1
    omega
  obtain ⟨t2, a1, b1⟩ := k hT1 hU T'.heap (locs ++ L9) ls hl (by rw [w1]; exact hP1) (rl_keep hM hk2 (fun a h1 h2 => rl_apart (D := D) (cy := cy) K0.2.2.2.2.2.2.1 h2 h1 rfl)) ⟨Nat.le_trans hS.1 (by rw [w1]; exact hz), fun q h1 h2 => by rw [hk2 q (Nat.lt_of_lt_of_le h1 hS.1) (fun w => h2 (hlow q w))]; exact hS.2.1 q h1 h2, fun q hq => by
      rcases List.mem_append.mp hq with h | h
      · exact hS.2.2 q h
      · exact hlow _ (hL q h)⟩ T' rfl Y'
  exact ⟨t2, st t2 a1, b1⟩
theorem rl_callm (K0 : rl_L X D cy B C bs L xs) {l : Launch} {y : MethodName} {c0 : ByteArray} {n0 fr0 lo0 index n : Nat} {r0 : Option FieldType} {As st0 : List Value} {res : Option Value} (hll : X.2.1 = l) (hMet : rr_Met l (GM D cy C) y c0 n0 r0 fr0 lo0 (.ref C :: As) σm σ1 res)
    (q1 : Cond.methodLink "RootRowsLaw" index y ∈ rr_tb) (q2 : Cond.instanceMethod y ∈ rr_tb) (q3 : Cond.selects y.cls y y ∈ rr_tb) (q4 : Cond.initialized y.cls ∈ rr_tb) (q5 : Cond.code y c0 n0 r0 ∈ rr_tb) (hd : y.cls ≠ "java/lang/invoke/MethodHandle" ∧ y.cls ≠ "java/lang/invoke/VarHandle" ∧ (parseMethodDescriptor y.desc).map (fun d => d.parameters.length) = some n)
    (hc : ∃ q : vw_C, rr_cls[9]? = some q ∧ q.1 = y.cls) (hR : fr0 + 1 ≤ 12 ∧ 8 + (n0 + 11) + lo0 ≤ 506) (hn : As.length = n) (hst : st0 = As.reverse ++ .ref C :: rest) (hcat : (rest.map fun v => v.category).sum ≤ 8) {st1 : List Value} (hs1 : res.toList ++ rest = st1) (hdg : decode cL_law pc = .ok (.invokevirtual index, 3)) (k : rl_J X D cy B C Q σx σ1 (pc + 3) lv st1) : rl_J X D cy B C Q σx σm pc lv st0 := by
  subst hs1
  intro hT hU H locs ls hl hP hM hS
  subst hll
  have hmem : C ∈ (GM D cy C).2.2.1 := rl_mem.mpr ⟨0, by decide, rfl⟩
  obtain ⟨q, hq⟩ := rr_at (G := GM D cy C) (σ := σm) hmem
  rw [rr_cO (ci := 9) (by simp [GM]; decide) (by decide)] at hq
  obtain ⟨cq, hc1, hc2⟩ := hc
  have hrec := va_recv K0.2.2.2.2.2.1 hM hc1 hq
  rw [hc2] at hrec
  have ht := K0.2.2.2.2.1
  have hR0 : X.2.2.2.1 = room_1 := K0.2.2.2.2.2.2.2.2.2
  have hrun := va_runV (p := X.1) (l := X.2.1) (e := X.2.2.1) (R := X.2.2.2.1) (s := X.2.2.2.2.1) (m := X.2.2.2.2.2.1) (args := X.2.2.2.2.2.2.1) (below := X.2.2.2.2.2.2.2.1) (meth := X.2.2.2.2.2.2.2.2.1) (c := X.2.2.2.2.2.2.2.2.2) (H := H) (locs := locs) (cells := 354) (slots := 99338) (C := y.cls) (As := As) (rest := rest) (b := C) (n := n) (g := F0 X.2.2.2.2.2.1 pc ls st0) ⟨K0.1, K0.2.1, K0.2.2.1, K0.2.2.2.1, ht⟩ hMet ⟨callB_of n ht (rr_goodc q5) rfl rfl rfl (ht _ q4) (ht _ q1) hd ⟨by rw [hR0]; exact hR.1, by rw [hR0]; exact hR.2⟩, ht _ q2, ht _ q3⟩ ⟨rr_blind, hrec, fun U hU9 hW => ⟨rfl, by rw [hU9]; exact hM, va_K.moved hW.alike K0.2.2.2.2.2.1, hU⟩⟩ rfl hn hl.1 hst (lv_room hcat) hdg ⟨by rw [hR0]; exact Nat.le_of_ble_eq_true rfl, by rw [hR0]; exact Nat.le_of_ble_eq_true rfl⟩
  intro T hTT Y
  obtain ⟨v, st₀, t, T', L9, h0, Y', hL, w1, w2, ⟨hv, ⟨hP1, -, hT1⟩, hz, hk⟩, st⟩ := hrun T hTT Y
  cases hv
  rw [h0] at hz hk
  have hk2 : ∀ q : Nat, q < H.size → q ∉ (GM D cy C).2.2.1 → T'.heap[q]? = H[q]? := fun q h1 h2 => by rw [w1]; exact hk q h1 h2
  have hlow : ∀ a, a ∈ (GM D cy C).2.2.1 → B ≤ a := fun a ha => by
    obtain ⟨i, hi, rfl⟩ := rl_mem.mp ha
    have e := K0.2.2.2.2.2.2.1
    omega
  obtain ⟨t2, a1, b1⟩ := k hT hT1 T'.heap (locs ++ L9) ls hl (rl_keep hP hk2 (fun a h1 h2 => rl_apart (D := D) (cy := cy) K0.2.2.2.2.2.2.1 h1 h2 rfl)) (by rw [w1]; exact hP1) ⟨Nat.le_trans hS.1 (by rw [w1]; exact hz), fun q h1 h2 => by rw [hk2 q (Nat.lt_of_lt_of_le h1 hS.1) (fun w => h2 (hlow q w))]; exact hS.2.1 q h1 h2, fun q hq => by
      rcases List.mem_append.mp hq with h | h
      · exact hS.2.2 q h
      · exact hlow _ (hL q h)⟩ T' rfl Y'
  exact ⟨t2, st t2 a1, b1⟩
end RLS
def op_feed (fu B C : Nat) (Inv : rr_M → rr_M → Prop) : Prop := ∀ (a1 a2 a3 a4 a5 : Int32) (σx σm : rr_M), Inv σx σm → ∃ (r : Int32) (σx1 σm1 : rr_M), f_Roo_feed fu (nx B) B a1 a2 a3 a4 a5 σx = some (r, σx1) ∧ f_Mod_feed fu (nm C) C a1 a2 a3 a4 a5 σm = some (r, σm1) ∧ Inv σx1 σm1
def op_end (fu B C : Nat) (Inv : rr_M → rr_M → Prop) : Prop := ∀ (a1 : Int32) (σx σm : rr_M), Inv σx σm → ∃ (r : Int32) (σx1 σm1 : rr_M), f_Roo_end B a1 σx = some (r, σx1) ∧ f_Mod_end C a1 σm = some (r, σm1) ∧ Inv σx1 σm1
def op_read (fu B C : Nat) (Inv : rr_M → rr_M → Prop) : Prop := ∀ (a1 : Int32) (σx σm : rr_M), Inv σx σm → ∃ (r : Int32) (σx1 σm1 : rr_M), f_Roo_read fu (nx B) B a1 σx = some (r, σx1) ∧ f_Mod_read fu (nm C) C a1 σm = some (r, σm1) ∧ Inv σx1 σm1
def op_fault (fu B C : Nat) (Inv : rr_M → rr_M → Prop) : Prop := ∀ (σx σm : rr_M), Inv σx σm → ∃ (r : Int32) (σx1 σm1 : rr_M), f_Roo_fault B σx = some r ∧ σx1 = σx ∧ f_Mod_fault C σm = some (r, σm1) ∧ Inv σx1 σm1
def op_put (fu B C : Nat) (Inv : rr_M → rr_M → Prop) : Prop := ∀ (a1 a2 a3 : Int32) (σx σm : rr_M), Inv σx σm → ∃ (r : Int32) (σx1 σm1 : rr_M), f_Roo_put (nx B) B a1 a2 a3 σx = some (r, σx1) ∧ f_Mod_put_ (nm C) C a1 a2 a3 σm = some (r, σm1) ∧ Inv σx1 σm1
def op_operate (fu B C : Nat) (Inv : rr_M → rr_M → Prop) : Prop := ∀ (a1 a2 a3 a4 : Int32) (σx σm : rr_M), Inv σx σm → ∃ (r : Int32) (σx1 σm1 : rr_M), f_Roo_operate fu (nx B) B a1 a2 a3 a4 σx = some (r, σx1) ∧ f_Mod_operate fu (nm C) C a1 a2 a3 a4 σm = some (r, σm1) ∧ Inv σx1 σm1
def op_join (fu B C : Nat) (Inv : rr_M → rr_M → Prop) : Prop := ∀ (a1 a2 a3 a4 a5 : Int32) (σx σm : rr_M), Inv σx σm → ∃ (r : Int32) (σx1 σm1 : rr_M), f_Roo_join fu (nx B) B a1 a2 a3 a4 a5 σx = some (r, σx1) ∧ f_Mod_join fu (nm C) C a1 a2 a3 a4 a5 σm = some (r, σm1) ∧ Inv σx1 σm1
def op_times (fu B C : Nat) (Inv : rr_M → rr_M → Prop) : Prop := ∀ (a1 a2 a3 : Int32) (σx σm : rr_M), Inv σx σm → ∃ (r : Int32) (σx1 σm1 : rr_M), f_Roo_times fu (nx B) B a1 a2 a3 σx = some (r, σx1) ∧ f_Mod_times fu (nm C) C a1 a2 a3 σm = some (r, σm1) ∧ Inv σx1 σm1
def op_number (fu B C : Nat) (Inv : rr_M → rr_M → Prop) : Prop := ∀ (a1 a2 : Int32) (σx σm : rr_M), Inv σx σm → ∃ (r : Int64) (σx1 σm1 : rr_M), f_Roo_number (nx B) B a1 a2 σx = some r ∧ σx1 = σx ∧ f_Mod_number_ (nm C) C a1 a2 σm = some (r, σm1) ∧ Inv σx1 σm1
def op_count (fu B C : Nat) (Inv : rr_M → rr_M → Prop) : Prop := ∀ (a1 a2 : Int32) (σx σm : rr_M), Inv σx σm → ∃ (r : Int32) (σx1 σm1 : rr_M), f_Roo_count fu (nx B) B a1 a2 σx = some (r, σx1) ∧ f_Mod_count fu (nm C) C a1 a2 σm = some (r, σm1) ∧ Inv σx1 σm1
def op_root (fu B C : Nat) (Inv : rr_M → rr_M → Prop) : Prop := ∀ (a1 a2 a3 : Int32) (σx σm : rr_M), Inv σx σm → ∃ (r : Int64) (σx1 σm1 : rr_M), f_Roo_root fu (nx B) B a1 a2 a3 σx = some (r, σx1) ∧ f_Mod_root fu (nm C) C a1 a2 a3 σm = some (r, σm1) ∧ Inv σx1 σm1
def op_often (fu B C : Nat) (Inv : rr_M → rr_M → Prop) : Prop := ∀ (a1 a2 : Int32) (σx σm : rr_M), Inv σx σm → ∃ (r : Int32) (σx1 σm1 : rr_M), f_Roo_often fu (nx B) B a1 a2 σx = some (r, σx1) ∧ f_Mod_often fu (nm C) C a1 a2 σm = some (r, σm1) ∧ Inv σx1 σm1
def op_between (fu B C : Nat) (Inv : rr_M → rr_M → Prop) : Prop := ∀ (a1 a2 a3 : Int32) (σx σm : rr_M), Inv σx σm → ∃ (r : Int32) (σx1 σm1 : rr_M), f_Roo_between fu (nx B) B a1 a2 a3 σx = some (r, σx1) ∧ f_Mod_between fu (nm C) C a1 a2 a3 σm = some (r, σm1) ∧ Inv σx1 σm1
def op_sign (fu B C : Nat) (Inv : rr_M → rr_M → Prop) : Prop := ∀ (a1 a2 a3 : Int32) (σx σm : rr_M), Inv σx σm → ∃ (r : Int32) (σx1 σm1 : rr_M), f_Roo_sign fu (nx B) B a1 a2 a3 σx = some (r, σx1) ∧ f_Mod_sign fu (nm C) C a1 a2 a3 σm = some (r, σm1) ∧ Inv σx1 σm1
def op_laced (fu B C : Nat) (Inv : rr_M → rr_M → Prop) : Prop := ∀ (a1 a2 : Int32) (σx σm : rr_M), Inv σx σm → ∃ (r : Int32) (σx1 σm1 : rr_M), f_Roo_laced fu (nx B) B a1 a2 σx = some (r, σx1) ∧ f_Mod_laced fu (nm C) C a1 a2 σm = some (r, σm1) ∧ Inv σx1 σm1
def op_chain (fu B C : Nat) (Inv : rr_M → rr_M → Prop) : Prop := ∀ (a1 a2 : Int32) (σx σm : rr_M), Inv σx σm → ∃ (r : Int32) (σx1 σm1 : rr_M), f_Roo_chain fu (nx B) B a1 a2 σx = some (r, σx1) ∧ f_Mod_chain fu (nm C) C a1 a2 σm = some (r, σm1) ∧ Inv σx1 σm1
def op_member (fu B C : Nat) (Inv : rr_M → rr_M → Prop) : Prop := ∀ (a1 a2 a3 : Int32) (σx σm : rr_M), Inv σx σm → ∃ (r : Int32) (σx1 σm1 : rr_M), f_Roo_member fu (nx B) B a1 a2 a3 σx = some (r, σx1) ∧ f_Mod_member fu (nm C) C a1 a2 a3 σm = some (r, σm1) ∧ Inv σx1 σm1
def op_fails (fu B C : Nat) (Inv : rr_M → rr_M → Prop) : Prop := ∀ (a1 : Int32) (σx σm : rr_M), Inv σx σm → ∃ (r : Int32) (σx1 σm1 : rr_M), f_Roo_fails fu (nx B) B a1 σx = some (r, σx1) ∧ f_Mod_fails_ fu (nm C) C a1 σm = some (r, σm1) ∧ Inv σx1 σm1
def op_row (fu B C : Nat) (Inv : rr_M → rr_M → Prop) : Prop := ∀ (a1 a2 : Int32) (σx σm : rr_M), Inv σx σm → ∃ (r : Int32) (σx1 σm1 : rr_M), f_Roo_row fu (nx B) B a1 a2 σx = some r ∧ σx1 = σx ∧ f_Mod_row fu (nm C) C a1 a2 σm = some (r, σm1) ∧ Inv σx1 σm1
def op_mean (fu B C : Nat) (Inv : rr_M → rr_M → Prop) : Prop := ∀ (a1 a2 : Int32) (σx σm : rr_M), a2 = 0 ∨ a2 = 1 → Inv σx σm → ∃ (r : Int64) (σx1 σm1 : rr_M), f_Roo_mean fu (nx B) B a1 a2 σx = some r ∧ σx1 = σx ∧ f_Mod_mean fu (nm C) C a1 a2 σm = some (r, σm1) ∧ Inv σx1 σm1
def rl_ops (fu B C : Nat) (Inv : rr_M → rr_M → Prop) : Prop := op_feed fu B C Inv ∧ op_end fu B C Inv ∧ op_read fu B C Inv ∧ op_fault fu B C Inv ∧ op_put fu B C Inv ∧ op_operate fu B C Inv ∧ op_join fu B C Inv ∧ op_times fu B C Inv ∧ op_number fu B C Inv ∧ op_count fu B C Inv ∧ op_root fu B C Inv ∧ op_often fu B C Inv ∧ op_between fu B C Inv ∧ op_sign fu B C Inv ∧ op_laced fu B C Inv ∧ op_chain fu B C Inv ∧ op_member fu B C Inv ∧ op_fails fu B C Inv ∧ op_row fu B C Inv ∧ op_mean fu B C Inv
set_option maxRecDepth 4000 in
theorem law_loop {X : rr_X} {D : va_G} {cy : Nat → ClassId} {B C bs L fu : Nat} {xs : Nat → Int32} {l : Launch} {Inv : rr_M → rr_M → Prop} (hL : L ≤ 3072) (hll : X.2.1 = l) (K0 : rl_L X D cy B C bs L xs) (hr : X.2.2.2.2.2.2.2.2.1.sig.returnType = ret) (hlocks : X.2.2.2.2.2.2.2.2.1.locks = false) (harg : X.2.2.2.2.2.2.1 = #[Value.ref bs]) (hops : rl_ops fu B C Inv) : ∀ (n i : Nat) (σx σm : rr_M), L + 6 < i + n → i ≤ L + 5 → Inv σx σm → rl_J X D cy B C (lw_Z X.2.2.2.2.2.2.2.1 #[Value.ref bs] X.2.2.2.2.1) σx σm 18 [(3, .int (nI i)), (2, .ref C), (1, .ref B), (0, .ref bs)] [] := by
  obtain ⟨ho_0, ho_1, ho_2, ho_3, ho_4, ho_5, ho_6, ho_7, ho_8, ho_9, ho_10, ho_11, ho_12, ho_13, ho_14, ho_15, ho_16, ho_17, ho_18, ho_19⟩ := hops
  intro n
  induction n with
  | zero =>
    intro i σx σm h1 h2
    omega
  | succ n ih =>
    intro i σx σm hn hi hI
    refine rl_iload_n K0 0 dL_law_18 rfl ?_
    refine rl_aload_n K0 3 dL_law_19 rfl ?_
    refine rl_slen K0 dL_law_20 ?_
    refine rl_bipush (v := 6) K0 dL_law_21 rfl ?_
    refine rl_isub K0 dL_law_23 ?_
    refine rl_icmp_gt (tgt := 903) K0 dL_law_24 (by decide) (fun hc => ?_) (fun hc => ?_)
    · refine rl_iconst (v := 1) K0 dL_law_903 rfl ?_
      intro hT hU H locs ls hl hP hM hS
      have hB := K0.2.2.2.2.2.2.2.1
      refine va_forget (fun q hq => by have h9 := hS.2.2 q hq; have h8 : B ≤ q.base := h9; omega) ?_
      refine W.widen (k := 600000) (n := 7302250) (Nat.le_of_ble_eq_true rfl) (Nat.le_of_ble_eq_true rfl) ?_
      rw [K0.2.2.2.2.2.2.2.2.2, harg]
      exact lw_ret K0.1 K0.2.1 hr hlocks dL_law_904
    have hiL : i + 6 ≤ L := by
      have e1 : (nI L - 6).toInt = (L : Int) - 6 := pk_sub_toInt (a := L) (b := 6) (by omega) (by decide)
      have e2 : (nI i).toInt = (i : Int) := nI_toInt (by omega)
      rw [Int32.lt_iff_toInt_lt, e1, e2] at hc
      omega
    have hb1 : vp_in (nI i + 1) L := by
      rw [show (1 : Int32) = nI 1 from rfl, nI_add]
      exact vp_in_nI (by omega) (by omega)
    have hb2 : vp_in (nI i + 2) L := by
      rw [show (2 : Int32) = nI 2 from rfl, nI_add]
      exact vp_in_nI (by omega) (by omega)
    have hb3 : vp_in (nI i + 3) L := by
      rw [show (3 : Int32) = nI 3 from rfl, nI_add]
      exact vp_in_nI (by omega) (by omega)
    have hb4 : vp_in (nI i + 4) L := by
      rw [show (4 : Int32) = nI 4 from rfl, nI_add]
      exact vp_in_nI (by omega) (by omega)
    have hb5 : vp_in (nI i + 5) L := by
      rw [show (5 : Int32) = nI 5 from rfl, nI_add]
      exact vp_in_nI (by omega) (by omega)
    have hb0 : vp_in (nI i) L := vp_in_nI (by omega) (by omega)
    have hnext : ∀ σ1 σ2, Inv σ1 σ2 → rl_J X D cy B C (lw_Z X.2.2.2.2.2.2.2.1 #[Value.ref bs] X.2.2.2.2.1) σ1 σ2 897 [(3, .int (nI i)), (2, .ref C), (1, .ref B), (0, .ref bs)] [] := by
      intro σ1 σ2 hI2
      refine rl_iinc (v := nI (i + 6)) (lv1 := [(3, .int (nI (i + 6))), (2, .ref C), (1, .ref B), (0, .ref bs)]) K0 0 dL_law_897 rfl (nI_add i 6) (by decide) rfl ?_
      refine rl_goto (tgt := 18) K0 dL_law_900 (by decide) ?_
      exact ih (i + 6) σ1 σ2 (by omega) (by omega) hI2
    refine rl_aload_n K0 3 dL_law_27 rfl ?_
    refine rl_iload_n K0 0 dL_law_28 rfl ?_
    refine rl_sld K0 hb0 dL_law_29 ?_
    refine rl_bipush (v := 31) K0 dL_law_30 rfl ?_
    refine rl_iand K0 dL_law_32 ?_
    generalize xs (nI i).toNatClampNeg &&& 31 = sel
    by_cases hs0 : sel = 0
    · refine rl_tin (tgt := 128) K0 hs0 dL_law_33 (by decide) (by decide) rfl (by decide) ?_
      obtain ⟨r, σx1, σm1, hx1, hm1, hI1⟩ := ho_0 (xs (nI i + 1).toNatClampNeg) (xs (nI i + 2).toNatClampNeg) (xs (nI i + 3).toNatClampNeg) (xs (nI i + 4).toNatClampNeg) (xs (nI i + 5).toNatClampNeg) σx σm hI
      refine rl_aload_n K0 2 dL_law_128 rfl ?_
      refine rl_aload_n K0 3 dL_law_129 rfl ?_
      refine rl_iload_n K0 0 dL_law_130 rfl ?_
      refine rl_iconst (v := 1) K0 dL_law_131 rfl ?_
      refine rl_iadd K0 dL_law_132 ?_
      refine rl_sld K0 hb1 dL_law_133 ?_
      refine rl_aload_n K0 3 dL_law_134 rfl ?_
      refine rl_iload_n K0 0 dL_law_135 rfl ?_
      refine rl_iconst (v := 2) K0 dL_law_136 rfl ?_
      refine rl_iadd K0 dL_law_137 ?_
      refine rl_sld K0 hb2 dL_law_138 ?_
      refine rl_aload_n K0 3 dL_law_139 rfl ?_
      refine rl_iload_n K0 0 dL_law_140 rfl ?_
      refine rl_iconst (v := 3) K0 dL_law_141 rfl ?_
      refine rl_iadd K0 dL_law_142 ?_
      refine rl_sld K0 hb3 dL_law_143 ?_
      refine rl_aload_n K0 3 dL_law_144 rfl ?_
      refine rl_iload_n K0 0 dL_law_145 rfl ?_
      refine rl_iconst (v := 4) K0 dL_law_146 rfl ?_
      refine rl_iadd K0 dL_law_147 ?_
      refine rl_sld K0 hb4 dL_law_148 ?_
      refine rl_aload_n K0 3 dL_law_149 rfl ?_
      refine rl_iload_n K0 0 dL_law_150 rfl ?_
      refine rl_iconst (v := 5) K0 dL_law_151 rfl ?_
      refine rl_iadd K0 dL_law_152 ?_
      refine rl_sld K0 hb5 dL_law_153 ?_
      refine rl_callx (rest := []) (st1 := [.int r]) K0 hll (c_Roo_feed l (GX D cy B) (rl_nodup _ _) fu B (rl_mem.mpr ⟨0, by decide, rfl⟩) (by simp [GX]; decide) (xs (nI i + 1).toNatClampNeg) (xs (nI i + 2).toNatClampNeg) (xs (nI i + 3).toNatClampNeg) (xs (nI i + 4).toNatClampNeg) (xs (nI i + 5).toNatClampNeg) σx _ _ hx1) q_349 q_350 q_351 q_1 q_352 hd_Roo_feed ⟨_, rfl, rfl⟩ ⟨by decide, by decide⟩ rfl rfl (Nat.le_of_ble_eq_true rfl) rfl dL_law_154 ?_
      refine rl_aload_n K0 1 dL_law_157 rfl ?_
      refine rl_aload_n K0 3 dL_law_158 rfl ?_
      refine rl_iload_n K0 0 dL_law_159 rfl ?_
      refine rl_iconst (v := 1) K0 dL_law_160 rfl ?_
      refine rl_iadd K0 dL_law_161 ?_
      refine rl_sld K0 hb1 dL_law_162 ?_
      refine rl_aload_n K0 3 dL_law_163 rfl ?_
      refine rl_iload_n K0 0 dL_law_164 rfl ?_
      refine rl_iconst (v := 2) K0 dL_law_165 rfl ?_
      refine rl_iadd K0 dL_law_166 ?_
      refine rl_sld K0 hb2 dL_law_167 ?_
      refine rl_aload_n K0 3 dL_law_168 rfl ?_
      refine rl_iload_n K0 0 dL_law_169 rfl ?_
      refine rl_iconst (v := 3) K0 dL_law_170 rfl ?_
      refine rl_iadd K0 dL_law_171 ?_
      refine rl_sld K0 hb3 dL_law_172 ?_
      refine rl_aload_n K0 3 dL_law_173 rfl ?_
      refine rl_iload_n K0 0 dL_law_174 rfl ?_
      refine rl_iconst (v := 4) K0 dL_law_175 rfl ?_
      refine rl_iadd K0 dL_law_176 ?_
      refine rl_sld K0 hb4 dL_law_177 ?_
      refine rl_aload_n K0 3 dL_law_178 rfl ?_
      refine rl_iload_n K0 0 dL_law_179 rfl ?_
      refine rl_iconst (v := 5) K0 dL_law_180 rfl ?_
      refine rl_iadd K0 dL_law_181 ?_
      refine rl_sld K0 hb5 dL_law_182 ?_
      refine rl_callm (rest := [.int r]) (st1 := [.int r, .int r]) K0 hll (c_Mod_feed l (GM D cy C) (rl_nodup _ _) fu C (rl_mem.mpr ⟨0, by decide, rfl⟩) (by simp [GM]; decide) (xs (nI i + 1).toNatClampNeg) (xs (nI i + 2).toNatClampNeg) (xs (nI i + 3).toNatClampNeg) (xs (nI i + 4).toNatClampNeg) (xs (nI i + 5).toNatClampNeg) σm _ _ hm1) q_897 q_898 q_899 q_11 q_900 hd_Mod_feed ⟨_, rfl, rfl⟩ ⟨by decide, by decide⟩ rfl rfl (Nat.le_of_ble_eq_true rfl) rfl dL_law_183 ?_
      refine rl_icmp_eq (tgt := 897) K0 dL_law_186 (by decide) (fun _ => ?_) (fun hq => absurd rfl hq)
      exact hnext _ _ hI1
    by_cases hs1 : sel = 1
    · refine rl_tin (tgt := 191) K0 hs1 dL_law_33 (by decide) (by decide) rfl (by decide) ?_
      obtain ⟨r, σx1, σm1, hx1, hm1, hI1⟩ := ho_1 (xs (nI i + 1).toNatClampNeg) σx σm hI
      refine rl_aload_n K0 2 dL_law_191 rfl ?_
      refine rl_aload_n K0 3 dL_law_192 rfl ?_
      refine rl_iload_n K0 0 dL_law_193 rfl ?_
      refine rl_iconst (v := 1) K0 dL_law_194 rfl ?_
      refine rl_iadd K0 dL_law_195 ?_
      refine rl_sld K0 hb1 dL_law_196 ?_
      refine rl_callx (rest := []) (st1 := [.int r]) K0 hll (c_Roo_end l (GX D cy B) (rl_nodup _ _) B (rl_mem.mpr ⟨0, by decide, rfl⟩) (by simp [GX]; decide) (xs (nI i + 1).toNatClampNeg) σx _ _ hx1) q_361 q_362 q_363 q_1 q_364 hd_Roo_end ⟨_, rfl, rfl⟩ ⟨by decide, by decide⟩ rfl rfl (Nat.le_of_ble_eq_true rfl) rfl dL_law_197 ?_
      refine rl_aload_n K0 1 dL_law_200 rfl ?_
      refine rl_aload_n K0 3 dL_law_201 rfl ?_
      refine rl_iload_n K0 0 dL_law_202 rfl ?_
      refine rl_iconst (v := 1) K0 dL_law_203 rfl ?_
      refine rl_iadd K0 dL_law_204 ?_
      refine rl_sld K0 hb1 dL_law_205 ?_
      refine rl_callm (rest := [.int r]) (st1 := [.int r, .int r]) K0 hll (c_Mod_end l (GM D cy C) (rl_nodup _ _) C (rl_mem.mpr ⟨0, by decide, rfl⟩) (by simp [GM]; decide) (xs (nI i + 1).toNatClampNeg) σm _ _ hm1) q_905 q_906 q_907 q_11 q_908 hd_Mod_end ⟨_, rfl, rfl⟩ ⟨by decide, by decide⟩ rfl rfl (Nat.le_of_ble_eq_true rfl) rfl dL_law_206 ?_
      refine rl_icmp_eq (tgt := 897) K0 dL_law_209 (by decide) (fun _ => ?_) (fun hq => absurd rfl hq)
      exact hnext _ _ hI1
    by_cases hs2 : sel = 2
    · refine rl_tin (tgt := 214) K0 hs2 dL_law_33 (by decide) (by decide) rfl (by decide) ?_
      obtain ⟨r, σx1, σm1, hx1, hm1, hI1⟩ := ho_2 (xs (nI i + 1).toNatClampNeg) σx σm hI
      refine rl_aload_n K0 2 dL_law_214 rfl ?_
      refine rl_aload_n K0 3 dL_law_215 rfl ?_
      refine rl_iload_n K0 0 dL_law_216 rfl ?_
      refine rl_iconst (v := 1) K0 dL_law_217 rfl ?_
      refine rl_iadd K0 dL_law_218 ?_
      refine rl_sld K0 hb1 dL_law_219 ?_
      refine rl_callx (rest := []) (st1 := [.int r]) K0 hll (c_Roo_read l (GX D cy B) (rl_nodup _ _) fu B (rl_mem.mpr ⟨0, by decide, rfl⟩) (by simp [GX]; decide) (xs (nI i + 1).toNatClampNeg) σx _ _ hx1) q_365 q_366 q_367 q_1 q_368 hd_Roo_read ⟨_, rfl, rfl⟩ ⟨by decide, by decide⟩ rfl rfl (Nat.le_of_ble_eq_true rfl) rfl dL_law_220 ?_
      refine rl_aload_n K0 1 dL_law_223 rfl ?_
      refine rl_aload_n K0 3 dL_law_224 rfl ?_
      refine rl_iload_n K0 0 dL_law_225 rfl ?_
      refine rl_iconst (v := 1) K0 dL_law_226 rfl ?_
      refine rl_iadd K0 dL_law_227 ?_
      refine rl_sld K0 hb1 dL_law_228 ?_
      refine rl_callm (rest := [.int r]) (st1 := [.int r, .int r]) K0 hll (c_Mod_read l (GM D cy C) (rl_nodup _ _) fu C (rl_mem.mpr ⟨0, by decide, rfl⟩) (by simp [GM]; decide) (xs (nI i + 1).toNatClampNeg) σm _ _ hm1) q_912 q_913 q_914 q_11 q_915 hd_Mod_read ⟨_, rfl, rfl⟩ ⟨by decide, by decide⟩ rfl rfl (Nat.le_of_ble_eq_true rfl) rfl dL_law_229 ?_
      refine rl_icmp_eq (tgt := 897) K0 dL_law_232 (by decide) (fun _ => ?_) (fun hq => absurd rfl hq)
      exact hnext _ _ hI1
    by_cases hs3 : sel = 3
    · refine rl_tin (tgt := 237) K0 hs3 dL_law_33 (by decide) (by decide) rfl (by decide) ?_
      obtain ⟨r, σx1, σm1, hx1, ex1, hm1, hI1⟩ := ho_3 σx σm hI
      rw [ex1] at hI1
      refine rl_aload_n K0 2 dL_law_237 rfl ?_
      refine rl_callx (rest := []) (st1 := [.int r]) K0 hll (c_Roo_fault l (GX D cy B) (rl_nodup _ _) B (rl_mem.mpr ⟨0, by decide, rfl⟩) (by simp [GX]; decide) σx _ hx1) q_435 q_436 q_437 q_1 q_438 hd_Roo_fault ⟨_, rfl, rfl⟩ ⟨by decide, by decide⟩ rfl rfl (Nat.le_of_ble_eq_true rfl) rfl dL_law_238 ?_
      refine rl_aload_n K0 1 dL_law_241 rfl ?_
      refine rl_callm (rest := [.int r]) (st1 := [.int r, .int r]) K0 hll (c_Mod_fault l (GM D cy C) (rl_nodup _ _) C (rl_mem.mpr ⟨0, by decide, rfl⟩) (by simp [GM]; decide) σm _ _ hm1) q_965 q_966 q_967 q_11 q_968 hd_Mod_fault ⟨_, rfl, rfl⟩ ⟨by decide, by decide⟩ rfl rfl (Nat.le_of_ble_eq_true rfl) rfl dL_law_242 ?_
      refine rl_icmp_eq (tgt := 897) K0 dL_law_245 (by decide) (fun _ => ?_) (fun hq => absurd rfl hq)
      exact hnext _ _ hI1
    by_cases hs4 : sel = 4
    · refine rl_tin (tgt := 250) K0 hs4 dL_law_33 (by decide) (by decide) rfl (by decide) ?_
      obtain ⟨r, σx1, σm1, hx1, hm1, hI1⟩ := ho_4 (xs (nI i + 1).toNatClampNeg) (xs (nI i + 2).toNatClampNeg) (xs (nI i + 3).toNatClampNeg) σx σm hI
      refine rl_aload_n K0 2 dL_law_250 rfl ?_
      refine rl_aload_n K0 3 dL_law_251 rfl ?_
      refine rl_iload_n K0 0 dL_law_252 rfl ?_
      refine rl_iconst (v := 1) K0 dL_law_253 rfl ?_
      refine rl_iadd K0 dL_law_254 ?_
      refine rl_sld K0 hb1 dL_law_255 ?_
      refine rl_aload_n K0 3 dL_law_256 rfl ?_
      refine rl_iload_n K0 0 dL_law_257 rfl ?_
      refine rl_iconst (v := 2) K0 dL_law_258 rfl ?_
      refine rl_iadd K0 dL_law_259 ?_
      refine rl_sld K0 hb2 dL_law_260 ?_
      refine rl_aload_n K0 3 dL_law_261 rfl ?_
      refine rl_iload_n K0 0 dL_law_262 rfl ?_
      refine rl_iconst (v := 3) K0 dL_law_263 rfl ?_
      refine rl_iadd K0 dL_law_264 ?_
      refine rl_sld K0 hb3 dL_law_265 ?_
      refine rl_callx (rest := []) (st1 := [.int r]) K0 hll (c_Roo_put l (GX D cy B) (rl_nodup _ _) B (rl_mem.mpr ⟨0, by decide, rfl⟩) (by simp [GX]; decide) (xs (nI i + 1).toNatClampNeg) (xs (nI i + 2).toNatClampNeg) (xs (nI i + 3).toNatClampNeg) σx _ _ hx1) q_439 q_440 q_441 q_1 q_442 hd_Roo_put ⟨_, rfl, rfl⟩ ⟨by decide, by decide⟩ rfl rfl (Nat.le_of_ble_eq_true rfl) rfl dL_law_266 ?_
      refine rl_aload_n K0 1 dL_law_269 rfl ?_
      refine rl_aload_n K0 3 dL_law_270 rfl ?_
      refine rl_iload_n K0 0 dL_law_271 rfl ?_
      refine rl_iconst (v := 1) K0 dL_law_272 rfl ?_
      refine rl_iadd K0 dL_law_273 ?_
      refine rl_sld K0 hb1 dL_law_274 ?_
      refine rl_aload_n K0 3 dL_law_275 rfl ?_
      refine rl_iload_n K0 0 dL_law_276 rfl ?_
      refine rl_iconst (v := 2) K0 dL_law_277 rfl ?_
      refine rl_iadd K0 dL_law_278 ?_
      refine rl_sld K0 hb2 dL_law_279 ?_
      refine rl_aload_n K0 3 dL_law_280 rfl ?_
      refine rl_iload_n K0 0 dL_law_281 rfl ?_
      refine rl_iconst (v := 3) K0 dL_law_282 rfl ?_
      refine rl_iadd K0 dL_law_283 ?_
      refine rl_sld K0 hb3 dL_law_284 ?_
      refine rl_callm (rest := [.int r]) (st1 := [.int r, .int r]) K0 hll (c_Mod_put_ l (GM D cy C) (rl_nodup _ _) C (rl_mem.mpr ⟨0, by decide, rfl⟩) (by simp [GM]; decide) (xs (nI i + 1).toNatClampNeg) (xs (nI i + 2).toNatClampNeg) (xs (nI i + 3).toNatClampNeg) σm _ _ hm1) q_969 q_970 q_971 q_11 q_972 hd_Mod_put_ ⟨_, rfl, rfl⟩ ⟨by decide, by decide⟩ rfl rfl (Nat.le_of_ble_eq_true rfl) rfl dL_law_285 ?_
      refine rl_icmp_eq (tgt := 897) K0 dL_law_288 (by decide) (fun _ => ?_) (fun hq => absurd rfl hq)
      exact hnext _ _ hI1
    by_cases hs5 : sel = 5
    · refine rl_tin (tgt := 293) K0 hs5 dL_law_33 (by decide) (by decide) rfl (by decide) ?_
      obtain ⟨r, σx1, σm1, hx1, hm1, hI1⟩ := ho_5 (xs (nI i + 1).toNatClampNeg) (xs (nI i + 2).toNatClampNeg) (xs (nI i + 3).toNatClampNeg) (xs (nI i + 4).toNatClampNeg) σx σm hI
      refine rl_aload_n K0 2 dL_law_293 rfl ?_
      refine rl_aload_n K0 3 dL_law_294 rfl ?_
      refine rl_iload_n K0 0 dL_law_295 rfl ?_
      refine rl_iconst (v := 1) K0 dL_law_296 rfl ?_
      refine rl_iadd K0 dL_law_297 ?_
      refine rl_sld K0 hb1 dL_law_298 ?_
      refine rl_aload_n K0 3 dL_law_299 rfl ?_
      refine rl_iload_n K0 0 dL_law_300 rfl ?_
      refine rl_iconst (v := 2) K0 dL_law_301 rfl ?_
      refine rl_iadd K0 dL_law_302 ?_
      refine rl_sld K0 hb2 dL_law_303 ?_
      refine rl_aload_n K0 3 dL_law_304 rfl ?_
      refine rl_iload_n K0 0 dL_law_305 rfl ?_
      refine rl_iconst (v := 3) K0 dL_law_306 rfl ?_
      refine rl_iadd K0 dL_law_307 ?_
      refine rl_sld K0 hb3 dL_law_308 ?_
      refine rl_aload_n K0 3 dL_law_309 rfl ?_
      refine rl_iload_n K0 0 dL_law_310 rfl ?_
      refine rl_iconst (v := 4) K0 dL_law_311 rfl ?_
      refine rl_iadd K0 dL_law_312 ?_
      refine rl_sld K0 hb4 dL_law_313 ?_
      refine rl_callx (rest := []) (st1 := [.int r]) K0 hll (c_Roo_operate l (GX D cy B) (rl_nodup _ _) fu B (rl_mem.mpr ⟨0, by decide, rfl⟩) (by simp [GX]; decide) (xs (nI i + 1).toNatClampNeg) (xs (nI i + 2).toNatClampNeg) (xs (nI i + 3).toNatClampNeg) (xs (nI i + 4).toNatClampNeg) σx _ _ hx1) q_452 q_453 q_454 q_1 q_455 hd_Roo_operate ⟨_, rfl, rfl⟩ ⟨by decide, by decide⟩ rfl rfl (Nat.le_of_ble_eq_true rfl) rfl dL_law_314 ?_
      refine rl_aload_n K0 1 dL_law_317 rfl ?_
      refine rl_aload_n K0 3 dL_law_318 rfl ?_
      refine rl_iload_n K0 0 dL_law_319 rfl ?_
      refine rl_iconst (v := 1) K0 dL_law_320 rfl ?_
      refine rl_iadd K0 dL_law_321 ?_
      refine rl_sld K0 hb1 dL_law_322 ?_
      refine rl_aload_n K0 3 dL_law_323 rfl ?_
      refine rl_iload_n K0 0 dL_law_324 rfl ?_
      refine rl_iconst (v := 2) K0 dL_law_325 rfl ?_
      refine rl_iadd K0 dL_law_326 ?_
      refine rl_sld K0 hb2 dL_law_327 ?_
      refine rl_aload_n K0 3 dL_law_328 rfl ?_
      refine rl_iload_n K0 0 dL_law_329 rfl ?_
      refine rl_iconst (v := 3) K0 dL_law_330 rfl ?_
      refine rl_iadd K0 dL_law_331 ?_
      refine rl_sld K0 hb3 dL_law_332 ?_
      refine rl_aload_n K0 3 dL_law_333 rfl ?_
      refine rl_iload_n K0 0 dL_law_334 rfl ?_
      refine rl_iconst (v := 4) K0 dL_law_335 rfl ?_
      refine rl_iadd K0 dL_law_336 ?_
      refine rl_sld K0 hb4 dL_law_337 ?_
      refine rl_callm (rest := [.int r]) (st1 := [.int r, .int r]) K0 hll (c_Mod_operate l (GM D cy C) (rl_nodup _ _) fu C (rl_mem.mpr ⟨0, by decide, rfl⟩) (by simp [GM]; decide) (xs (nI i + 1).toNatClampNeg) (xs (nI i + 2).toNatClampNeg) (xs (nI i + 3).toNatClampNeg) (xs (nI i + 4).toNatClampNeg) σm _ _ hm1) q_974 q_975 q_976 q_11 q_977 hd_Mod_operate ⟨_, rfl, rfl⟩ ⟨by decide, by decide⟩ rfl rfl (Nat.le_of_ble_eq_true rfl) rfl dL_law_338 ?_
      refine rl_icmp_eq (tgt := 897) K0 dL_law_341 (by decide) (fun _ => ?_) (fun hq => absurd rfl hq)
      exact hnext _ _ hI1
    by_cases hs6 : sel = 6
    · refine rl_tin (tgt := 346) K0 hs6 dL_law_33 (by decide) (by decide) rfl (by decide) ?_
      obtain ⟨r, σx1, σm1, hx1, hm1, hI1⟩ := ho_6 (xs (nI i + 1).toNatClampNeg) (xs (nI i + 2).toNatClampNeg) (xs (nI i + 3).toNatClampNeg) (xs (nI i + 4).toNatClampNeg) (xs (nI i + 5).toNatClampNeg) σx σm hI
      refine rl_aload_n K0 2 dL_law_346 rfl ?_
      refine rl_aload_n K0 3 dL_law_347 rfl ?_
      refine rl_iload_n K0 0 dL_law_348 rfl ?_
      refine rl_iconst (v := 1) K0 dL_law_349 rfl ?_
      refine rl_iadd K0 dL_law_350 ?_
      refine rl_sld K0 hb1 dL_law_351 ?_
      refine rl_aload_n K0 3 dL_law_352 rfl ?_
      refine rl_iload_n K0 0 dL_law_353 rfl ?_
      refine rl_iconst (v := 2) K0 dL_law_354 rfl ?_
      refine rl_iadd K0 dL_law_355 ?_
      refine rl_sld K0 hb2 dL_law_356 ?_
      refine rl_aload_n K0 3 dL_law_357 rfl ?_
      refine rl_iload_n K0 0 dL_law_358 rfl ?_
      refine rl_iconst (v := 3) K0 dL_law_359 rfl ?_
      refine rl_iadd K0 dL_law_360 ?_
      refine rl_sld K0 hb3 dL_law_361 ?_
      refine rl_aload_n K0 3 dL_law_362 rfl ?_
      refine rl_iload_n K0 0 dL_law_363 rfl ?_
      refine rl_iconst (v := 4) K0 dL_law_364 rfl ?_
      refine rl_iadd K0 dL_law_365 ?_
      refine rl_sld K0 hb4 dL_law_366 ?_
      refine rl_aload_n K0 3 dL_law_367 rfl ?_
      refine rl_iload_n K0 0 dL_law_368 rfl ?_
      refine rl_iconst (v := 5) K0 dL_law_369 rfl ?_
      refine rl_iadd K0 dL_law_370 ?_
      refine rl_sld K0 hb5 dL_law_371 ?_
      refine rl_callx (rest := []) (st1 := [.int r]) K0 hll (c_Roo_join l (GX D cy B) (rl_nodup _ _) fu B (rl_mem.mpr ⟨0, by decide, rfl⟩) (by simp [GX]; decide) (xs (nI i + 1).toNatClampNeg) (xs (nI i + 2).toNatClampNeg) (xs (nI i + 3).toNatClampNeg) (xs (nI i + 4).toNatClampNeg) (xs (nI i + 5).toNatClampNeg) σx _ _ hx1) q_501 q_502 q_503 q_1 q_504 hd_Roo_join ⟨_, rfl, rfl⟩ ⟨by decide, by decide⟩ rfl rfl (Nat.le_of_ble_eq_true rfl) rfl dL_law_372 ?_
      refine rl_aload_n K0 1 dL_law_375 rfl ?_
      refine rl_aload_n K0 3 dL_law_376 rfl ?_
      refine rl_iload_n K0 0 dL_law_377 rfl ?_
      refine rl_iconst (v := 1) K0 dL_law_378 rfl ?_
      refine rl_iadd K0 dL_law_379 ?_
      refine rl_sld K0 hb1 dL_law_380 ?_
      refine rl_aload_n K0 3 dL_law_381 rfl ?_
      refine rl_iload_n K0 0 dL_law_382 rfl ?_
      refine rl_iconst (v := 2) K0 dL_law_383 rfl ?_
      refine rl_iadd K0 dL_law_384 ?_
      refine rl_sld K0 hb2 dL_law_385 ?_
      refine rl_aload_n K0 3 dL_law_386 rfl ?_
      refine rl_iload_n K0 0 dL_law_387 rfl ?_
      refine rl_iconst (v := 3) K0 dL_law_388 rfl ?_
      refine rl_iadd K0 dL_law_389 ?_
      refine rl_sld K0 hb3 dL_law_390 ?_
      refine rl_aload_n K0 3 dL_law_391 rfl ?_
      refine rl_iload_n K0 0 dL_law_392 rfl ?_
      refine rl_iconst (v := 4) K0 dL_law_393 rfl ?_
      refine rl_iadd K0 dL_law_394 ?_
      refine rl_sld K0 hb4 dL_law_395 ?_
      refine rl_aload_n K0 3 dL_law_396 rfl ?_
      refine rl_iload_n K0 0 dL_law_397 rfl ?_
      refine rl_iconst (v := 5) K0 dL_law_398 rfl ?_
      refine rl_iadd K0 dL_law_399 ?_
      refine rl_sld K0 hb5 dL_law_400 ?_
      refine rl_callm (rest := [.int r]) (st1 := [.int r, .int r]) K0 hll (c_Mod_join l (GM D cy C) (rl_nodup _ _) fu C (rl_mem.mpr ⟨0, by decide, rfl⟩) (by simp [GM]; decide) (xs (nI i + 1).toNatClampNeg) (xs (nI i + 2).toNatClampNeg) (xs (nI i + 3).toNatClampNeg) (xs (nI i + 4).toNatClampNeg) (xs (nI i + 5).toNatClampNeg) σm _ _ hm1) q_1042 q_1043 q_1044 q_11 q_1045 hd_Mod_join ⟨_, rfl, rfl⟩ ⟨by decide, by decide⟩ rfl rfl (Nat.le_of_ble_eq_true rfl) rfl dL_law_401 ?_
      refine rl_icmp_eq (tgt := 897) K0 dL_law_404 (by decide) (fun _ => ?_) (fun hq => absurd rfl hq)
      exact hnext _ _ hI1
    by_cases hs7 : sel = 7
    · refine rl_tin (tgt := 409) K0 hs7 dL_law_33 (by decide) (by decide) rfl (by decide) ?_
      obtain ⟨r, σx1, σm1, hx1, hm1, hI1⟩ := ho_7 (xs (nI i + 1).toNatClampNeg) (xs (nI i + 2).toNatClampNeg) (xs (nI i + 3).toNatClampNeg) σx σm hI
      refine rl_aload_n K0 2 dL_law_409 rfl ?_
      refine rl_aload_n K0 3 dL_law_410 rfl ?_
      refine rl_iload_n K0 0 dL_law_411 rfl ?_
      refine rl_iconst (v := 1) K0 dL_law_412 rfl ?_
      refine rl_iadd K0 dL_law_413 ?_
      refine rl_sld K0 hb1 dL_law_414 ?_
      refine rl_aload_n K0 3 dL_law_415 rfl ?_
      refine rl_iload_n K0 0 dL_law_416 rfl ?_
      refine rl_iconst (v := 2) K0 dL_law_417 rfl ?_
      refine rl_iadd K0 dL_law_418 ?_
      refine rl_sld K0 hb2 dL_law_419 ?_
      refine rl_aload_n K0 3 dL_law_420 rfl ?_
      refine rl_iload_n K0 0 dL_law_421 rfl ?_
      refine rl_iconst (v := 3) K0 dL_law_422 rfl ?_
      refine rl_iadd K0 dL_law_423 ?_
      refine rl_sld K0 hb3 dL_law_424 ?_
      refine rl_callx (rest := []) (st1 := [.int r]) K0 hll (c_Roo_times l (GX D cy B) (rl_nodup _ _) fu B (rl_mem.mpr ⟨0, by decide, rfl⟩) (by simp [GX]; decide) (xs (nI i + 1).toNatClampNeg) (xs (nI i + 2).toNatClampNeg) (xs (nI i + 3).toNatClampNeg) σx _ _ hx1) q_509 q_510 q_511 q_1 q_512 hd_Roo_times ⟨_, rfl, rfl⟩ ⟨by decide, by decide⟩ rfl rfl (Nat.le_of_ble_eq_true rfl) rfl dL_law_425 ?_
      refine rl_aload_n K0 1 dL_law_428 rfl ?_
      refine rl_aload_n K0 3 dL_law_429 rfl ?_
      refine rl_iload_n K0 0 dL_law_430 rfl ?_
      refine rl_iconst (v := 1) K0 dL_law_431 rfl ?_
      refine rl_iadd K0 dL_law_432 ?_
      refine rl_sld K0 hb1 dL_law_433 ?_
      refine rl_aload_n K0 3 dL_law_434 rfl ?_
      refine rl_iload_n K0 0 dL_law_435 rfl ?_
      refine rl_iconst (v := 2) K0 dL_law_436 rfl ?_
      refine rl_iadd K0 dL_law_437 ?_
      refine rl_sld K0 hb2 dL_law_438 ?_
      refine rl_aload_n K0 3 dL_law_439 rfl ?_
      refine rl_iload_n K0 0 dL_law_440 rfl ?_
      refine rl_iconst (v := 3) K0 dL_law_441 rfl ?_
      refine rl_iadd K0 dL_law_442 ?_
      refine rl_sld K0 hb3 dL_law_443 ?_
      refine rl_callm (rest := [.int r]) (st1 := [.int r, .int r]) K0 hll (c_Mod_times l (GM D cy C) (rl_nodup _ _) fu C (rl_mem.mpr ⟨0, by decide, rfl⟩) (by simp [GM]; decide) (xs (nI i + 1).toNatClampNeg) (xs (nI i + 2).toNatClampNeg) (xs (nI i + 3).toNatClampNeg) σm _ _ hm1) q_1046 q_1047 q_1048 q_11 q_1049 hd_Mod_times ⟨_, rfl, rfl⟩ ⟨by decide, by decide⟩ rfl rfl (Nat.le_of_ble_eq_true rfl) rfl dL_law_444 ?_
      refine rl_icmp_eq (tgt := 897) K0 dL_law_447 (by decide) (fun _ => ?_) (fun hq => absurd rfl hq)
      exact hnext _ _ hI1
    by_cases hs8 : sel = 8
    · refine rl_tin (tgt := 452) K0 hs8 dL_law_33 (by decide) (by decide) rfl (by decide) ?_
      obtain ⟨r, σx1, σm1, hx1, ex1, hm1, hI1⟩ := ho_8 (xs (nI i + 1).toNatClampNeg) (xs (nI i + 2).toNatClampNeg) σx σm hI
      rw [ex1] at hI1
      refine rl_aload_n K0 2 dL_law_452 rfl ?_
      refine rl_aload_n K0 3 dL_law_453 rfl ?_
      refine rl_iload_n K0 0 dL_law_454 rfl ?_
      refine rl_iconst (v := 1) K0 dL_law_455 rfl ?_
      refine rl_iadd K0 dL_law_456 ?_
      refine rl_sld K0 hb1 dL_law_457 ?_
      refine rl_aload_n K0 3 dL_law_458 rfl ?_
      refine rl_iload_n K0 0 dL_law_459 rfl ?_
      refine rl_iconst (v := 2) K0 dL_law_460 rfl ?_
      refine rl_iadd K0 dL_law_461 ?_
      refine rl_sld K0 hb2 dL_law_462 ?_
      refine rl_callx (rest := []) (st1 := [.long r]) K0 hll (c_Roo_number l (GX D cy B) (rl_nodup _ _) B (rl_mem.mpr ⟨0, by decide, rfl⟩) (by simp [GX]; decide) (xs (nI i + 1).toNatClampNeg) (xs (nI i + 2).toNatClampNeg) σx _ hx1) q_517 q_518 q_519 q_1 q_520 hd_Roo_number ⟨_, rfl, rfl⟩ ⟨by decide, by decide⟩ rfl rfl (Nat.le_of_ble_eq_true rfl) rfl dL_law_463 ?_
      refine rl_aload_n K0 1 dL_law_466 rfl ?_
      refine rl_aload_n K0 3 dL_law_467 rfl ?_
      refine rl_iload_n K0 0 dL_law_468 rfl ?_
      refine rl_iconst (v := 1) K0 dL_law_469 rfl ?_
      refine rl_iadd K0 dL_law_470 ?_
      refine rl_sld K0 hb1 dL_law_471 ?_
      refine rl_aload_n K0 3 dL_law_472 rfl ?_
      refine rl_iload_n K0 0 dL_law_473 rfl ?_
      refine rl_iconst (v := 2) K0 dL_law_474 rfl ?_
      refine rl_iadd K0 dL_law_475 ?_
      refine rl_sld K0 hb2 dL_law_476 ?_
      refine rl_callm (rest := [.long r]) (st1 := [.long r, .long r]) K0 hll (c_Mod_number_ l (GM D cy C) (rl_nodup _ _) C (rl_mem.mpr ⟨0, by decide, rfl⟩) (by simp [GM]; decide) (xs (nI i + 1).toNatClampNeg) (xs (nI i + 2).toNatClampNeg) σm _ _ hm1) q_1050 q_1051 q_1052 q_11 q_1053 hd_Mod_number_ ⟨_, rfl, rfl⟩ ⟨by decide, by decide⟩ rfl rfl (Nat.le_of_ble_eq_true rfl) rfl dL_law_477 ?_
      refine rl_lcmpeq (tgt := 897) K0 dL_law_480 dL_law_481 (by decide) ?_
      exact hnext _ _ hI1
    by_cases hs9 : sel = 9
    · refine rl_tin (tgt := 486) K0 hs9 dL_law_33 (by decide) (by decide) rfl (by decide) ?_
      obtain ⟨r, σx1, σm1, hx1, hm1, hI1⟩ := ho_9 (xs (nI i + 1).toNatClampNeg) (xs (nI i + 2).toNatClampNeg) σx σm hI
      refine rl_aload_n K0 2 dL_law_486 rfl ?_
      refine rl_aload_n K0 3 dL_law_487 rfl ?_
      refine rl_iload_n K0 0 dL_law_488 rfl ?_
      refine rl_iconst (v := 1) K0 dL_law_489 rfl ?_
      refine rl_iadd K0 dL_law_490 ?_
      refine rl_sld K0 hb1 dL_law_491 ?_
      refine rl_aload_n K0 3 dL_law_492 rfl ?_
      refine rl_iload_n K0 0 dL_law_493 rfl ?_
      refine rl_iconst (v := 2) K0 dL_law_494 rfl ?_
      refine rl_iadd K0 dL_law_495 ?_
      refine rl_sld K0 hb2 dL_law_496 ?_
      refine rl_callx (rest := []) (st1 := [.int r]) K0 hll (c_Roo_count l (GX D cy B) (rl_nodup _ _) fu B (rl_mem.mpr ⟨0, by decide, rfl⟩) (by simp [GX]; decide) (xs (nI i + 1).toNatClampNeg) (xs (nI i + 2).toNatClampNeg) σx _ _ hx1) q_522 q_523 q_524 q_1 q_525 hd_Roo_count ⟨_, rfl, rfl⟩ ⟨by decide, by decide⟩ rfl rfl (Nat.le_of_ble_eq_true rfl) rfl dL_law_497 ?_
      refine rl_aload_n K0 1 dL_law_500 rfl ?_
      refine rl_aload_n K0 3 dL_law_501 rfl ?_
      refine rl_iload_n K0 0 dL_law_502 rfl ?_
      refine rl_iconst (v := 1) K0 dL_law_503 rfl ?_
      refine rl_iadd K0 dL_law_504 ?_
      refine rl_sld K0 hb1 dL_law_505 ?_
      refine rl_aload_n K0 3 dL_law_506 rfl ?_
      refine rl_iload_n K0 0 dL_law_507 rfl ?_
      refine rl_iconst (v := 2) K0 dL_law_508 rfl ?_
      refine rl_iadd K0 dL_law_509 ?_
      refine rl_sld K0 hb2 dL_law_510 ?_
      refine rl_callm (rest := [.int r]) (st1 := [.int r, .int r]) K0 hll (c_Mod_count l (GM D cy C) (rl_nodup _ _) fu C (rl_mem.mpr ⟨0, by decide, rfl⟩) (by simp [GM]; decide) (xs (nI i + 1).toNatClampNeg) (xs (nI i + 2).toNatClampNeg) σm _ _ hm1) q_1055 q_1056 q_1057 q_11 q_1058 hd_Mod_count ⟨_, rfl, rfl⟩ ⟨by decide, by decide⟩ rfl rfl (Nat.le_of_ble_eq_true rfl) rfl dL_law_511 ?_
      refine rl_icmp_eq (tgt := 897) K0 dL_law_514 (by decide) (fun _ => ?_) (fun hq => absurd rfl hq)
      exact hnext _ _ hI1
    by_cases hs10 : sel = 10
    · refine rl_tin (tgt := 519) K0 hs10 dL_law_33 (by decide) (by decide) rfl (by decide) ?_
      obtain ⟨r, σx1, σm1, hx1, hm1, hI1⟩ := ho_10 (xs (nI i + 1).toNatClampNeg) (xs (nI i + 2).toNatClampNeg) (xs (nI i + 3).toNatClampNeg) σx σm hI
      refine rl_aload_n K0 2 dL_law_519 rfl ?_
      refine rl_aload_n K0 3 dL_law_520 rfl ?_
      refine rl_iload_n K0 0 dL_law_521 rfl ?_
      refine rl_iconst (v := 1) K0 dL_law_522 rfl ?_
      refine rl_iadd K0 dL_law_523 ?_
      refine rl_sld K0 hb1 dL_law_524 ?_
      refine rl_aload_n K0 3 dL_law_525 rfl ?_
      refine rl_iload_n K0 0 dL_law_526 rfl ?_
      refine rl_iconst (v := 2) K0 dL_law_527 rfl ?_
      refine rl_iadd K0 dL_law_528 ?_
      refine rl_sld K0 hb2 dL_law_529 ?_
      refine rl_aload_n K0 3 dL_law_530 rfl ?_
      refine rl_iload_n K0 0 dL_law_531 rfl ?_
      refine rl_iconst (v := 3) K0 dL_law_532 rfl ?_
      refine rl_iadd K0 dL_law_533 ?_
      refine rl_sld K0 hb3 dL_law_534 ?_
      refine rl_callx (rest := []) (st1 := [.long r]) K0 hll (c_Roo_root l (GX D cy B) (rl_nodup _ _) fu B (rl_mem.mpr ⟨0, by decide, rfl⟩) (by simp [GX]; decide) (xs (nI i + 1).toNatClampNeg) (xs (nI i + 2).toNatClampNeg) (xs (nI i + 3).toNatClampNeg) σx _ _ hx1) q_661 q_662 q_663 q_1 q_664 hd_Roo_root ⟨_, rfl, rfl⟩ ⟨by decide, by decide⟩ rfl rfl (Nat.le_of_ble_eq_true rfl) rfl dL_law_535 ?_
      refine rl_aload_n K0 1 dL_law_538 rfl ?_
      refine rl_aload_n K0 3 dL_law_539 rfl ?_
      refine rl_iload_n K0 0 dL_law_540 rfl ?_
      refine rl_iconst (v := 1) K0 dL_law_541 rfl ?_
      refine rl_iadd K0 dL_law_542 ?_
      refine rl_sld K0 hb1 dL_law_543 ?_
      refine rl_aload_n K0 3 dL_law_544 rfl ?_
      refine rl_iload_n K0 0 dL_law_545 rfl ?_
      refine rl_iconst (v := 2) K0 dL_law_546 rfl ?_
      refine rl_iadd K0 dL_law_547 ?_
      refine rl_sld K0 hb2 dL_law_548 ?_
      refine rl_aload_n K0 3 dL_law_549 rfl ?_
      refine rl_iload_n K0 0 dL_law_550 rfl ?_
      refine rl_iconst (v := 3) K0 dL_law_551 rfl ?_
      refine rl_iadd K0 dL_law_552 ?_
      refine rl_sld K0 hb3 dL_law_553 ?_
      refine rl_callm (rest := [.long r]) (st1 := [.long r, .long r]) K0 hll (c_Mod_root l (GM D cy C) (rl_nodup _ _) fu C (rl_mem.mpr ⟨0, by decide, rfl⟩) (by simp [GM]; decide) (xs (nI i + 1).toNatClampNeg) (xs (nI i + 2).toNatClampNeg) (xs (nI i + 3).toNatClampNeg) σm _ _ hm1) q_1135 q_1136 q_1137 q_11 q_1138 hd_Mod_root ⟨_, rfl, rfl⟩ ⟨by decide, by decide⟩ rfl rfl (Nat.le_of_ble_eq_true rfl) rfl dL_law_554 ?_
      refine rl_lcmpeq (tgt := 897) K0 dL_law_557 dL_law_558 (by decide) ?_
      exact hnext _ _ hI1
    by_cases hs11 : sel = 11
    · refine rl_tin (tgt := 563) K0 hs11 dL_law_33 (by decide) (by decide) rfl (by decide) ?_
      obtain ⟨r, σx1, σm1, hx1, hm1, hI1⟩ := ho_11 (xs (nI i + 1).toNatClampNeg) (xs (nI i + 2).toNatClampNeg) σx σm hI
      refine rl_aload_n K0 2 dL_law_563 rfl ?_
      refine rl_aload_n K0 3 dL_law_564 rfl ?_
      refine rl_iload_n K0 0 dL_law_565 rfl ?_
      refine rl_iconst (v := 1) K0 dL_law_566 rfl ?_
      refine rl_iadd K0 dL_law_567 ?_
      refine rl_sld K0 hb1 dL_law_568 ?_
      refine rl_aload_n K0 3 dL_law_569 rfl ?_
      refine rl_iload_n K0 0 dL_law_570 rfl ?_
      refine rl_iconst (v := 2) K0 dL_law_571 rfl ?_
      refine rl_iadd K0 dL_law_572 ?_
      refine rl_sld K0 hb2 dL_law_573 ?_
      refine rl_callx (rest := []) (st1 := [.int r]) K0 hll (c_Roo_often l (GX D cy B) (rl_nodup _ _) fu B (rl_mem.mpr ⟨0, by decide, rfl⟩) (by simp [GX]; decide) (xs (nI i + 1).toNatClampNeg) (xs (nI i + 2).toNatClampNeg) σx _ _ hx1) q_763 q_764 q_765 q_1 q_766 hd_Roo_often ⟨_, rfl, rfl⟩ ⟨by decide, by decide⟩ rfl rfl (Nat.le_of_ble_eq_true rfl) rfl dL_law_574 ?_
      refine rl_aload_n K0 1 dL_law_577 rfl ?_
      refine rl_aload_n K0 3 dL_law_578 rfl ?_
      refine rl_iload_n K0 0 dL_law_579 rfl ?_
      refine rl_iconst (v := 1) K0 dL_law_580 rfl ?_
      refine rl_iadd K0 dL_law_581 ?_
      refine rl_sld K0 hb1 dL_law_582 ?_
      refine rl_aload_n K0 3 dL_law_583 rfl ?_
      refine rl_iload_n K0 0 dL_law_584 rfl ?_
      refine rl_iconst (v := 2) K0 dL_law_585 rfl ?_
      refine rl_iadd K0 dL_law_586 ?_
      refine rl_sld K0 hb2 dL_law_587 ?_
      refine rl_callm (rest := [.int r]) (st1 := [.int r, .int r]) K0 hll (c_Mod_often l (GM D cy C) (rl_nodup _ _) fu C (rl_mem.mpr ⟨0, by decide, rfl⟩) (by simp [GM]; decide) (xs (nI i + 1).toNatClampNeg) (xs (nI i + 2).toNatClampNeg) σm _ _ hm1) q_1173 q_1174 q_1175 q_11 q_1176 hd_Mod_often ⟨_, rfl, rfl⟩ ⟨by decide, by decide⟩ rfl rfl (Nat.le_of_ble_eq_true rfl) rfl dL_law_588 ?_
      refine rl_icmp_eq (tgt := 897) K0 dL_law_591 (by decide) (fun _ => ?_) (fun hq => absurd rfl hq)
      exact hnext _ _ hI1
    by_cases hs12 : sel = 12
    · refine rl_tin (tgt := 596) K0 hs12 dL_law_33 (by decide) (by decide) rfl (by decide) ?_
      obtain ⟨r, σx1, σm1, hx1, hm1, hI1⟩ := ho_12 (xs (nI i + 1).toNatClampNeg) (xs (nI i + 2).toNatClampNeg) (xs (nI i + 3).toNatClampNeg) σx σm hI
      refine rl_aload_n K0 2 dL_law_596 rfl ?_
      refine rl_aload_n K0 3 dL_law_597 rfl ?_
      refine rl_iload_n K0 0 dL_law_598 rfl ?_
      refine rl_iconst (v := 1) K0 dL_law_599 rfl ?_
      refine rl_iadd K0 dL_law_600 ?_
      refine rl_sld K0 hb1 dL_law_601 ?_
      refine rl_aload_n K0 3 dL_law_602 rfl ?_
      refine rl_iload_n K0 0 dL_law_603 rfl ?_
      refine rl_iconst (v := 2) K0 dL_law_604 rfl ?_
      refine rl_iadd K0 dL_law_605 ?_
      refine rl_sld K0 hb2 dL_law_606 ?_
      refine rl_aload_n K0 3 dL_law_607 rfl ?_
      refine rl_iload_n K0 0 dL_law_608 rfl ?_
      refine rl_iconst (v := 3) K0 dL_law_609 rfl ?_
      refine rl_iadd K0 dL_law_610 ?_
      refine rl_sld K0 hb3 dL_law_611 ?_
      refine rl_callx (rest := []) (st1 := [.int r]) K0 hll (c_Roo_between l (GX D cy B) (rl_nodup _ _) fu B (rl_mem.mpr ⟨0, by decide, rfl⟩) (by simp [GX]; decide) (xs (nI i + 1).toNatClampNeg) (xs (nI i + 2).toNatClampNeg) (xs (nI i + 3).toNatClampNeg) σx _ _ hx1) q_767 q_768 q_769 q_1 q_770 hd_Roo_between ⟨_, rfl, rfl⟩ ⟨by decide, by decide⟩ rfl rfl (Nat.le_of_ble_eq_true rfl) rfl dL_law_612 ?_
      refine rl_aload_n K0 1 dL_law_615 rfl ?_
      refine rl_aload_n K0 3 dL_law_616 rfl ?_
      refine rl_iload_n K0 0 dL_law_617 rfl ?_
      refine rl_iconst (v := 1) K0 dL_law_618 rfl ?_
      refine rl_iadd K0 dL_law_619 ?_
      refine rl_sld K0 hb1 dL_law_620 ?_
      refine rl_aload_n K0 3 dL_law_621 rfl ?_
      refine rl_iload_n K0 0 dL_law_622 rfl ?_
      refine rl_iconst (v := 2) K0 dL_law_623 rfl ?_
      refine rl_iadd K0 dL_law_624 ?_
      refine rl_sld K0 hb2 dL_law_625 ?_
      refine rl_aload_n K0 3 dL_law_626 rfl ?_
      refine rl_iload_n K0 0 dL_law_627 rfl ?_
      refine rl_iconst (v := 3) K0 dL_law_628 rfl ?_
      refine rl_iadd K0 dL_law_629 ?_
      refine rl_sld K0 hb3 dL_law_630 ?_
      refine rl_callm (rest := [.int r]) (st1 := [.int r, .int r]) K0 hll (c_Mod_between l (GM D cy C) (rl_nodup _ _) fu C (rl_mem.mpr ⟨0, by decide, rfl⟩) (by simp [GM]; decide) (xs (nI i + 1).toNatClampNeg) (xs (nI i + 2).toNatClampNeg) (xs (nI i + 3).toNatClampNeg) σm _ _ hm1) q_1183 q_1184 q_1185 q_11 q_1186 hd_Mod_between ⟨_, rfl, rfl⟩ ⟨by decide, by decide⟩ rfl rfl (Nat.le_of_ble_eq_true rfl) rfl dL_law_631 ?_
      refine rl_icmp_eq (tgt := 897) K0 dL_law_634 (by decide) (fun _ => ?_) (fun hq => absurd rfl hq)
      exact hnext _ _ hI1
    by_cases hs13 : sel = 13
    · refine rl_tin (tgt := 639) K0 hs13 dL_law_33 (by decide) (by decide) rfl (by decide) ?_
      obtain ⟨r, σx1, σm1, hx1, hm1, hI1⟩ := ho_13 (xs (nI i + 1).toNatClampNeg) (xs (nI i + 2).toNatClampNeg) (xs (nI i + 3).toNatClampNeg) σx σm hI
      refine rl_aload_n K0 2 dL_law_639 rfl ?_
      refine rl_aload_n K0 3 dL_law_640 rfl ?_
      refine rl_iload_n K0 0 dL_law_641 rfl ?_
      refine rl_iconst (v := 1) K0 dL_law_642 rfl ?_
      refine rl_iadd K0 dL_law_643 ?_
      refine rl_sld K0 hb1 dL_law_644 ?_
      refine rl_aload_n K0 3 dL_law_645 rfl ?_
      refine rl_iload_n K0 0 dL_law_646 rfl ?_
      refine rl_iconst (v := 2) K0 dL_law_647 rfl ?_
      refine rl_iadd K0 dL_law_648 ?_
      refine rl_sld K0 hb2 dL_law_649 ?_
      refine rl_aload_n K0 3 dL_law_650 rfl ?_
      refine rl_iload_n K0 0 dL_law_651 rfl ?_
      refine rl_iconst (v := 3) K0 dL_law_652 rfl ?_
      refine rl_iadd K0 dL_law_653 ?_
      refine rl_sld K0 hb3 dL_law_654 ?_
      refine rl_callx (rest := []) (st1 := [.int r]) K0 hll (c_Roo_sign l (GX D cy B) (rl_nodup _ _) fu B (rl_mem.mpr ⟨0, by decide, rfl⟩) (by simp [GX]; decide) (xs (nI i + 1).toNatClampNeg) (xs (nI i + 2).toNatClampNeg) (xs (nI i + 3).toNatClampNeg) σx _ _ hx1) q_775 q_776 q_777 q_1 q_778 hd_Roo_sign ⟨_, rfl, rfl⟩ ⟨by decide, by decide⟩ rfl rfl (Nat.le_of_ble_eq_true rfl) rfl dL_law_655 ?_
      refine rl_aload_n K0 1 dL_law_658 rfl ?_
      refine rl_aload_n K0 3 dL_law_659 rfl ?_
      refine rl_iload_n K0 0 dL_law_660 rfl ?_
      refine rl_iconst (v := 1) K0 dL_law_661 rfl ?_
      refine rl_iadd K0 dL_law_662 ?_
      refine rl_sld K0 hb1 dL_law_663 ?_
      refine rl_aload_n K0 3 dL_law_664 rfl ?_
      refine rl_iload_n K0 0 dL_law_665 rfl ?_
      refine rl_iconst (v := 2) K0 dL_law_666 rfl ?_
      refine rl_iadd K0 dL_law_667 ?_
      refine rl_sld K0 hb2 dL_law_668 ?_
      refine rl_aload_n K0 3 dL_law_669 rfl ?_
      refine rl_iload_n K0 0 dL_law_670 rfl ?_
      refine rl_iconst (v := 3) K0 dL_law_671 rfl ?_
      refine rl_iadd K0 dL_law_672 ?_
      refine rl_sld K0 hb3 dL_law_673 ?_
      refine rl_callm (rest := [.int r]) (st1 := [.int r, .int r]) K0 hll (c_Mod_sign l (GM D cy C) (rl_nodup _ _) fu C (rl_mem.mpr ⟨0, by decide, rfl⟩) (by simp [GM]; decide) (xs (nI i + 1).toNatClampNeg) (xs (nI i + 2).toNatClampNeg) (xs (nI i + 3).toNatClampNeg) σm _ _ hm1) q_1187 q_1188 q_1189 q_11 q_1190 hd_Mod_sign ⟨_, rfl, rfl⟩ ⟨by decide, by decide⟩ rfl rfl (Nat.le_of_ble_eq_true rfl) rfl dL_law_674 ?_
      refine rl_icmp_eq (tgt := 897) K0 dL_law_677 (by decide) (fun _ => ?_) (fun hq => absurd rfl hq)
      exact hnext _ _ hI1
    by_cases hs14 : sel = 14
    · refine rl_tin (tgt := 682) K0 hs14 dL_law_33 (by decide) (by decide) rfl (by decide) ?_
      obtain ⟨r, σx1, σm1, hx1, hm1, hI1⟩ := ho_14 (xs (nI i + 1).toNatClampNeg) (xs (nI i + 2).toNatClampNeg) σx σm hI
      refine rl_aload_n K0 2 dL_law_682 rfl ?_
      refine rl_aload_n K0 3 dL_law_683 rfl ?_
      refine rl_iload_n K0 0 dL_law_684 rfl ?_
      refine rl_iconst (v := 1) K0 dL_law_685 rfl ?_
      refine rl_iadd K0 dL_law_686 ?_
      refine rl_sld K0 hb1 dL_law_687 ?_
      refine rl_aload_n K0 3 dL_law_688 rfl ?_
      refine rl_iload_n K0 0 dL_law_689 rfl ?_
      refine rl_iconst (v := 2) K0 dL_law_690 rfl ?_
      refine rl_iadd K0 dL_law_691 ?_
      refine rl_sld K0 hb2 dL_law_692 ?_
      refine rl_callx (rest := []) (st1 := [.int r]) K0 hll (c_Roo_laced l (GX D cy B) (rl_nodup _ _) fu B (rl_mem.mpr ⟨0, by decide, rfl⟩) (by simp [GX]; decide) (xs (nI i + 1).toNatClampNeg) (xs (nI i + 2).toNatClampNeg) σx _ _ hx1) q_781 q_782 q_783 q_1 q_784 hd_Roo_laced ⟨_, rfl, rfl⟩ ⟨by decide, by decide⟩ rfl rfl (Nat.le_of_ble_eq_true rfl) rfl dL_law_693 ?_
      refine rl_aload_n K0 1 dL_law_696 rfl ?_
      refine rl_aload_n K0 3 dL_law_697 rfl ?_
      refine rl_iload_n K0 0 dL_law_698 rfl ?_
      refine rl_iconst (v := 1) K0 dL_law_699 rfl ?_
      refine rl_iadd K0 dL_law_700 ?_
      refine rl_sld K0 hb1 dL_law_701 ?_
      refine rl_aload_n K0 3 dL_law_702 rfl ?_
      refine rl_iload_n K0 0 dL_law_703 rfl ?_
      refine rl_iconst (v := 2) K0 dL_law_704 rfl ?_
      refine rl_iadd K0 dL_law_705 ?_
      refine rl_sld K0 hb2 dL_law_706 ?_
      refine rl_callm (rest := [.int r]) (st1 := [.int r, .int r]) K0 hll (c_Mod_laced l (GM D cy C) (rl_nodup _ _) fu C (rl_mem.mpr ⟨0, by decide, rfl⟩) (by simp [GM]; decide) (xs (nI i + 1).toNatClampNeg) (xs (nI i + 2).toNatClampNeg) σm _ _ hm1) q_1191 q_1192 q_1193 q_11 q_1194 hd_Mod_laced ⟨_, rfl, rfl⟩ ⟨by decide, by decide⟩ rfl rfl (Nat.le_of_ble_eq_true rfl) rfl dL_law_707 ?_
      refine rl_icmp_eq (tgt := 897) K0 dL_law_710 (by decide) (fun _ => ?_) (fun hq => absurd rfl hq)
      exact hnext _ _ hI1
    by_cases hs15 : sel = 15
    · refine rl_tin (tgt := 715) K0 hs15 dL_law_33 (by decide) (by decide) rfl (by decide) ?_
      obtain ⟨r, σx1, σm1, hx1, hm1, hI1⟩ := ho_15 (xs (nI i + 1).toNatClampNeg) (xs (nI i + 2).toNatClampNeg) σx σm hI
      refine rl_aload_n K0 2 dL_law_715 rfl ?_
      refine rl_aload_n K0 3 dL_law_716 rfl ?_
      refine rl_iload_n K0 0 dL_law_717 rfl ?_
      refine rl_iconst (v := 1) K0 dL_law_718 rfl ?_
      refine rl_iadd K0 dL_law_719 ?_
      refine rl_sld K0 hb1 dL_law_720 ?_
      refine rl_aload_n K0 3 dL_law_721 rfl ?_
      refine rl_iload_n K0 0 dL_law_722 rfl ?_
      refine rl_iconst (v := 2) K0 dL_law_723 rfl ?_
      refine rl_iadd K0 dL_law_724 ?_
      refine rl_sld K0 hb2 dL_law_725 ?_
      refine rl_callx (rest := []) (st1 := [.int r]) K0 hll (c_Roo_chain l (GX D cy B) (rl_nodup _ _) fu B (rl_mem.mpr ⟨0, by decide, rfl⟩) (by simp [GX]; decide) (xs (nI i + 1).toNatClampNeg) (xs (nI i + 2).toNatClampNeg) σx _ _ hx1) q_792 q_793 q_794 q_1 q_795 hd_Roo_chain ⟨_, rfl, rfl⟩ ⟨by decide, by decide⟩ rfl rfl (Nat.le_of_ble_eq_true rfl) rfl dL_law_726 ?_
      refine rl_aload_n K0 1 dL_law_729 rfl ?_
      refine rl_aload_n K0 3 dL_law_730 rfl ?_
      refine rl_iload_n K0 0 dL_law_731 rfl ?_
      refine rl_iconst (v := 1) K0 dL_law_732 rfl ?_
      refine rl_iadd K0 dL_law_733 ?_
      refine rl_sld K0 hb1 dL_law_734 ?_
      refine rl_aload_n K0 3 dL_law_735 rfl ?_
      refine rl_iload_n K0 0 dL_law_736 rfl ?_
      refine rl_iconst (v := 2) K0 dL_law_737 rfl ?_
      refine rl_iadd K0 dL_law_738 ?_
      refine rl_sld K0 hb2 dL_law_739 ?_
      refine rl_callm (rest := [.int r]) (st1 := [.int r, .int r]) K0 hll (c_Mod_chain l (GM D cy C) (rl_nodup _ _) fu C (rl_mem.mpr ⟨0, by decide, rfl⟩) (by simp [GM]; decide) (xs (nI i + 1).toNatClampNeg) (xs (nI i + 2).toNatClampNeg) σm _ _ hm1) q_1199 q_1200 q_1201 q_11 q_1202 hd_Mod_chain ⟨_, rfl, rfl⟩ ⟨by decide, by decide⟩ rfl rfl (Nat.le_of_ble_eq_true rfl) rfl dL_law_740 ?_
      refine rl_icmp_eq (tgt := 897) K0 dL_law_743 (by decide) (fun _ => ?_) (fun hq => absurd rfl hq)
      exact hnext _ _ hI1
    by_cases hs16 : sel = 16
    · refine rl_tin (tgt := 748) K0 hs16 dL_law_33 (by decide) (by decide) rfl (by decide) ?_
      obtain ⟨r, σx1, σm1, hx1, hm1, hI1⟩ := ho_16 (xs (nI i + 1).toNatClampNeg) (xs (nI i + 2).toNatClampNeg) (xs (nI i + 3).toNatClampNeg) σx σm hI
      refine rl_aload_n K0 2 dL_law_748 rfl ?_
      refine rl_aload_n K0 3 dL_law_749 rfl ?_
      refine rl_iload_n K0 0 dL_law_750 rfl ?_
      refine rl_iconst (v := 1) K0 dL_law_751 rfl ?_
      refine rl_iadd K0 dL_law_752 ?_
      refine rl_sld K0 hb1 dL_law_753 ?_
      refine rl_aload_n K0 3 dL_law_754 rfl ?_
      refine rl_iload_n K0 0 dL_law_755 rfl ?_
      refine rl_iconst (v := 2) K0 dL_law_756 rfl ?_
      refine rl_iadd K0 dL_law_757 ?_
      refine rl_sld K0 hb2 dL_law_758 ?_
      refine rl_aload_n K0 3 dL_law_759 rfl ?_
      refine rl_iload_n K0 0 dL_law_760 rfl ?_
      refine rl_iconst (v := 3) K0 dL_law_761 rfl ?_
      refine rl_iadd K0 dL_law_762 ?_
      refine rl_sld K0 hb3 dL_law_763 ?_
      refine rl_callx (rest := []) (st1 := [.int r]) K0 hll (c_Roo_member l (GX D cy B) (rl_nodup _ _) fu B (rl_mem.mpr ⟨0, by decide, rfl⟩) (by simp [GX]; decide) (xs (nI i + 1).toNatClampNeg) (xs (nI i + 2).toNatClampNeg) (xs (nI i + 3).toNatClampNeg) σx _ _ hx1) q_796 q_797 q_798 q_1 q_799 hd_Roo_member ⟨_, rfl, rfl⟩ ⟨by decide, by decide⟩ rfl rfl (Nat.le_of_ble_eq_true rfl) rfl dL_law_764 ?_
      refine rl_aload_n K0 1 dL_law_767 rfl ?_
      refine rl_aload_n K0 3 dL_law_768 rfl ?_
      refine rl_iload_n K0 0 dL_law_769 rfl ?_
      refine rl_iconst (v := 1) K0 dL_law_770 rfl ?_
      refine rl_iadd K0 dL_law_771 ?_
      refine rl_sld K0 hb1 dL_law_772 ?_
      refine rl_aload_n K0 3 dL_law_773 rfl ?_
      refine rl_iload_n K0 0 dL_law_774 rfl ?_
      refine rl_iconst (v := 2) K0 dL_law_775 rfl ?_
      refine rl_iadd K0 dL_law_776 ?_
      refine rl_sld K0 hb2 dL_law_777 ?_
      refine rl_aload_n K0 3 dL_law_778 rfl ?_
      refine rl_iload_n K0 0 dL_law_779 rfl ?_
      refine rl_iconst (v := 3) K0 dL_law_780 rfl ?_
      refine rl_iadd K0 dL_law_781 ?_
      refine rl_sld K0 hb3 dL_law_782 ?_
      refine rl_callm (rest := [.int r]) (st1 := [.int r, .int r]) K0 hll (c_Mod_member l (GM D cy C) (rl_nodup _ _) fu C (rl_mem.mpr ⟨0, by decide, rfl⟩) (by simp [GM]; decide) (xs (nI i + 1).toNatClampNeg) (xs (nI i + 2).toNatClampNeg) (xs (nI i + 3).toNatClampNeg) σm _ _ hm1) q_1203 q_1204 q_1205 q_11 q_1206 hd_Mod_member ⟨_, rfl, rfl⟩ ⟨by decide, by decide⟩ rfl rfl (Nat.le_of_ble_eq_true rfl) rfl dL_law_783 ?_
      refine rl_icmp_eq (tgt := 897) K0 dL_law_786 (by decide) (fun _ => ?_) (fun hq => absurd rfl hq)
      exact hnext _ _ hI1
    by_cases hs17 : sel = 17
    · refine rl_tin (tgt := 791) K0 hs17 dL_law_33 (by decide) (by decide) rfl (by decide) ?_
      obtain ⟨r, σx1, σm1, hx1, hm1, hI1⟩ := ho_17 (xs (nI i + 1).toNatClampNeg) σx σm hI
      refine rl_aload_n K0 2 dL_law_791 rfl ?_
      refine rl_aload_n K0 3 dL_law_792 rfl ?_
      refine rl_iload_n K0 0 dL_law_793 rfl ?_
      refine rl_iconst (v := 1) K0 dL_law_794 rfl ?_
      refine rl_iadd K0 dL_law_795 ?_
      refine rl_sld K0 hb1 dL_law_796 ?_
      refine rl_callx (rest := []) (st1 := [.int r]) K0 hll (c_Roo_fails l (GX D cy B) (rl_nodup _ _) fu B (rl_mem.mpr ⟨0, by decide, rfl⟩) (by simp [GX]; decide) (xs (nI i + 1).toNatClampNeg) σx _ _ hx1) q_800 q_801 q_802 q_1 q_803 hd_Roo_fails ⟨_, rfl, rfl⟩ ⟨by decide, by decide⟩ rfl rfl (Nat.le_of_ble_eq_true rfl) rfl dL_law_797 ?_
      refine rl_aload_n K0 1 dL_law_800 rfl ?_
      refine rl_aload_n K0 3 dL_law_801 rfl ?_
      refine rl_iload_n K0 0 dL_law_802 rfl ?_
      refine rl_iconst (v := 1) K0 dL_law_803 rfl ?_
      refine rl_iadd K0 dL_law_804 ?_
      refine rl_sld K0 hb1 dL_law_805 ?_
      refine rl_callm (rest := [.int r]) (st1 := [.int r, .int r]) K0 hll (c_Mod_fails_ l (GM D cy C) (rl_nodup _ _) fu C (rl_mem.mpr ⟨0, by decide, rfl⟩) (by simp [GM]; decide) (xs (nI i + 1).toNatClampNeg) σm _ _ hm1) q_1207 q_1208 q_1209 q_11 q_1210 hd_Mod_fails_ ⟨_, rfl, rfl⟩ ⟨by decide, by decide⟩ rfl rfl (Nat.le_of_ble_eq_true rfl) rfl dL_law_806 ?_
      refine rl_icmp_eq (tgt := 897) K0 dL_law_809 (by decide) (fun _ => ?_) (fun hq => absurd rfl hq)
      exact hnext _ _ hI1
    by_cases hs18 : sel = 18
    · refine rl_tin (tgt := 814) K0 hs18 dL_law_33 (by decide) (by decide) rfl (by decide) ?_
      obtain ⟨r, σx1, σm1, hx1, ex1, hm1, hI1⟩ := ho_18 (xs (nI i + 1).toNatClampNeg) (xs (nI i + 2).toNatClampNeg) σx σm hI
      rw [ex1] at hI1
      refine rl_aload_n K0 2 dL_law_814 rfl ?_
      refine rl_aload_n K0 3 dL_law_815 rfl ?_
      refine rl_iload_n K0 0 dL_law_816 rfl ?_
      refine rl_iconst (v := 1) K0 dL_law_817 rfl ?_
      refine rl_iadd K0 dL_law_818 ?_
      refine rl_sld K0 hb1 dL_law_819 ?_
      refine rl_aload_n K0 3 dL_law_820 rfl ?_
      refine rl_iload_n K0 0 dL_law_821 rfl ?_
      refine rl_iconst (v := 2) K0 dL_law_822 rfl ?_
      refine rl_iadd K0 dL_law_823 ?_
      refine rl_sld K0 hb2 dL_law_824 ?_
      refine rl_callx (rest := []) (st1 := [.int r]) K0 hll (c_Roo_row l (GX D cy B) (rl_nodup _ _) fu B (rl_mem.mpr ⟨0, by decide, rfl⟩) (by simp [GX]; decide) (xs (nI i + 1).toNatClampNeg) (xs (nI i + 2).toNatClampNeg) σx _ hx1) q_809 q_810 q_811 q_1 q_812 hd_Roo_row ⟨_, rfl, rfl⟩ ⟨by decide, by decide⟩ rfl rfl (Nat.le_of_ble_eq_true rfl) rfl dL_law_825 ?_
      refine rl_aload_n K0 1 dL_law_828 rfl ?_
      refine rl_aload_n K0 3 dL_law_829 rfl ?_
      refine rl_iload_n K0 0 dL_law_830 rfl ?_
      refine rl_iconst (v := 1) K0 dL_law_831 rfl ?_
      refine rl_iadd K0 dL_law_832 ?_
      refine rl_sld K0 hb1 dL_law_833 ?_
      refine rl_aload_n K0 3 dL_law_834 rfl ?_
      refine rl_iload_n K0 0 dL_law_835 rfl ?_
      refine rl_iconst (v := 2) K0 dL_law_836 rfl ?_
      refine rl_iadd K0 dL_law_837 ?_
      refine rl_sld K0 hb2 dL_law_838 ?_
      refine rl_callm (rest := [.int r]) (st1 := [.int r, .int r]) K0 hll (c_Mod_row l (GM D cy C) (rl_nodup _ _) fu C (rl_mem.mpr ⟨0, by decide, rfl⟩) (by simp [GM]; decide) (xs (nI i + 1).toNatClampNeg) (xs (nI i + 2).toNatClampNeg) σm _ _ hm1) q_1211 q_1212 q_1213 q_11 q_1214 hd_Mod_row ⟨_, rfl, rfl⟩ ⟨by decide, by decide⟩ rfl rfl (Nat.le_of_ble_eq_true rfl) rfl dL_law_839 ?_
      refine rl_icmp_eq (tgt := 897) K0 dL_law_842 (by decide) (fun _ => ?_) (fun hq => absurd rfl hq)
      exact hnext _ _ hI1
    by_cases hs19 : sel = 19
    · refine rl_tin (tgt := 847) K0 hs19 dL_law_33 (by decide) (by decide) rfl (by decide) ?_
      obtain ⟨z9, hz9, ez9⟩ : ∃ z : Int32, (z = 0 ∨ z = 1) ∧ z = (if xs (nI i + 2).toNatClampNeg = 0 then 0 else 1) := ⟨_, by by_cases q : xs (nI i + 2).toNatClampNeg = 0 <;> simp [q], rfl⟩
      obtain ⟨r, σx1, σm1, hx1, ex1, hm1, hI1⟩ := ho_19 (xs (nI i + 1).toNatClampNeg) (z9) σx σm hz9 hI
      rw [ex1] at hI1
      refine rl_aload_n K0 2 dL_law_847 rfl ?_
      refine rl_aload_n K0 3 dL_law_848 rfl ?_
      refine rl_iload_n K0 0 dL_law_849 rfl ?_
      refine rl_iconst (v := 1) K0 dL_law_850 rfl ?_
      refine rl_iadd K0 dL_law_851 ?_
      refine rl_sld K0 hb1 dL_law_852 ?_
      refine rl_aload_n K0 3 dL_law_853 rfl ?_
      refine rl_iload_n K0 0 dL_law_854 rfl ?_
      refine rl_iconst (v := 2) K0 dL_law_855 rfl ?_
      refine rl_iadd K0 dL_law_856 ?_
      refine rl_sld K0 hb2 dL_law_857 ?_
      have hj858 : rl_J X D cy B C (lw_Z X.2.2.2.2.2.2.2.1 #[Value.ref bs] X.2.2.2.2.1) σx σm 866 [(3, .int (nI i)), (2, .ref C), (1, .ref B), (0, .ref bs)] (.int z9 :: [.int (xs (nI i + 1).toNatClampNeg), .ref B]) := by
        refine rl_callx (rest := []) (st1 := [.long r]) K0 hll (c_Roo_mean l (GX D cy B) (rl_nodup _ _) fu B (rl_mem.mpr ⟨0, by decide, rfl⟩) (by simp [GX]; decide) (xs (nI i + 1).toNatClampNeg) (z9) σx _ hx1) q_829 q_830 q_831 q_1 q_832 hd_Roo_mean ⟨_, rfl, rfl⟩ ⟨by decide, by decide⟩ rfl rfl (Nat.le_of_ble_eq_true rfl) rfl dL_law_866 ?_
        refine rl_aload_n K0 1 dL_law_869 rfl ?_
        refine rl_aload_n K0 3 dL_law_870 rfl ?_
        refine rl_iload_n K0 0 dL_law_871 rfl ?_
        refine rl_iconst (v := 1) K0 dL_law_872 rfl ?_
        refine rl_iadd K0 dL_law_873 ?_
        refine rl_sld K0 hb1 dL_law_874 ?_
        refine rl_aload_n K0 3 dL_law_875 rfl ?_
        refine rl_iload_n K0 0 dL_law_876 rfl ?_
        refine rl_iconst (v := 2) K0 dL_law_877 rfl ?_
        refine rl_iadd K0 dL_law_878 ?_
        refine rl_sld K0 hb2 dL_law_879 ?_
        have hj880 : rl_J X D cy B C (lw_Z X.2.2.2.2.2.2.2.1 #[Value.ref bs] X.2.2.2.2.1) σx σm 888 [(3, .int (nI i)), (2, .ref C), (1, .ref B), (0, .ref bs)] (.int z9 :: [.int (xs (nI i + 1).toNatClampNeg), .ref C, .long r]) := by
          refine rl_callm (rest := [.long r]) (st1 := [.long r, .long r]) K0 hll (c_Mod_mean l (GM D cy C) (rl_nodup _ _) fu C (rl_mem.mpr ⟨0, by decide, rfl⟩) (by simp [GM]; decide) (xs (nI i + 1).toNatClampNeg) (z9) σm _ _ hm1) q_1236 q_1237 q_1238 q_11 q_1239 hd_Mod_mean ⟨_, rfl, rfl⟩ ⟨by decide, by decide⟩ rfl rfl (Nat.le_of_ble_eq_true rfl) rfl dL_law_888 ?_
          refine rl_lcmpeq (tgt := 897) K0 dL_law_891 dL_law_892 (by decide) ?_
          exact hnext _ _ hI1
        refine rl_if_eq (tgt := 887) K0 dL_law_880 (by decide) (fun hq => ?_) (fun hq => ?_)
        · rw [if_pos hq] at ez9
          refine rl_iconst (v := 0) K0 dL_law_887 rfl ?_
          rw [ez9] at hj880
          exact hj880
        rw [if_neg hq] at ez9
        refine rl_iconst (v := 1) K0 dL_law_883 rfl ?_
        refine rl_goto (tgt := 888) K0 dL_law_884 (by decide) ?_
        rw [ez9] at hj880
        exact hj880
      refine rl_if_eq (tgt := 865) K0 dL_law_858 (by decide) (fun hq => ?_) (fun hq => ?_)
      · rw [if_pos hq] at ez9
        refine rl_iconst (v := 0) K0 dL_law_865 rfl ?_
        rw [ez9] at hj858
        exact hj858
      rw [if_neg hq] at ez9
      refine rl_iconst (v := 1) K0 dL_law_861 rfl ?_
      refine rl_goto (tgt := 866) K0 dL_law_862 (by decide) ?_
      rw [ez9] at hj858
      exact hj858
    refine rl_tout (tgt := 897) K0 dL_law_33 (by have q0 := lv_neT (a := 0) hs0 (by decide); have q1 := lv_neT (a := 1) hs1 (by decide); have q2 := lv_neT (a := 2) hs2 (by decide); have q3 := lv_neT (a := 3) hs3 (by decide); have q4 := lv_neT (a := 4) hs4 (by decide); have q5 := lv_neT (a := 5) hs5 (by decide); have q6 := lv_neT (a := 6) hs6 (by decide); have q7 := lv_neT (a := 7) hs7 (by decide); have q8 := lv_neT (a := 8) hs8 (by decide); have q9 := lv_neT (a := 9) hs9 (by decide); have q10 := lv_neT (a := 10) hs10 (by decide); have q11 := lv_neT (a := 11) hs11 (by decide); have q12 := lv_neT (a := 12) hs12 (by decide); have q13 := lv_neT (a := 13) hs13 (by decide); have q14 := lv_neT (a := 14) hs14 (by decide); have q15 := lv_neT (a := 15) hs15 (by decide); have q16 := lv_neT (a := 16) hs16 (by decide); have q17 := lv_neT (a := 17) hs17 (by decide); have q18 := lv_neT (a := 18) hs18 (by decide); have q19 := lv_neT (a := 19) hs19 (by decide); omega) (by decide) ?_
    exact hnext _ _ hI
