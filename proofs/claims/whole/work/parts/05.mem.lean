/-! memory: ints (booleans and bytes too), longs, references, each by its address and slot -/
abbrev rr_M : Type := (Nat → Nat → Int32) × (Nat → Nat → Int64) × (Nat → Nat → Nat)
def mg_i (σ : rr_M) (a k : Nat) : Int32 := σ.1 a k
def mg_l (σ : rr_M) (a k : Nat) : Int64 := σ.2.1 a k
def mg_r (σ : rr_M) (a k : Nat) : Nat := σ.2.2 a k
def rr_u2 {α : Type} (f : Nat → Nat → α) (a k : Nat) (v : α) : Nat → Nat → α := fun b j => if b = a ∧ j = k then v else f b j
def ms_i (σ : rr_M) (a k : Nat) (v : Int32) : rr_M := (rr_u2 σ.1 a k v, σ.2.1, σ.2.2)
def ms_l (σ : rr_M) (a k : Nat) (v : Int64) : rr_M := (σ.1, rr_u2 σ.2.1 a k v, σ.2.2)
def ms_r (σ : rr_M) (a k : Nat) (v : Nat) : rr_M := (σ.1, σ.2.1, rr_u2 σ.2.2 a k v)
/-- n longs of the array a from place sp on come into the array b from dp on -/
def mc_l (σ : rr_M) (a b sp dp n : Nat) : rr_M := (σ.1, (fun q j => if q = b then va_cpy (σ.2.1 a) (σ.2.1 b) sp dp n j else σ.2.1 q j), σ.2.2)
def rr_ix (i : Int32) (n : Nat) : Bool := decide (0 ≤ i.toInt) && decide (i.toInt < n)
def rr_n (i : Int32) : Nat := i.toNatClampNeg
def rr_lt {α β : Type} (x : α) (k : α → β) : β := k x
def rr_jn {α β : Type} (k : α) (b : α → β) : β := b k
def rr_bd {α β : Type} (x : Option (α × rr_M)) (k : α → rr_M → Option β) : Option β := match x with
  | none => none
  | some y => k y.1 y.2
theorem rr_ix_in {i : Int32} {n : Nat} (h : rr_ix i n = true) : vp_in i n := by
  simp only [rr_ix, Bool.and_eq_true, decide_eq_true_eq] at h
  exact vp_in_iff.mpr h
theorem rr_bd_some {α β : Type} {x : Option (α × rr_M)} {k : α → rr_M → Option β} {z : β} (h : rr_bd x k = some z) : ∃ (v : α) (σ : rr_M), x = some (v, σ) ∧ k v σ = some z := by
  cases x with
  | none => cases h
  | some y => exact ⟨y.1, y.2, rfl, h⟩
def rr_fs (ci : Nat) (σ : rr_M) (a : Nat) : List Value := match ci with
  | 0 => [.ref (mg_r σ a 0), .int (mg_i σ a 1)]
  | 1 => [.ref (mg_r σ a 0), .ref (mg_r σ a 1), .int (mg_i σ a 2), .ref (mg_r σ a 3), .ref (mg_r σ a 4)]
  | 2 => [.ref (mg_r σ a 0)]
  | 3 => [.ref (mg_r σ a 0), .ref (mg_r σ a 1), .ref (mg_r σ a 2), .ref (mg_r σ a 3), .ref (mg_r σ a 4), .int (mg_i σ a 5), .int (mg_i σ a 6), .ref (mg_r σ a 7), .ref (mg_r σ a 8), .ref (mg_r σ a 9), .ref (mg_r σ a 10), .ref (mg_r σ a 11), .ref (mg_r σ a 12), .ref (mg_r σ a 13), .int (mg_i σ a 14)]
  | 4 => [.ref (mg_r σ a 0), .int (mg_i σ a 1), .ref (mg_r σ a 2), .ref (mg_r σ a 3), .ref (mg_r σ a 4)]
  | 5 => [.ref (mg_r σ a 0), .ref (mg_r σ a 1), .ref (mg_r σ a 2), .int (mg_i σ a 3), .ref (mg_r σ a 4), .ref (mg_r σ a 5), .ref (mg_r σ a 6), .ref (mg_r σ a 7), .ref (mg_r σ a 8), .ref (mg_r σ a 9), .ref (mg_r σ a 10), .ref (mg_r σ a 11)]
  | 6 => [.ref (mg_r σ a 0), .int (mg_i σ a 1), .int (mg_i σ a 2), .ref (mg_r σ a 3), .int (mg_i σ a 4), .int (mg_i σ a 5), .long (mg_l σ a 6), .int (mg_i σ a 7)]
  | 7 => [.ref (mg_r σ a 0), .int (mg_i σ a 1), .int (mg_i σ a 2), .int (mg_i σ a 3), .int (mg_i σ a 4), .int (mg_i σ a 5), .int (mg_i σ a 6), .ref (mg_r σ a 7), .ref (mg_r σ a 8), .int (mg_i σ a 9), .ref (mg_r σ a 10), .ref (mg_r σ a 11), .ref (mg_r σ a 12)]
  | 8 => [.ref (mg_r σ a 0), .ref (mg_r σ a 1), .ref (mg_r σ a 2), .ref (mg_r σ a 3), .ref (mg_r σ a 4), .ref (mg_r σ a 5), .ref (mg_r σ a 6)]
  | 9 => [.int (mg_i σ a 0), .ref (mg_r σ a 1), .ref (mg_r σ a 2), .ref (mg_r σ a 3), .ref (mg_r σ a 4), .ref (mg_r σ a 5), .ref (mg_r σ a 6), .ref (mg_r σ a 7), .ref (mg_r σ a 8), .ref (mg_r σ a 9), .ref (mg_r σ a 10), .int (mg_i σ a 11), .ref (mg_r σ a 12), .ref (mg_r σ a 13), .int (mg_i σ a 14), .int (mg_i σ a 15), .int (mg_i σ a 16), .int (mg_i σ a 17)]
  | _ => []
/-- of what kind the reference at a slot is -/
def rr_rt (c n k : Nat) : Option Nat := match c with
  | 0 => if k = 0 then some 12 else none
  | 1 => if k = 0 then some 16 else if k = 1 then some 11 else if k = 3 then some 5 else if k = 4 then some 12 else none
  | 2 => if k = 0 then some 12 else none
  | 3 => if k = 0 then some 1 else if k = 1 then some 5 else if k = 2 then some 4 else if k = 3 then some 16 else if k = 4 then some 12 else if k = 7 then some 12 else if k = 8 then some 12 else if k = 9 then some 11 else if k = 10 then some 11 else if k = 11 then some 0 else if k = 12 then some 0 else if k = 13 then some 0 else none
  | 4 => if k = 0 then some 0 else if k = 2 then some 14 else if k = 3 then some 0 else if k = 4 then some 0 else none
  | 5 => if k = 0 then some 14 else if k = 1 then some 11 else if k = 2 then some 11 else if k = 4 then some 14 else if k = 5 then some 0 else if k = 6 then some 0 else if k = 7 then some 0 else if k = 8 then some 0 else if k = 9 then some 0 else if k = 10 then some 0 else if k = 11 then some 0 else none
  | 6 => if k = 0 then some 11 else if k = 3 then some 12 else none
  | 7 => if k = 0 then some 12 else if k = 7 then some 11 else if k = 8 then some 11 else if k = 10 then some 12 else if k = 11 then some 13 else if k = 12 then some 11 else none
  | 8 => if k = 0 then some 15 else if k = 1 then some 6 else if k = 2 then some 2 else if k = 3 then some 1 else if k = 4 then some 3 else if k = 5 then some 5 else if k = 6 then some 4 else none
  | 9 => if k = 1 then some 11 else if k = 2 then some 11 else if k = 3 then some 11 else if k = 4 then some 12 else if k = 5 then some 12 else if k = 6 then some 11 else if k = 7 then some 11 else if k = 8 then some 12 else if k = 9 then some 11 else if k = 10 then some 11 else if k = 12 then some 12 else if k = 13 then some 10 else none
  | 14 => if k < n then some 0 else none
  | 15 => if k < n then some 7 else none
  | 16 => if k < n then some 12 else none
  | _ => none
abbrev rr_cls : List vw_C := [(RX0, TX0, 2), (RX1, TX1, 5), (RX2, TX2, 1), (RX4, TX4, 15), (RX5, TX5, 5), (RX7, TX7, 12), (RX8, TX8, 8), (RX9, TX9, 13), (RX10, TX10, 7), (RX11, TX11, 18)]
abbrev rr_G : Type := va_G × (Nat → ClassId) × List Nat × (Nat → Nat) × (Nat → Nat)
def rr_tys (G : rr_G) : List (ClassId × FieldType) := [(G.2.1 10, .byte), (G.2.1 11, .int), (G.2.1 12, .long), (G.2.1 13, .boolean), (G.2.1 14, .object "RootRows$Big"), (G.2.1 15, .object "RootRows$Tray"), (G.2.1 16, .array .long)]
def rr_ci (cy : Nat → ClassId) (k n : Nat) (σ : rr_M) (a : Nat) : va_E := if k < 10 then .inr (k, rr_fs k σ a) else if k = 12 then .inl (cy k, n, .inr (.inl (mg_l σ a))) else if k < 14 then .inl (cy k, n, .inl (mg_i σ a)) else .inl (cy k, n, .inr (.inr (.inr (.inr (fun j => some (mg_r σ a j))))))
def rr_ce (G : rr_G) (σ : rr_M) (a : Nat) : va_E := rr_ci G.2.1 (G.2.2.2.1 a) (G.2.2.2.2 a) σ a
def rr_w (G : rr_G) (σ : rr_M) : va_W := va_pl G.2.2.1 (rr_ce G σ)
def rr_P (G : rr_G) (σ : rr_M) (H : Heap) : Prop := va_P G.1 rr_cls (rr_w G σ) H
def rr_T (G : rr_G) (σ : rr_M) : Prop := ∀ a ∈ G.2.2.1, ∀ k t, rr_rt (G.2.2.2.1 a) (G.2.2.2.2 a) k = some t → mg_r σ a k ∈ G.2.2.1 ∧ G.2.2.2.1 (mg_r σ a k) = t
def rr_B (G : rr_G) (σ : rr_M) (U : State) : Prop := rr_P G σ U.heap ∧ va_K G.1 rr_cls (rr_tys G) U ∧ rr_T G σ
def rr_Q (G : rr_G) (σ : rr_M) (res : Option Value) : Array Value → State → Outcome → State → Prop := fun _ st oc t => oc = .returned res ∧ rr_B G σ t ∧ va_F (fun q => q ∈ G.2.2.1) st t
def rr_Met (l : Launch) (G : rr_G) (y : MethodName) (cc : ByteArray) (maxL : Nat) (ret : Option FieldType) (fr lo : Nat) (av : List Value) (σ σ' : rr_M) (res : Option Value) : Prop :=
  Met l y (.code y cc maxL ret :: rr_tb) { frames := fr, cells := 0, slots := 0, locals := lo } (va_Pc av (rr_B G σ)) (rr_Q G σ' res) 0 0 (fun q => q ∈ G.2.2.1)
abbrev rr_X : Type := Program × Launch × Env × Room × State × MethodId × Array Value × List Frame × Method × Code
def rr_C (X : rr_X) (G : rr_G) (cc : ByteArray) (nL : Nat) (own : String) (ret : Option FieldType) (fr lo : Nat) : Prop :=
  X.1.tables.exec = Jvm.exec ∧ X.2.2.2.2.2.2.2.2.2.code = cc ∧ X.2.2.2.2.2.2.2.2.2.maxLocals = nL ∧ X.2.2.2.2.1.vm.findClass own = some X.2.2.2.2.2.1.cls ∧ (∀ w ∈ rr_tb, w.before X.2.2.2.2.2.2.1 X.2.2.2.2.1 = true) ∧ va_K G.1 rr_cls (rr_tys G) X.2.2.2.2.1 ∧ G.2.2.1.Nodup ∧ X.2.2.2.2.2.2.2.2.1.locks = false ∧ X.2.2.2.2.2.2.2.2.1.sig.returnType = ret ∧ X.2.2.2.1 = { frames := fr, cells := 0, slots := 0, locals := lo }
def rr_J (X : rr_X) (G : rr_G) (nL : Nat) (Q : State → Prop) (σ : rr_M) (pc : Nat) (lv : List (Nat × Value)) (st : List Value) : Prop :=
  rr_T G σ → ∀ (H : Heap) (locs : List Loc) (ls : Array Slot), lv_has ls nL lv → rr_P G σ H → va_S (fun q => q ∈ G.2.2.1) X.2.2.2.2.1.heap H locs → W X.1 X.2.1 X.2.2.1 X.2.2.2.1 X.2.2.2.2.1 X.2.2.2.2.2.1 X.2.2.2.2.2.2.1 X.2.2.2.2.2.2.2.1 X.2.2.2.2.2.2.2.2.1 X.2.2.2.2.2.2.2.2.2 H locs 0 0 Q (F0 X.2.2.2.2.2.1 pc ls st)
/-- what a method's end must say -/
def rr_E (X : rr_X) (G : rr_G) (σ : rr_M) (res : Option Value) : State → Prop := MQ X.2.2.2.2.2.2.2.1 (rr_Q G σ res) X.2.2.2.2.2.2.1 X.2.2.2.2.1 0 0 (fun q => q ∈ G.2.2.1)
theorem rr_D {G : rr_G} (σ : rr_M) (h : G.2.2.1.Nodup) : va_D (fun q => q ∈ G.2.2.1) (rr_w G σ) := by
  refine ⟨fun i j p q hi hj hpq => ?_, fun k q hk => ?_⟩
  · simp only [rr_w, va_pl, List.getElem?_map, Option.map_eq_some_iff] at hi hj
    obtain ⟨a, ha, rfl⟩ := hi
    obtain ⟨b, hb, rfl⟩ := hj
    have hab : a = b := hpq
    subst hab
    exact (List.getElem?_inj (List.getElem?_eq_some_iff.mp ha).1 h).mp (ha.trans hb.symm)
  · simp only [rr_w, va_pl, List.getElem?_map, Option.map_eq_some_iff] at hk
    obtain ⟨a, ha, rfl⟩ := hk
    exact List.mem_of_getElem? ha
theorem rr_at {G : rr_G} {σ : rr_M} {a : Nat} (h : a ∈ G.2.2.1) : ∃ k : Nat, (rr_w G σ)[k]? = some (a, rr_ce G σ a) := va_pl_get (X := []) h
theorem rr_set {G : rr_G} {σ σ' : rr_M} {a k : Nat} {e : va_E} (hn : G.2.2.1.Nodup) (h : a ∈ G.2.2.1) (hk : (rr_w G σ)[k]? = some (a, rr_ce G σ a)) (he : e = rr_ce G σ' a) (ho : ∀ b, b ≠ a → rr_ce G σ b = rr_ce G σ' b) : (rr_w G σ).set k (a, e) = rr_w G σ' := by
  have h1 := va_pl_set (A := fun q => q ∈ G.2.2.1) (X := []) (f := rr_ce G σ) (e := e) (rr_D σ hn) h hk
  have h2 : va_up (rr_ce G σ) a e = rr_ce G σ' := by
    funext b
    by_cases hb : b = a
    · subst hb
      rw [va_up_self]
      exact he
    · rw [va_up_ne _ _ hb]
      exact ho b hb
  rw [h2] at h1
  exact h1
theorem rr_cO {G : rr_G} {σ : rr_M} {a ci : Nat} (h : G.2.2.2.1 a = ci) (hc : ci < 10) : rr_ce G σ a = .inr (ci, rr_fs ci σ a) := by
  unfold rr_ce rr_ci
  rw [h, if_pos hc]
theorem rr_cI {G : rr_G} {σ : rr_M} {a k : Nat} (h : G.2.2.2.1 a = k) (hc : k = 10 ∨ k = 11 ∨ k = 13) : rr_ce G σ a = .inl (G.2.1 k, G.2.2.2.2 a, .inl (mg_i σ a)) := by
  unfold rr_ce rr_ci
  rw [h, if_neg (by omega), if_neg (by omega), if_pos (by omega)]
theorem rr_cJ {G : rr_G} {σ : rr_M} {a : Nat} (h : G.2.2.2.1 a = 12) : rr_ce G σ a = .inl (G.2.1 12, G.2.2.2.2 a, .inr (.inl (mg_l σ a))) := by
  unfold rr_ce rr_ci
  rw [h, if_neg (by omega), if_pos rfl]
theorem rr_cR {G : rr_G} {σ : rr_M} {a k : Nat} (h : G.2.2.2.1 a = k) (hc : k = 14 ∨ k = 15 ∨ k = 16) : rr_ce G σ a = .inl (G.2.1 k, G.2.2.2.2 a, .inr (.inr (.inr (.inr (fun j => some (mg_r σ a j)))))) := by
  unfold rr_ce rr_ci
  rw [h, if_neg (by omega), if_neg (by omega), if_neg (by omega)]
theorem rr_oI {σ : rr_M} {a b k : Nat} {v : Int32} (h : b ≠ a) : mg_i (ms_i σ a k v) b = mg_i σ b := by
  funext j
  simp [mg_i, ms_i, rr_u2, h]
theorem rr_oL {σ : rr_M} {a b k : Nat} {v : Int64} (h : b ≠ a) : mg_l (ms_l σ a k v) b = mg_l σ b := by
  funext j
  simp [mg_l, ms_l, rr_u2, h]
theorem rr_oR {σ : rr_M} {a b k : Nat} {v : Nat} (h : b ≠ a) : mg_r (ms_r σ a k v) b = mg_r σ b := by
  funext j
  simp [mg_r, ms_r, rr_u2, h]
theorem rr_fs_e {σ σ' : rr_M} {b : Nat} (h1 : mg_i σ b = mg_i σ' b) (h2 : mg_l σ b = mg_l σ' b) (h3 : mg_r σ b = mg_r σ' b) (ci : Nat) : rr_fs ci σ b = rr_fs ci σ' b := by
  unfold rr_fs
  simp only [h1, h2, h3]
theorem rr_ce_e {G : rr_G} {σ σ' : rr_M} {b : Nat} (h1 : mg_i σ b = mg_i σ' b) (h2 : mg_l σ b = mg_l σ' b) (h3 : mg_r σ b = mg_r σ' b) : rr_ce G σ b = rr_ce G σ' b := by
  unfold rr_ce rr_ci
  rw [h1, h2, h3, rr_fs_e h1 h2 h3]
theorem rr_T_i {G : rr_G} {σ : rr_M} {a k : Nat} {v : Int32} (h : rr_T G σ) : rr_T G (ms_i σ a k v) := h
theorem rr_T_l {G : rr_G} {σ : rr_M} {a k : Nat} {v : Int64} (h : rr_T G σ) : rr_T G (ms_l σ a k v) := h
theorem rr_T_c {G : rr_G} {σ : rr_M} {a b sp dp n : Nat} (h : rr_T G σ) : rr_T G (mc_l σ a b sp dp n) := h
theorem rr_T_r {G : rr_G} {σ : rr_M} {a k v t : Nat} (h : rr_T G σ) (ht : rr_rt (G.2.2.2.1 a) (G.2.2.2.2 a) k = some t) (hv : v ∈ G.2.2.1) (hk : G.2.2.2.1 v = t) : rr_T G (ms_r σ a k v) := by
  intro b hb j u hu
  by_cases hq : b = a ∧ j = k
  · obtain ⟨rfl, rfl⟩ := hq
    have e : mg_r (ms_r σ b j v) b j = v := by simp [mg_r, ms_r, rr_u2]
    rw [e]
    rw [ht] at hu
    cases hu
    exact ⟨hv, hk⟩
  · have e : mg_r (ms_r σ a k v) b j = mg_r σ b j := by simp [mg_r, ms_r, rr_u2, hq]
    rw [e]
    exact h b hb j u hu
theorem fs_0_0 (σ : rr_M) (a : Nat) (v : Nat) : (rr_fs 0 σ a).set 0 (.ref v) = rr_fs 0 (ms_r σ a 0 v) a := by simp [rr_fs, mg_i, mg_l, mg_r, ms_r, rr_u2]
theorem fs_0_1 (σ : rr_M) (a : Nat) (v : Int32) : (rr_fs 0 σ a).set 1 (.int v) = rr_fs 0 (ms_i σ a 1 v) a := by simp [rr_fs, mg_i, mg_l, mg_r, ms_i, rr_u2]
theorem fs_1_0 (σ : rr_M) (a : Nat) (v : Nat) : (rr_fs 1 σ a).set 0 (.ref v) = rr_fs 1 (ms_r σ a 0 v) a := by simp [rr_fs, mg_i, mg_l, mg_r, ms_r, rr_u2]
theorem fs_1_1 (σ : rr_M) (a : Nat) (v : Nat) : (rr_fs 1 σ a).set 1 (.ref v) = rr_fs 1 (ms_r σ a 1 v) a := by simp [rr_fs, mg_i, mg_l, mg_r, ms_r, rr_u2]
theorem fs_1_2 (σ : rr_M) (a : Nat) (v : Int32) : (rr_fs 1 σ a).set 2 (.int v) = rr_fs 1 (ms_i σ a 2 v) a := by simp [rr_fs, mg_i, mg_l, mg_r, ms_i, rr_u2]
theorem fs_1_3 (σ : rr_M) (a : Nat) (v : Nat) : (rr_fs 1 σ a).set 3 (.ref v) = rr_fs 1 (ms_r σ a 3 v) a := by simp [rr_fs, mg_i, mg_l, mg_r, ms_r, rr_u2]
theorem fs_1_4 (σ : rr_M) (a : Nat) (v : Nat) : (rr_fs 1 σ a).set 4 (.ref v) = rr_fs 1 (ms_r σ a 4 v) a := by simp [rr_fs, mg_i, mg_l, mg_r, ms_r, rr_u2]
theorem fs_2_0 (σ : rr_M) (a : Nat) (v : Nat) : (rr_fs 2 σ a).set 0 (.ref v) = rr_fs 2 (ms_r σ a 0 v) a := by simp [rr_fs, mg_i, mg_l, mg_r, ms_r, rr_u2]
theorem fs_3_0 (σ : rr_M) (a : Nat) (v : Nat) : (rr_fs 3 σ a).set 0 (.ref v) = rr_fs 3 (ms_r σ a 0 v) a := by simp [rr_fs, mg_i, mg_l, mg_r, ms_r, rr_u2]
theorem fs_3_1 (σ : rr_M) (a : Nat) (v : Nat) : (rr_fs 3 σ a).set 1 (.ref v) = rr_fs 3 (ms_r σ a 1 v) a := by simp [rr_fs, mg_i, mg_l, mg_r, ms_r, rr_u2]
theorem fs_3_2 (σ : rr_M) (a : Nat) (v : Nat) : (rr_fs 3 σ a).set 2 (.ref v) = rr_fs 3 (ms_r σ a 2 v) a := by simp [rr_fs, mg_i, mg_l, mg_r, ms_r, rr_u2]
theorem fs_3_3 (σ : rr_M) (a : Nat) (v : Nat) : (rr_fs 3 σ a).set 3 (.ref v) = rr_fs 3 (ms_r σ a 3 v) a := by simp [rr_fs, mg_i, mg_l, mg_r, ms_r, rr_u2]
theorem fs_3_4 (σ : rr_M) (a : Nat) (v : Nat) : (rr_fs 3 σ a).set 4 (.ref v) = rr_fs 3 (ms_r σ a 4 v) a := by simp [rr_fs, mg_i, mg_l, mg_r, ms_r, rr_u2]
theorem fs_3_5 (σ : rr_M) (a : Nat) (v : Int32) : (rr_fs 3 σ a).set 5 (.int v) = rr_fs 3 (ms_i σ a 5 v) a := by simp [rr_fs, mg_i, mg_l, mg_r, ms_i, rr_u2]
theorem fs_3_6 (σ : rr_M) (a : Nat) (v : Int32) : (rr_fs 3 σ a).set 6 (.int v) = rr_fs 3 (ms_i σ a 6 v) a := by simp [rr_fs, mg_i, mg_l, mg_r, ms_i, rr_u2]
theorem fs_3_7 (σ : rr_M) (a : Nat) (v : Nat) : (rr_fs 3 σ a).set 7 (.ref v) = rr_fs 3 (ms_r σ a 7 v) a := by simp [rr_fs, mg_i, mg_l, mg_r, ms_r, rr_u2]
theorem fs_3_8 (σ : rr_M) (a : Nat) (v : Nat) : (rr_fs 3 σ a).set 8 (.ref v) = rr_fs 3 (ms_r σ a 8 v) a := by simp [rr_fs, mg_i, mg_l, mg_r, ms_r, rr_u2]
theorem fs_3_9 (σ : rr_M) (a : Nat) (v : Nat) : (rr_fs 3 σ a).set 9 (.ref v) = rr_fs 3 (ms_r σ a 9 v) a := by simp [rr_fs, mg_i, mg_l, mg_r, ms_r, rr_u2]
theorem fs_3_10 (σ : rr_M) (a : Nat) (v : Nat) : (rr_fs 3 σ a).set 10 (.ref v) = rr_fs 3 (ms_r σ a 10 v) a := by simp [rr_fs, mg_i, mg_l, mg_r, ms_r, rr_u2]
theorem fs_3_11 (σ : rr_M) (a : Nat) (v : Nat) : (rr_fs 3 σ a).set 11 (.ref v) = rr_fs 3 (ms_r σ a 11 v) a := by simp [rr_fs, mg_i, mg_l, mg_r, ms_r, rr_u2]
theorem fs_3_12 (σ : rr_M) (a : Nat) (v : Nat) : (rr_fs 3 σ a).set 12 (.ref v) = rr_fs 3 (ms_r σ a 12 v) a := by simp [rr_fs, mg_i, mg_l, mg_r, ms_r, rr_u2]
theorem fs_3_13 (σ : rr_M) (a : Nat) (v : Nat) : (rr_fs 3 σ a).set 13 (.ref v) = rr_fs 3 (ms_r σ a 13 v) a := by simp [rr_fs, mg_i, mg_l, mg_r, ms_r, rr_u2]
theorem fs_3_14 (σ : rr_M) (a : Nat) (v : Int32) : (rr_fs 3 σ a).set 14 (.int v) = rr_fs 3 (ms_i σ a 14 v) a := by simp [rr_fs, mg_i, mg_l, mg_r, ms_i, rr_u2]
theorem fs_4_0 (σ : rr_M) (a : Nat) (v : Nat) : (rr_fs 4 σ a).set 0 (.ref v) = rr_fs 4 (ms_r σ a 0 v) a := by simp [rr_fs, mg_i, mg_l, mg_r, ms_r, rr_u2]
theorem fs_4_1 (σ : rr_M) (a : Nat) (v : Int32) : (rr_fs 4 σ a).set 1 (.int v) = rr_fs 4 (ms_i σ a 1 v) a := by simp [rr_fs, mg_i, mg_l, mg_r, ms_i, rr_u2]
theorem fs_4_2 (σ : rr_M) (a : Nat) (v : Nat) : (rr_fs 4 σ a).set 2 (.ref v) = rr_fs 4 (ms_r σ a 2 v) a := by simp [rr_fs, mg_i, mg_l, mg_r, ms_r, rr_u2]
theorem fs_4_3 (σ : rr_M) (a : Nat) (v : Nat) : (rr_fs 4 σ a).set 3 (.ref v) = rr_fs 4 (ms_r σ a 3 v) a := by simp [rr_fs, mg_i, mg_l, mg_r, ms_r, rr_u2]
theorem fs_4_4 (σ : rr_M) (a : Nat) (v : Nat) : (rr_fs 4 σ a).set 4 (.ref v) = rr_fs 4 (ms_r σ a 4 v) a := by simp [rr_fs, mg_i, mg_l, mg_r, ms_r, rr_u2]
theorem fs_5_0 (σ : rr_M) (a : Nat) (v : Nat) : (rr_fs 5 σ a).set 0 (.ref v) = rr_fs 5 (ms_r σ a 0 v) a := by simp [rr_fs, mg_i, mg_l, mg_r, ms_r, rr_u2]
theorem fs_5_1 (σ : rr_M) (a : Nat) (v : Nat) : (rr_fs 5 σ a).set 1 (.ref v) = rr_fs 5 (ms_r σ a 1 v) a := by simp [rr_fs, mg_i, mg_l, mg_r, ms_r, rr_u2]
theorem fs_5_2 (σ : rr_M) (a : Nat) (v : Nat) : (rr_fs 5 σ a).set 2 (.ref v) = rr_fs 5 (ms_r σ a 2 v) a := by simp [rr_fs, mg_i, mg_l, mg_r, ms_r, rr_u2]
theorem fs_5_3 (σ : rr_M) (a : Nat) (v : Int32) : (rr_fs 5 σ a).set 3 (.int v) = rr_fs 5 (ms_i σ a 3 v) a := by simp [rr_fs, mg_i, mg_l, mg_r, ms_i, rr_u2]
theorem fs_5_4 (σ : rr_M) (a : Nat) (v : Nat) : (rr_fs 5 σ a).set 4 (.ref v) = rr_fs 5 (ms_r σ a 4 v) a := by simp [rr_fs, mg_i, mg_l, mg_r, ms_r, rr_u2]
theorem fs_5_5 (σ : rr_M) (a : Nat) (v : Nat) : (rr_fs 5 σ a).set 5 (.ref v) = rr_fs 5 (ms_r σ a 5 v) a := by simp [rr_fs, mg_i, mg_l, mg_r, ms_r, rr_u2]
theorem fs_5_6 (σ : rr_M) (a : Nat) (v : Nat) : (rr_fs 5 σ a).set 6 (.ref v) = rr_fs 5 (ms_r σ a 6 v) a := by simp [rr_fs, mg_i, mg_l, mg_r, ms_r, rr_u2]
theorem fs_5_7 (σ : rr_M) (a : Nat) (v : Nat) : (rr_fs 5 σ a).set 7 (.ref v) = rr_fs 5 (ms_r σ a 7 v) a := by simp [rr_fs, mg_i, mg_l, mg_r, ms_r, rr_u2]
theorem fs_5_8 (σ : rr_M) (a : Nat) (v : Nat) : (rr_fs 5 σ a).set 8 (.ref v) = rr_fs 5 (ms_r σ a 8 v) a := by simp [rr_fs, mg_i, mg_l, mg_r, ms_r, rr_u2]
theorem fs_5_9 (σ : rr_M) (a : Nat) (v : Nat) : (rr_fs 5 σ a).set 9 (.ref v) = rr_fs 5 (ms_r σ a 9 v) a := by simp [rr_fs, mg_i, mg_l, mg_r, ms_r, rr_u2]
theorem fs_5_10 (σ : rr_M) (a : Nat) (v : Nat) : (rr_fs 5 σ a).set 10 (.ref v) = rr_fs 5 (ms_r σ a 10 v) a := by simp [rr_fs, mg_i, mg_l, mg_r, ms_r, rr_u2]
theorem fs_5_11 (σ : rr_M) (a : Nat) (v : Nat) : (rr_fs 5 σ a).set 11 (.ref v) = rr_fs 5 (ms_r σ a 11 v) a := by simp [rr_fs, mg_i, mg_l, mg_r, ms_r, rr_u2]
theorem fs_6_0 (σ : rr_M) (a : Nat) (v : Nat) : (rr_fs 6 σ a).set 0 (.ref v) = rr_fs 6 (ms_r σ a 0 v) a := by simp [rr_fs, mg_i, mg_l, mg_r, ms_r, rr_u2]
theorem fs_6_1 (σ : rr_M) (a : Nat) (v : Int32) : (rr_fs 6 σ a).set 1 (.int v) = rr_fs 6 (ms_i σ a 1 v) a := by simp [rr_fs, mg_i, mg_l, mg_r, ms_i, rr_u2]
theorem fs_6_2 (σ : rr_M) (a : Nat) (v : Int32) : (rr_fs 6 σ a).set 2 (.int v) = rr_fs 6 (ms_i σ a 2 v) a := by simp [rr_fs, mg_i, mg_l, mg_r, ms_i, rr_u2]
theorem fs_6_3 (σ : rr_M) (a : Nat) (v : Nat) : (rr_fs 6 σ a).set 3 (.ref v) = rr_fs 6 (ms_r σ a 3 v) a := by simp [rr_fs, mg_i, mg_l, mg_r, ms_r, rr_u2]
theorem fs_6_4 (σ : rr_M) (a : Nat) (v : Int32) : (rr_fs 6 σ a).set 4 (.int v) = rr_fs 6 (ms_i σ a 4 v) a := by simp [rr_fs, mg_i, mg_l, mg_r, ms_i, rr_u2]
theorem fs_6_5 (σ : rr_M) (a : Nat) (v : Int32) : (rr_fs 6 σ a).set 5 (.int v) = rr_fs 6 (ms_i σ a 5 v) a := by simp [rr_fs, mg_i, mg_l, mg_r, ms_i, rr_u2]
theorem fs_6_6 (σ : rr_M) (a : Nat) (v : Int64) : (rr_fs 6 σ a).set 6 (.long v) = rr_fs 6 (ms_l σ a 6 v) a := by simp [rr_fs, mg_i, mg_l, mg_r, ms_l, rr_u2]
theorem fs_6_7 (σ : rr_M) (a : Nat) (v : Int32) : (rr_fs 6 σ a).set 7 (.int v) = rr_fs 6 (ms_i σ a 7 v) a := by simp [rr_fs, mg_i, mg_l, mg_r, ms_i, rr_u2]
theorem fs_7_0 (σ : rr_M) (a : Nat) (v : Nat) : (rr_fs 7 σ a).set 0 (.ref v) = rr_fs 7 (ms_r σ a 0 v) a := by simp [rr_fs, mg_i, mg_l, mg_r, ms_r, rr_u2]
theorem fs_7_1 (σ : rr_M) (a : Nat) (v : Int32) : (rr_fs 7 σ a).set 1 (.int v) = rr_fs 7 (ms_i σ a 1 v) a := by simp [rr_fs, mg_i, mg_l, mg_r, ms_i, rr_u2]
theorem fs_7_2 (σ : rr_M) (a : Nat) (v : Int32) : (rr_fs 7 σ a).set 2 (.int v) = rr_fs 7 (ms_i σ a 2 v) a := by simp [rr_fs, mg_i, mg_l, mg_r, ms_i, rr_u2]
theorem fs_7_3 (σ : rr_M) (a : Nat) (v : Int32) : (rr_fs 7 σ a).set 3 (.int v) = rr_fs 7 (ms_i σ a 3 v) a := by simp [rr_fs, mg_i, mg_l, mg_r, ms_i, rr_u2]
theorem fs_7_4 (σ : rr_M) (a : Nat) (v : Int32) : (rr_fs 7 σ a).set 4 (.int v) = rr_fs 7 (ms_i σ a 4 v) a := by simp [rr_fs, mg_i, mg_l, mg_r, ms_i, rr_u2]
theorem fs_7_5 (σ : rr_M) (a : Nat) (v : Int32) : (rr_fs 7 σ a).set 5 (.int v) = rr_fs 7 (ms_i σ a 5 v) a := by simp [rr_fs, mg_i, mg_l, mg_r, ms_i, rr_u2]
theorem fs_7_6 (σ : rr_M) (a : Nat) (v : Int32) : (rr_fs 7 σ a).set 6 (.int v) = rr_fs 7 (ms_i σ a 6 v) a := by simp [rr_fs, mg_i, mg_l, mg_r, ms_i, rr_u2]
theorem fs_7_7 (σ : rr_M) (a : Nat) (v : Nat) : (rr_fs 7 σ a).set 7 (.ref v) = rr_fs 7 (ms_r σ a 7 v) a := by simp [rr_fs, mg_i, mg_l, mg_r, ms_r, rr_u2]
theorem fs_7_8 (σ : rr_M) (a : Nat) (v : Nat) : (rr_fs 7 σ a).set 8 (.ref v) = rr_fs 7 (ms_r σ a 8 v) a := by simp [rr_fs, mg_i, mg_l, mg_r, ms_r, rr_u2]
theorem fs_7_9 (σ : rr_M) (a : Nat) (v : Int32) : (rr_fs 7 σ a).set 9 (.int v) = rr_fs 7 (ms_i σ a 9 v) a := by simp [rr_fs, mg_i, mg_l, mg_r, ms_i, rr_u2]
theorem fs_7_10 (σ : rr_M) (a : Nat) (v : Nat) : (rr_fs 7 σ a).set 10 (.ref v) = rr_fs 7 (ms_r σ a 10 v) a := by simp [rr_fs, mg_i, mg_l, mg_r, ms_r, rr_u2]
theorem fs_7_11 (σ : rr_M) (a : Nat) (v : Nat) : (rr_fs 7 σ a).set 11 (.ref v) = rr_fs 7 (ms_r σ a 11 v) a := by simp [rr_fs, mg_i, mg_l, mg_r, ms_r, rr_u2]
theorem fs_7_12 (σ : rr_M) (a : Nat) (v : Nat) : (rr_fs 7 σ a).set 12 (.ref v) = rr_fs 7 (ms_r σ a 12 v) a := by simp [rr_fs, mg_i, mg_l, mg_r, ms_r, rr_u2]
theorem fs_8_0 (σ : rr_M) (a : Nat) (v : Nat) : (rr_fs 8 σ a).set 0 (.ref v) = rr_fs 8 (ms_r σ a 0 v) a := by simp [rr_fs, mg_i, mg_l, mg_r, ms_r, rr_u2]
theorem fs_8_1 (σ : rr_M) (a : Nat) (v : Nat) : (rr_fs 8 σ a).set 1 (.ref v) = rr_fs 8 (ms_r σ a 1 v) a := by simp [rr_fs, mg_i, mg_l, mg_r, ms_r, rr_u2]
theorem fs_8_2 (σ : rr_M) (a : Nat) (v : Nat) : (rr_fs 8 σ a).set 2 (.ref v) = rr_fs 8 (ms_r σ a 2 v) a := by simp [rr_fs, mg_i, mg_l, mg_r, ms_r, rr_u2]
theorem fs_8_3 (σ : rr_M) (a : Nat) (v : Nat) : (rr_fs 8 σ a).set 3 (.ref v) = rr_fs 8 (ms_r σ a 3 v) a := by simp [rr_fs, mg_i, mg_l, mg_r, ms_r, rr_u2]
theorem fs_8_4 (σ : rr_M) (a : Nat) (v : Nat) : (rr_fs 8 σ a).set 4 (.ref v) = rr_fs 8 (ms_r σ a 4 v) a := by simp [rr_fs, mg_i, mg_l, mg_r, ms_r, rr_u2]
theorem fs_8_5 (σ : rr_M) (a : Nat) (v : Nat) : (rr_fs 8 σ a).set 5 (.ref v) = rr_fs 8 (ms_r σ a 5 v) a := by simp [rr_fs, mg_i, mg_l, mg_r, ms_r, rr_u2]
theorem fs_8_6 (σ : rr_M) (a : Nat) (v : Nat) : (rr_fs 8 σ a).set 6 (.ref v) = rr_fs 8 (ms_r σ a 6 v) a := by simp [rr_fs, mg_i, mg_l, mg_r, ms_r, rr_u2]
theorem fs_9_0 (σ : rr_M) (a : Nat) (v : Int32) : (rr_fs 9 σ a).set 0 (.int v) = rr_fs 9 (ms_i σ a 0 v) a := by simp [rr_fs, mg_i, mg_l, mg_r, ms_i, rr_u2]
theorem fs_9_1 (σ : rr_M) (a : Nat) (v : Nat) : (rr_fs 9 σ a).set 1 (.ref v) = rr_fs 9 (ms_r σ a 1 v) a := by simp [rr_fs, mg_i, mg_l, mg_r, ms_r, rr_u2]
theorem fs_9_2 (σ : rr_M) (a : Nat) (v : Nat) : (rr_fs 9 σ a).set 2 (.ref v) = rr_fs 9 (ms_r σ a 2 v) a := by simp [rr_fs, mg_i, mg_l, mg_r, ms_r, rr_u2]
theorem fs_9_3 (σ : rr_M) (a : Nat) (v : Nat) : (rr_fs 9 σ a).set 3 (.ref v) = rr_fs 9 (ms_r σ a 3 v) a := by simp [rr_fs, mg_i, mg_l, mg_r, ms_r, rr_u2]
theorem fs_9_4 (σ : rr_M) (a : Nat) (v : Nat) : (rr_fs 9 σ a).set 4 (.ref v) = rr_fs 9 (ms_r σ a 4 v) a := by simp [rr_fs, mg_i, mg_l, mg_r, ms_r, rr_u2]
theorem fs_9_5 (σ : rr_M) (a : Nat) (v : Nat) : (rr_fs 9 σ a).set 5 (.ref v) = rr_fs 9 (ms_r σ a 5 v) a := by simp [rr_fs, mg_i, mg_l, mg_r, ms_r, rr_u2]
theorem fs_9_6 (σ : rr_M) (a : Nat) (v : Nat) : (rr_fs 9 σ a).set 6 (.ref v) = rr_fs 9 (ms_r σ a 6 v) a := by simp [rr_fs, mg_i, mg_l, mg_r, ms_r, rr_u2]
theorem fs_9_7 (σ : rr_M) (a : Nat) (v : Nat) : (rr_fs 9 σ a).set 7 (.ref v) = rr_fs 9 (ms_r σ a 7 v) a := by simp [rr_fs, mg_i, mg_l, mg_r, ms_r, rr_u2]
theorem fs_9_8 (σ : rr_M) (a : Nat) (v : Nat) : (rr_fs 9 σ a).set 8 (.ref v) = rr_fs 9 (ms_r σ a 8 v) a := by simp [rr_fs, mg_i, mg_l, mg_r, ms_r, rr_u2]
theorem fs_9_9 (σ : rr_M) (a : Nat) (v : Nat) : (rr_fs 9 σ a).set 9 (.ref v) = rr_fs 9 (ms_r σ a 9 v) a := by simp [rr_fs, mg_i, mg_l, mg_r, ms_r, rr_u2]
theorem fs_9_10 (σ : rr_M) (a : Nat) (v : Nat) : (rr_fs 9 σ a).set 10 (.ref v) = rr_fs 9 (ms_r σ a 10 v) a := by simp [rr_fs, mg_i, mg_l, mg_r, ms_r, rr_u2]
theorem fs_9_11 (σ : rr_M) (a : Nat) (v : Int32) : (rr_fs 9 σ a).set 11 (.int v) = rr_fs 9 (ms_i σ a 11 v) a := by simp [rr_fs, mg_i, mg_l, mg_r, ms_i, rr_u2]
theorem fs_9_12 (σ : rr_M) (a : Nat) (v : Nat) : (rr_fs 9 σ a).set 12 (.ref v) = rr_fs 9 (ms_r σ a 12 v) a := by simp [rr_fs, mg_i, mg_l, mg_r, ms_r, rr_u2]
theorem fs_9_13 (σ : rr_M) (a : Nat) (v : Nat) : (rr_fs 9 σ a).set 13 (.ref v) = rr_fs 9 (ms_r σ a 13 v) a := by simp [rr_fs, mg_i, mg_l, mg_r, ms_r, rr_u2]
theorem fs_9_14 (σ : rr_M) (a : Nat) (v : Int32) : (rr_fs 9 σ a).set 14 (.int v) = rr_fs 9 (ms_i σ a 14 v) a := by simp [rr_fs, mg_i, mg_l, mg_r, ms_i, rr_u2]
theorem fs_9_15 (σ : rr_M) (a : Nat) (v : Int32) : (rr_fs 9 σ a).set 15 (.int v) = rr_fs 9 (ms_i σ a 15 v) a := by simp [rr_fs, mg_i, mg_l, mg_r, ms_i, rr_u2]
theorem fs_9_16 (σ : rr_M) (a : Nat) (v : Int32) : (rr_fs 9 σ a).set 16 (.int v) = rr_fs 9 (ms_i σ a 16 v) a := by simp [rr_fs, mg_i, mg_l, mg_r, ms_i, rr_u2]
theorem fs_9_17 (σ : rr_M) (a : Nat) (v : Int32) : (rr_fs 9 σ a).set 17 (.int v) = rr_fs 9 (ms_i σ a 17 v) a := by simp [rr_fs, mg_i, mg_l, mg_r, ms_i, rr_u2]
