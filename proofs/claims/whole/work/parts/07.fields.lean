section RWF
variable {X : rr_X} {G : rr_G} {nL : Nat} {Q : State → Prop} {cc : ByteArray} {ret : Option FieldType} {fr lo : Nat} {σ : rr_M} {pc : Nat} {lv : List (Nat × Value)} {rest : List Value}
theorem gf_32 (C : rr_C X G cc nL "RootRows$Tray" ret fr lo) {α : Type} {kb : Nat → Option α} {z : α} {a : Nat} (ha : a ∈ G.2.2.1) (hk : G.2.2.2.1 a = 7) (hdg : decode cc pc = .ok (.getfield 9, 3)) (hm : rr_lt (mg_r σ a 0) kb = some z) (k : ∀ b : Nat, b ∈ G.2.2.1 → G.2.2.2.1 b = 12 → kb b = some z → rr_J X G nL Q σ (pc + 3) lv (.ref b :: rest)) : rr_J X G nL Q σ pc lv (.ref a :: rest) := by
  intro hT
  have ht := hT a ha 0 12 (by rw [hk]; rfl)
  exact rr_get C 7 0 inX9 rfl (by decide) (by decide) q_32 ha hk rfl hdg (k _ ht.1 ht.2 hm) hT
theorem gf_33 (C : rr_C X G cc nL "RootRows$Levels" ret fr lo) {α : Type} {kb : Nat → Option α} {z : α} {a : Nat} (ha : a ∈ G.2.2.1) (hk : G.2.2.2.1 a = 7) (hdg : decode cc pc = .ok (.getfield 47, 3)) (hm : rr_lt (mg_r σ a 0) kb = some z) (k : ∀ b : Nat, b ∈ G.2.2.1 → G.2.2.2.1 b = 12 → kb b = some z → rr_J X G nL Q σ (pc + 3) lv (.ref b :: rest)) : rr_J X G nL Q σ pc lv (.ref a :: rest) := by
  intro hT
  have ht := hT a ha 0 12 (by rw [hk]; rfl)
  exact rr_get C 7 0 inX9 rfl (by decide) (by decide) q_33 ha hk rfl hdg (k _ ht.1 ht.2 hm) hT
theorem gf_34 (C : rr_C X G cc nL "RootRows$Placer" ret fr lo) {α : Type} {kb : Nat → Option α} {z : α} {a : Nat} (ha : a ∈ G.2.2.1) (hk : G.2.2.2.1 a = 7) (hdg : decode cc pc = .ok (.getfield 81, 3)) (hm : rr_lt (mg_r σ a 0) kb = some z) (k : ∀ b : Nat, b ∈ G.2.2.1 → G.2.2.2.1 b = 12 → kb b = some z → rr_J X G nL Q σ (pc + 3) lv (.ref b :: rest)) : rr_J X G nL Q σ pc lv (.ref a :: rest) := by
  intro hT
  have ht := hT a ha 0 12 (by rw [hk]; rfl)
  exact rr_get C 7 0 inX9 rfl (by decide) (by decide) q_34 ha hk rfl hdg (k _ ht.1 ht.2 hm) hT
theorem gf_35 (C : rr_C X G cc nL "RootRows" ret fr lo) {α : Type} {kb : Nat → Option α} {z : α} {a : Nat} (ha : a ∈ G.2.2.1) (hk : G.2.2.2.1 a = 7) (hdg : decode cc pc = .ok (.getfield 106, 3)) (hm : rr_lt (mg_r σ a 0) kb = some z) (k : ∀ b : Nat, b ∈ G.2.2.1 → G.2.2.2.1 b = 12 → kb b = some z → rr_J X G nL Q σ (pc + 3) lv (.ref b :: rest)) : rr_J X G nL Q σ pc lv (.ref a :: rest) := by
  intro hT
  have ht := hT a ha 0 12 (by rw [hk]; rfl)
  exact rr_get C 7 0 inX9 rfl (by decide) (by decide) q_35 ha hk rfl hdg (k _ ht.1 ht.2 hm) hT
theorem gf_36 (C : rr_C X G cc nL "RootRows$Levels" ret fr lo) {a : Nat} (ha : a ∈ G.2.2.1) (hk : G.2.2.2.1 a = 7) (hdg : decode cc pc = .ok (.getfield 28, 3)) (k : rr_J X G nL Q σ (pc + 3) lv (.int (mg_i σ a 1) :: rest)) : rr_J X G nL Q σ pc lv (.ref a :: rest) := rr_get C 7 1 inX9 rfl (by decide) (by decide) q_36 ha hk rfl hdg k
theorem pf_36 (C : rr_C X G cc nL "RootRows$Levels" ret fr lo) {α : Type} {kb : rr_M → Option α} {z : α} {a : Nat} {v : Int32} (ha : a ∈ G.2.2.1) (hk : G.2.2.2.1 a = 7) (hdg : decode cc pc = .ok (.putfield 28, 3)) (hm : (if rr_b1 v then rr_lt (ms_i σ a 1 v) kb else none) = some z) (k : ∀ σ1 : rr_M, kb σ1 = some z → rr_J X G nL Q σ1 (pc + 3) lv rest) : rr_J X G nL Q σ pc lv (.int v :: .ref a :: rest) := by
  by_cases hb : rr_b1 v = true
  · rw [if_pos hb] at hm
    exact rr_put C 7 1 tyX9 tyX9_ok nmX9 inX9 rfl (by decide) (by decide) q_36 rfl rfl (fun _ => by simp [rr_fs]) ha hk (fs_7_1 σ a v) (fun b hb => rr_ce_e (rr_oI hb).symm rfl rfl) rr_T_i (rr_b1_n hb) (rr_b1_f hb) hdg (k _ hm)
  · rw [if_neg hb] at hm
    cases hm
theorem gf_37 (C : rr_C X G cc nL "RootRows$Tray" ret fr lo) {a : Nat} (ha : a ∈ G.2.2.1) (hk : G.2.2.2.1 a = 7) (hdg : decode cc pc = .ok (.getfield 37, 3)) (k : rr_J X G nL Q σ (pc + 3) lv (.int (mg_i σ a 1) :: rest)) : rr_J X G nL Q σ pc lv (.ref a :: rest) := rr_get C 7 1 inX9 rfl (by decide) (by decide) q_37 ha hk rfl hdg k
theorem pf_37 (C : rr_C X G cc nL "RootRows$Tray" ret fr lo) {α : Type} {kb : rr_M → Option α} {z : α} {a : Nat} {v : Int32} (ha : a ∈ G.2.2.1) (hk : G.2.2.2.1 a = 7) (hdg : decode cc pc = .ok (.putfield 37, 3)) (hm : (if rr_b1 v then rr_lt (ms_i σ a 1 v) kb else none) = some z) (k : ∀ σ1 : rr_M, kb σ1 = some z → rr_J X G nL Q σ1 (pc + 3) lv rest) : rr_J X G nL Q σ pc lv (.int v :: .ref a :: rest) := by
  by_cases hb : rr_b1 v = true
  · rw [if_pos hb] at hm
    exact rr_put C 7 1 tyX9 tyX9_ok nmX9 inX9 rfl (by decide) (by decide) q_37 rfl rfl (fun _ => by simp [rr_fs]) ha hk (fs_7_1 σ a v) (fun b hb => rr_ce_e (rr_oI hb).symm rfl rfl) rr_T_i (rr_b1_n hb) (rr_b1_f hb) hdg (k _ hm)
  · rw [if_neg hb] at hm
    cases hm
theorem gf_38 (C : rr_C X G cc nL "RootRows$Levels" ret fr lo) {a : Nat} (ha : a ∈ G.2.2.1) (hk : G.2.2.2.1 a = 7) (hdg : decode cc pc = .ok (.getfield 63, 3)) (k : rr_J X G nL Q σ (pc + 3) lv (.int (mg_i σ a 2) :: rest)) : rr_J X G nL Q σ pc lv (.ref a :: rest) := rr_get C 7 2 inX9 rfl (by decide) (by decide) q_38 ha hk rfl hdg k
theorem pf_38 (C : rr_C X G cc nL "RootRows$Levels" ret fr lo) {α : Type} {kb : rr_M → Option α} {z : α} {a : Nat} {v : Int32} (ha : a ∈ G.2.2.1) (hk : G.2.2.2.1 a = 7) (hdg : decode cc pc = .ok (.putfield 63, 3)) (hm : (if rr_b1 v then rr_lt (ms_i σ a 2 v) kb else none) = some z) (k : ∀ σ1 : rr_M, kb σ1 = some z → rr_J X G nL Q σ1 (pc + 3) lv rest) : rr_J X G nL Q σ pc lv (.int v :: .ref a :: rest) := by
  by_cases hb : rr_b1 v = true
  · rw [if_pos hb] at hm
    exact rr_put C 7 2 tyX9 tyX9_ok nmX9 inX9 rfl (by decide) (by decide) q_38 rfl rfl (fun _ => by simp [rr_fs]) ha hk (fs_7_2 σ a v) (fun b hb => rr_ce_e (rr_oI hb).symm rfl rfl) rr_T_i (rr_b1_n hb) (rr_b1_f hb) hdg (k _ hm)
  · rw [if_neg hb] at hm
    cases hm
theorem gf_39 (C : rr_C X G cc nL "RootRows" ret fr lo) {a : Nat} (ha : a ∈ G.2.2.1) (hk : G.2.2.2.1 a = 7) (hdg : decode cc pc = .ok (.getfield 151, 3)) (k : rr_J X G nL Q σ (pc + 3) lv (.int (mg_i σ a 2) :: rest)) : rr_J X G nL Q σ pc lv (.ref a :: rest) := rr_get C 7 2 inX9 rfl (by decide) (by decide) q_39 ha hk rfl hdg k
theorem pf_39 (C : rr_C X G cc nL "RootRows" ret fr lo) {α : Type} {kb : rr_M → Option α} {z : α} {a : Nat} {v : Int32} (ha : a ∈ G.2.2.1) (hk : G.2.2.2.1 a = 7) (hdg : decode cc pc = .ok (.putfield 151, 3)) (hm : (if rr_b1 v then rr_lt (ms_i σ a 2 v) kb else none) = some z) (k : ∀ σ1 : rr_M, kb σ1 = some z → rr_J X G nL Q σ1 (pc + 3) lv rest) : rr_J X G nL Q σ pc lv (.int v :: .ref a :: rest) := by
  by_cases hb : rr_b1 v = true
  · rw [if_pos hb] at hm
    exact rr_put C 7 2 tyX9 tyX9_ok nmX9 inX9 rfl (by decide) (by decide) q_39 rfl rfl (fun _ => by simp [rr_fs]) ha hk (fs_7_2 σ a v) (fun b hb => rr_ce_e (rr_oI hb).symm rfl rfl) rr_T_i (rr_b1_n hb) (rr_b1_f hb) hdg (k _ hm)
  · rw [if_neg hb] at hm
    cases hm
theorem gf_40 (C : rr_C X G cc nL "RootRows$Levels" ret fr lo) {a : Nat} (ha : a ∈ G.2.2.1) (hk : G.2.2.2.1 a = 7) (hdg : decode cc pc = .ok (.getfield 38, 3)) (k : rr_J X G nL Q σ (pc + 3) lv (.int (mg_i σ a 3) :: rest)) : rr_J X G nL Q σ pc lv (.ref a :: rest) := rr_get C 7 3 inX9 rfl (by decide) (by decide) q_40 ha hk rfl hdg k
theorem pf_40 (C : rr_C X G cc nL "RootRows$Levels" ret fr lo) {α : Type} {kb : rr_M → Option α} {z : α} {a : Nat} {v : Int32} (ha : a ∈ G.2.2.1) (hk : G.2.2.2.1 a = 7) (hdg : decode cc pc = .ok (.putfield 38, 3)) (hm : rr_lt (ms_i σ a 3 v) kb = some z) (k : ∀ σ1 : rr_M, kb σ1 = some z → rr_J X G nL Q σ1 (pc + 3) lv rest) : rr_J X G nL Q σ pc lv (.int v :: .ref a :: rest) := rr_put C 7 3 tyX9 tyX9_ok nmX9 inX9 rfl (by decide) (by decide) q_40 rfl rfl (fun _ => by simp [rr_fs]) ha hk (fs_7_3 σ a v) (fun b hb => rr_ce_e (rr_oI hb).symm rfl rfl) rr_T_i rfl rfl hdg (k _ hm)
theorem gf_41 (C : rr_C X G cc nL "RootRows" ret fr lo) {a : Nat} (ha : a ∈ G.2.2.1) (hk : G.2.2.2.1 a = 7) (hdg : decode cc pc = .ok (.getfield 142, 3)) (k : rr_J X G nL Q σ (pc + 3) lv (.int (mg_i σ a 3) :: rest)) : rr_J X G nL Q σ pc lv (.ref a :: rest) := rr_get C 7 3 inX9 rfl (by decide) (by decide) q_41 ha hk rfl hdg k
theorem pf_41 (C : rr_C X G cc nL "RootRows" ret fr lo) {α : Type} {kb : rr_M → Option α} {z : α} {a : Nat} {v : Int32} (ha : a ∈ G.2.2.1) (hk : G.2.2.2.1 a = 7) (hdg : decode cc pc = .ok (.putfield 142, 3)) (hm : rr_lt (ms_i σ a 3 v) kb = some z) (k : ∀ σ1 : rr_M, kb σ1 = some z → rr_J X G nL Q σ1 (pc + 3) lv rest) : rr_J X G nL Q σ pc lv (.int v :: .ref a :: rest) := rr_put C 7 3 tyX9 tyX9_ok nmX9 inX9 rfl (by decide) (by decide) q_41 rfl rfl (fun _ => by simp [rr_fs]) ha hk (fs_7_3 σ a v) (fun b hb => rr_ce_e (rr_oI hb).symm rfl rfl) rr_T_i rfl rfl hdg (k _ hm)
theorem gf_42 (C : rr_C X G cc nL "RootRows$Placer" ret fr lo) {a : Nat} (ha : a ∈ G.2.2.1) (hk : G.2.2.2.1 a = 7) (hdg : decode cc pc = .ok (.getfield 70, 3)) (k : rr_J X G nL Q σ (pc + 3) lv (.int (mg_i σ a 4) :: rest)) : rr_J X G nL Q σ pc lv (.ref a :: rest) := rr_get C 7 4 inX9 rfl (by decide) (by decide) q_42 ha hk rfl hdg k
theorem pf_42 (C : rr_C X G cc nL "RootRows$Placer" ret fr lo) {α : Type} {kb : rr_M → Option α} {z : α} {a : Nat} {v : Int32} (ha : a ∈ G.2.2.1) (hk : G.2.2.2.1 a = 7) (hdg : decode cc pc = .ok (.putfield 70, 3)) (hm : rr_lt (ms_i σ a 4 v) kb = some z) (k : ∀ σ1 : rr_M, kb σ1 = some z → rr_J X G nL Q σ1 (pc + 3) lv rest) : rr_J X G nL Q σ pc lv (.int v :: .ref a :: rest) := rr_put C 7 4 tyX9 tyX9_ok nmX9 inX9 rfl (by decide) (by decide) q_42 rfl rfl (fun _ => by simp [rr_fs]) ha hk (fs_7_4 σ a v) (fun b hb => rr_ce_e (rr_oI hb).symm rfl rfl) rr_T_i rfl rfl hdg (k _ hm)
theorem gf_43 (C : rr_C X G cc nL "RootRows$Levels" ret fr lo) {a : Nat} (ha : a ∈ G.2.2.1) (hk : G.2.2.2.1 a = 7) (hdg : decode cc pc = .ok (.getfield 41, 3)) (k : rr_J X G nL Q σ (pc + 3) lv (.int (mg_i σ a 4) :: rest)) : rr_J X G nL Q σ pc lv (.ref a :: rest) := rr_get C 7 4 inX9 rfl (by decide) (by decide) q_43 ha hk rfl hdg k
theorem pf_43 (C : rr_C X G cc nL "RootRows$Levels" ret fr lo) {α : Type} {kb : rr_M → Option α} {z : α} {a : Nat} {v : Int32} (ha : a ∈ G.2.2.1) (hk : G.2.2.2.1 a = 7) (hdg : decode cc pc = .ok (.putfield 41, 3)) (hm : rr_lt (ms_i σ a 4 v) kb = some z) (k : ∀ σ1 : rr_M, kb σ1 = some z → rr_J X G nL Q σ1 (pc + 3) lv rest) : rr_J X G nL Q σ pc lv (.int v :: .ref a :: rest) := rr_put C 7 4 tyX9 tyX9_ok nmX9 inX9 rfl (by decide) (by decide) q_43 rfl rfl (fun _ => by simp [rr_fs]) ha hk (fs_7_4 σ a v) (fun b hb => rr_ce_e (rr_oI hb).symm rfl rfl) rr_T_i rfl rfl hdg (k _ hm)
theorem gf_44 (C : rr_C X G cc nL "RootRows$Tray" ret fr lo) {a : Nat} (ha : a ∈ G.2.2.1) (hk : G.2.2.2.1 a = 7) (hdg : decode cc pc = .ok (.getfield 46, 3)) (k : rr_J X G nL Q σ (pc + 3) lv (.int (mg_i σ a 4) :: rest)) : rr_J X G nL Q σ pc lv (.ref a :: rest) := rr_get C 7 4 inX9 rfl (by decide) (by decide) q_44 ha hk rfl hdg k
theorem pf_44 (C : rr_C X G cc nL "RootRows$Tray" ret fr lo) {α : Type} {kb : rr_M → Option α} {z : α} {a : Nat} {v : Int32} (ha : a ∈ G.2.2.1) (hk : G.2.2.2.1 a = 7) (hdg : decode cc pc = .ok (.putfield 46, 3)) (hm : rr_lt (ms_i σ a 4 v) kb = some z) (k : ∀ σ1 : rr_M, kb σ1 = some z → rr_J X G nL Q σ1 (pc + 3) lv rest) : rr_J X G nL Q σ pc lv (.int v :: .ref a :: rest) := rr_put C 7 4 tyX9 tyX9_ok nmX9 inX9 rfl (by decide) (by decide) q_44 rfl rfl (fun _ => by simp [rr_fs]) ha hk (fs_7_4 σ a v) (fun b hb => rr_ce_e (rr_oI hb).symm rfl rfl) rr_T_i rfl rfl hdg (k _ hm)
theorem gf_45 (C : rr_C X G cc nL "RootRows" ret fr lo) {a : Nat} (ha : a ∈ G.2.2.1) (hk : G.2.2.2.1 a = 7) (hdg : decode cc pc = .ok (.getfield 145, 3)) (k : rr_J X G nL Q σ (pc + 3) lv (.int (mg_i σ a 4) :: rest)) : rr_J X G nL Q σ pc lv (.ref a :: rest) := rr_get C 7 4 inX9 rfl (by decide) (by decide) q_45 ha hk rfl hdg k
theorem pf_45 (C : rr_C X G cc nL "RootRows" ret fr lo) {α : Type} {kb : rr_M → Option α} {z : α} {a : Nat} {v : Int32} (ha : a ∈ G.2.2.1) (hk : G.2.2.2.1 a = 7) (hdg : decode cc pc = .ok (.putfield 145, 3)) (hm : rr_lt (ms_i σ a 4 v) kb = some z) (k : ∀ σ1 : rr_M, kb σ1 = some z → rr_J X G nL Q σ1 (pc + 3) lv rest) : rr_J X G nL Q σ pc lv (.int v :: .ref a :: rest) := rr_put C 7 4 tyX9 tyX9_ok nmX9 inX9 rfl (by decide) (by decide) q_45 rfl rfl (fun _ => by simp [rr_fs]) ha hk (fs_7_4 σ a v) (fun b hb => rr_ce_e (rr_oI hb).symm rfl rfl) rr_T_i rfl rfl hdg (k _ hm)
theorem gf_46 (C : rr_C X G cc nL "RootRows$Levels" ret fr lo) {a : Nat} (ha : a ∈ G.2.2.1) (hk : G.2.2.2.1 a = 7) (hdg : decode cc pc = .ok (.getfield 44, 3)) (k : rr_J X G nL Q σ (pc + 3) lv (.int (mg_i σ a 5) :: rest)) : rr_J X G nL Q σ pc lv (.ref a :: rest) := rr_get C 7 5 inX9 rfl (by decide) (by decide) q_46 ha hk rfl hdg k
theorem pf_46 (C : rr_C X G cc nL "RootRows$Levels" ret fr lo) {α : Type} {kb : rr_M → Option α} {z : α} {a : Nat} {v : Int32} (ha : a ∈ G.2.2.1) (hk : G.2.2.2.1 a = 7) (hdg : decode cc pc = .ok (.putfield 44, 3)) (hm : rr_lt (ms_i σ a 5 v) kb = some z) (k : ∀ σ1 : rr_M, kb σ1 = some z → rr_J X G nL Q σ1 (pc + 3) lv rest) : rr_J X G nL Q σ pc lv (.int v :: .ref a :: rest) := rr_put C 7 5 tyX9 tyX9_ok nmX9 inX9 rfl (by decide) (by decide) q_46 rfl rfl (fun _ => by simp [rr_fs]) ha hk (fs_7_5 σ a v) (fun b hb => rr_ce_e (rr_oI hb).symm rfl rfl) rr_T_i rfl rfl hdg (k _ hm)
theorem gf_47 (C : rr_C X G cc nL "RootRows$Placer" ret fr lo) {a : Nat} (ha : a ∈ G.2.2.1) (hk : G.2.2.2.1 a = 7) (hdg : decode cc pc = .ok (.getfield 122, 3)) (k : rr_J X G nL Q σ (pc + 3) lv (.int (mg_i σ a 5) :: rest)) : rr_J X G nL Q σ pc lv (.ref a :: rest) := rr_get C 7 5 inX9 rfl (by decide) (by decide) q_47 ha hk rfl hdg k
theorem pf_47 (C : rr_C X G cc nL "RootRows$Placer" ret fr lo) {α : Type} {kb : rr_M → Option α} {z : α} {a : Nat} {v : Int32} (ha : a ∈ G.2.2.1) (hk : G.2.2.2.1 a = 7) (hdg : decode cc pc = .ok (.putfield 122, 3)) (hm : rr_lt (ms_i σ a 5 v) kb = some z) (k : ∀ σ1 : rr_M, kb σ1 = some z → rr_J X G nL Q σ1 (pc + 3) lv rest) : rr_J X G nL Q σ pc lv (.int v :: .ref a :: rest) := rr_put C 7 5 tyX9 tyX9_ok nmX9 inX9 rfl (by decide) (by decide) q_47 rfl rfl (fun _ => by simp [rr_fs]) ha hk (fs_7_5 σ a v) (fun b hb => rr_ce_e (rr_oI hb).symm rfl rfl) rr_T_i rfl rfl hdg (k _ hm)
theorem gf_48 (C : rr_C X G cc nL "RootRows" ret fr lo) {a : Nat} (ha : a ∈ G.2.2.1) (hk : G.2.2.2.1 a = 7) (hdg : decode cc pc = .ok (.getfield 148, 3)) (k : rr_J X G nL Q σ (pc + 3) lv (.int (mg_i σ a 5) :: rest)) : rr_J X G nL Q σ pc lv (.ref a :: rest) := rr_get C 7 5 inX9 rfl (by decide) (by decide) q_48 ha hk rfl hdg k
theorem pf_48 (C : rr_C X G cc nL "RootRows" ret fr lo) {α : Type} {kb : rr_M → Option α} {z : α} {a : Nat} {v : Int32} (ha : a ∈ G.2.2.1) (hk : G.2.2.2.1 a = 7) (hdg : decode cc pc = .ok (.putfield 148, 3)) (hm : rr_lt (ms_i σ a 5 v) kb = some z) (k : ∀ σ1 : rr_M, kb σ1 = some z → rr_J X G nL Q σ1 (pc + 3) lv rest) : rr_J X G nL Q σ pc lv (.int v :: .ref a :: rest) := rr_put C 7 5 tyX9 tyX9_ok nmX9 inX9 rfl (by decide) (by decide) q_48 rfl rfl (fun _ => by simp [rr_fs]) ha hk (fs_7_5 σ a v) (fun b hb => rr_ce_e (rr_oI hb).symm rfl rfl) rr_T_i rfl rfl hdg (k _ hm)
theorem gf_49 (C : rr_C X G cc nL "RootRows$Levels" ret fr lo) {a : Nat} (ha : a ∈ G.2.2.1) (hk : G.2.2.2.1 a = 7) (hdg : decode cc pc = .ok (.getfield 34, 3)) (k : rr_J X G nL Q σ (pc + 3) lv (.int (mg_i σ a 6) :: rest)) : rr_J X G nL Q σ pc lv (.ref a :: rest) := rr_get C 7 6 inX9 rfl (by decide) (by decide) q_49 ha hk rfl hdg k
theorem pf_49 (C : rr_C X G cc nL "RootRows$Levels" ret fr lo) {α : Type} {kb : rr_M → Option α} {z : α} {a : Nat} {v : Int32} (ha : a ∈ G.2.2.1) (hk : G.2.2.2.1 a = 7) (hdg : decode cc pc = .ok (.putfield 34, 3)) (hm : rr_lt (ms_i σ a 6 v) kb = some z) (k : ∀ σ1 : rr_M, kb σ1 = some z → rr_J X G nL Q σ1 (pc + 3) lv rest) : rr_J X G nL Q σ pc lv (.int v :: .ref a :: rest) := rr_put C 7 6 tyX9 tyX9_ok nmX9 inX9 rfl (by decide) (by decide) q_49 rfl rfl (fun _ => by simp [rr_fs]) ha hk (fs_7_6 σ a v) (fun b hb => rr_ce_e (rr_oI hb).symm rfl rfl) rr_T_i rfl rfl hdg (k _ hm)
theorem gf_50 (C : rr_C X G cc nL "RootRows$Tray" ret fr lo) {a : Nat} (ha : a ∈ G.2.2.1) (hk : G.2.2.2.1 a = 7) (hdg : decode cc pc = .ok (.getfield 50, 3)) (k : rr_J X G nL Q σ (pc + 3) lv (.int (mg_i σ a 6) :: rest)) : rr_J X G nL Q σ pc lv (.ref a :: rest) := rr_get C 7 6 inX9 rfl (by decide) (by decide) q_50 ha hk rfl hdg k
theorem pf_50 (C : rr_C X G cc nL "RootRows$Tray" ret fr lo) {α : Type} {kb : rr_M → Option α} {z : α} {a : Nat} {v : Int32} (ha : a ∈ G.2.2.1) (hk : G.2.2.2.1 a = 7) (hdg : decode cc pc = .ok (.putfield 50, 3)) (hm : rr_lt (ms_i σ a 6 v) kb = some z) (k : ∀ σ1 : rr_M, kb σ1 = some z → rr_J X G nL Q σ1 (pc + 3) lv rest) : rr_J X G nL Q σ pc lv (.int v :: .ref a :: rest) := rr_put C 7 6 tyX9 tyX9_ok nmX9 inX9 rfl (by decide) (by decide) q_50 rfl rfl (fun _ => by simp [rr_fs]) ha hk (fs_7_6 σ a v) (fun b hb => rr_ce_e (rr_oI hb).symm rfl rfl) rr_T_i rfl rfl hdg (k _ hm)
theorem gf_51 (C : rr_C X G cc nL "RootRows" ret fr lo) {a : Nat} (ha : a ∈ G.2.2.1) (hk : G.2.2.2.1 a = 7) (hdg : decode cc pc = .ok (.getfield 155, 3)) (k : rr_J X G nL Q σ (pc + 3) lv (.int (mg_i σ a 6) :: rest)) : rr_J X G nL Q σ pc lv (.ref a :: rest) := rr_get C 7 6 inX9 rfl (by decide) (by decide) q_51 ha hk rfl hdg k
theorem pf_51 (C : rr_C X G cc nL "RootRows" ret fr lo) {α : Type} {kb : rr_M → Option α} {z : α} {a : Nat} {v : Int32} (ha : a ∈ G.2.2.1) (hk : G.2.2.2.1 a = 7) (hdg : decode cc pc = .ok (.putfield 155, 3)) (hm : rr_lt (ms_i σ a 6 v) kb = some z) (k : ∀ σ1 : rr_M, kb σ1 = some z → rr_J X G nL Q σ1 (pc + 3) lv rest) : rr_J X G nL Q σ pc lv (.int v :: .ref a :: rest) := rr_put C 7 6 tyX9 tyX9_ok nmX9 inX9 rfl (by decide) (by decide) q_51 rfl rfl (fun _ => by simp [rr_fs]) ha hk (fs_7_6 σ a v) (fun b hb => rr_ce_e (rr_oI hb).symm rfl rfl) rr_T_i rfl rfl hdg (k _ hm)
theorem gf_52 (C : rr_C X G cc nL "RootRows$Tray" ret fr lo) {α : Type} {kb : Nat → Option α} {z : α} {a : Nat} (ha : a ∈ G.2.2.1) (hk : G.2.2.2.1 a = 7) (hdg : decode cc pc = .ok (.getfield 17, 3)) (hm : rr_lt (mg_r σ a 7) kb = some z) (k : ∀ b : Nat, b ∈ G.2.2.1 → G.2.2.2.1 b = 11 → kb b = some z → rr_J X G nL Q σ (pc + 3) lv (.ref b :: rest)) : rr_J X G nL Q σ pc lv (.ref a :: rest) := by
  intro hT
  have ht := hT a ha 7 11 (by rw [hk]; rfl)
  exact rr_get C 7 7 inX9 rfl (by decide) (by decide) q_52 ha hk rfl hdg (k _ ht.1 ht.2 hm) hT
theorem gf_53 (C : rr_C X G cc nL "RootRows$Levels" ret fr lo) {α : Type} {kb : Nat → Option α} {z : α} {a : Nat} (ha : a ∈ G.2.2.1) (hk : G.2.2.2.1 a = 7) (hdg : decode cc pc = .ok (.getfield 94, 3)) (hm : rr_lt (mg_r σ a 7) kb = some z) (k : ∀ b : Nat, b ∈ G.2.2.1 → G.2.2.2.1 b = 11 → kb b = some z → rr_J X G nL Q σ (pc + 3) lv (.ref b :: rest)) : rr_J X G nL Q σ pc lv (.ref a :: rest) := by
  intro hT
  have ht := hT a ha 7 11 (by rw [hk]; rfl)
  exact rr_get C 7 7 inX9 rfl (by decide) (by decide) q_53 ha hk rfl hdg (k _ ht.1 ht.2 hm) hT
theorem gf_54 (C : rr_C X G cc nL "RootRows" ret fr lo) {α : Type} {kb : Nat → Option α} {z : α} {a : Nat} (ha : a ∈ G.2.2.1) (hk : G.2.2.2.1 a = 7) (hdg : decode cc pc = .ok (.getfield 190, 3)) (hm : rr_lt (mg_r σ a 7) kb = some z) (k : ∀ b : Nat, b ∈ G.2.2.1 → G.2.2.2.1 b = 11 → kb b = some z → rr_J X G nL Q σ (pc + 3) lv (.ref b :: rest)) : rr_J X G nL Q σ pc lv (.ref a :: rest) := by
  intro hT
  have ht := hT a ha 7 11 (by rw [hk]; rfl)
  exact rr_get C 7 7 inX9 rfl (by decide) (by decide) q_54 ha hk rfl hdg (k _ ht.1 ht.2 hm) hT
theorem gf_55 (C : rr_C X G cc nL "RootRows$Tray" ret fr lo) {α : Type} {kb : Nat → Option α} {z : α} {a : Nat} (ha : a ∈ G.2.2.1) (hk : G.2.2.2.1 a = 7) (hdg : decode cc pc = .ok (.getfield 21, 3)) (hm : rr_lt (mg_r σ a 8) kb = some z) (k : ∀ b : Nat, b ∈ G.2.2.1 → G.2.2.2.1 b = 11 → kb b = some z → rr_J X G nL Q σ (pc + 3) lv (.ref b :: rest)) : rr_J X G nL Q σ pc lv (.ref a :: rest) := by
  intro hT
  have ht := hT a ha 8 11 (by rw [hk]; rfl)
  exact rr_get C 7 8 inX9 rfl (by decide) (by decide) q_55 ha hk rfl hdg (k _ ht.1 ht.2 hm) hT
theorem gf_56 (C : rr_C X G cc nL "RootRows$Levels" ret fr lo) {α : Type} {kb : Nat → Option α} {z : α} {a : Nat} (ha : a ∈ G.2.2.1) (hk : G.2.2.2.1 a = 7) (hdg : decode cc pc = .ok (.getfield 98, 3)) (hm : rr_lt (mg_r σ a 8) kb = some z) (k : ∀ b : Nat, b ∈ G.2.2.1 → G.2.2.2.1 b = 11 → kb b = some z → rr_J X G nL Q σ (pc + 3) lv (.ref b :: rest)) : rr_J X G nL Q σ pc lv (.ref a :: rest) := by
  intro hT
  have ht := hT a ha 8 11 (by rw [hk]; rfl)
  exact rr_get C 7 8 inX9 rfl (by decide) (by decide) q_56 ha hk rfl hdg (k _ ht.1 ht.2 hm) hT
theorem gf_57 (C : rr_C X G cc nL "RootRows" ret fr lo) {α : Type} {kb : Nat → Option α} {z : α} {a : Nat} (ha : a ∈ G.2.2.1) (hk : G.2.2.2.1 a = 7) (hdg : decode cc pc = .ok (.getfield 193, 3)) (hm : rr_lt (mg_r σ a 8) kb = some z) (k : ∀ b : Nat, b ∈ G.2.2.1 → G.2.2.2.1 b = 11 → kb b = some z → rr_J X G nL Q σ (pc + 3) lv (.ref b :: rest)) : rr_J X G nL Q σ pc lv (.ref a :: rest) := by
  intro hT
  have ht := hT a ha 8 11 (by rw [hk]; rfl)
  exact rr_get C 7 8 inX9 rfl (by decide) (by decide) q_57 ha hk rfl hdg (k _ ht.1 ht.2 hm) hT
theorem gf_58 (C : rr_C X G cc nL "RootRows$Placer" ret fr lo) {a : Nat} (ha : a ∈ G.2.2.1) (hk : G.2.2.2.1 a = 7) (hdg : decode cc pc = .ok (.getfield 64, 3)) (k : rr_J X G nL Q σ (pc + 3) lv (.int (mg_i σ a 9) :: rest)) : rr_J X G nL Q σ pc lv (.ref a :: rest) := rr_get C 7 9 inX9 rfl (by decide) (by decide) q_58 ha hk rfl hdg k
theorem pf_58 (C : rr_C X G cc nL "RootRows$Placer" ret fr lo) {α : Type} {kb : rr_M → Option α} {z : α} {a : Nat} {v : Int32} (ha : a ∈ G.2.2.1) (hk : G.2.2.2.1 a = 7) (hdg : decode cc pc = .ok (.putfield 64, 3)) (hm : (if rr_b1 v then rr_lt (ms_i σ a 9 v) kb else none) = some z) (k : ∀ σ1 : rr_M, kb σ1 = some z → rr_J X G nL Q σ1 (pc + 3) lv rest) : rr_J X G nL Q σ pc lv (.int v :: .ref a :: rest) := by
  by_cases hb : rr_b1 v = true
  · rw [if_pos hb] at hm
    exact rr_put C 7 9 tyX9 tyX9_ok nmX9 inX9 rfl (by decide) (by decide) q_58 rfl rfl (fun _ => by simp [rr_fs]) ha hk (fs_7_9 σ a v) (fun b hb => rr_ce_e (rr_oI hb).symm rfl rfl) rr_T_i (rr_b1_n hb) (rr_b1_f hb) hdg (k _ hm)
  · rw [if_neg hb] at hm
    cases hm
theorem gf_59 (C : rr_C X G cc nL "RootRows$Tray" ret fr lo) {a : Nat} (ha : a ∈ G.2.2.1) (hk : G.2.2.2.1 a = 7) (hdg : decode cc pc = .ok (.getfield 41, 3)) (k : rr_J X G nL Q σ (pc + 3) lv (.int (mg_i σ a 9) :: rest)) : rr_J X G nL Q σ pc lv (.ref a :: rest) := rr_get C 7 9 inX9 rfl (by decide) (by decide) q_59 ha hk rfl hdg k
theorem pf_59 (C : rr_C X G cc nL "RootRows$Tray" ret fr lo) {α : Type} {kb : rr_M → Option α} {z : α} {a : Nat} {v : Int32} (ha : a ∈ G.2.2.1) (hk : G.2.2.2.1 a = 7) (hdg : decode cc pc = .ok (.putfield 41, 3)) (hm : (if rr_b1 v then rr_lt (ms_i σ a 9 v) kb else none) = some z) (k : ∀ σ1 : rr_M, kb σ1 = some z → rr_J X G nL Q σ1 (pc + 3) lv rest) : rr_J X G nL Q σ pc lv (.int v :: .ref a :: rest) := by
  by_cases hb : rr_b1 v = true
  · rw [if_pos hb] at hm
    exact rr_put C 7 9 tyX9 tyX9_ok nmX9 inX9 rfl (by decide) (by decide) q_59 rfl rfl (fun _ => by simp [rr_fs]) ha hk (fs_7_9 σ a v) (fun b hb => rr_ce_e (rr_oI hb).symm rfl rfl) rr_T_i (rr_b1_n hb) (rr_b1_f hb) hdg (k _ hm)
  · rw [if_neg hb] at hm
    cases hm
theorem gf_60 (C : rr_C X G cc nL "RootRows$Tray" ret fr lo) {α : Type} {kb : Nat → Option α} {z : α} {a : Nat} (ha : a ∈ G.2.2.1) (hk : G.2.2.2.1 a = 7) (hdg : decode cc pc = .ok (.getfield 24, 3)) (hm : rr_lt (mg_r σ a 10) kb = some z) (k : ∀ b : Nat, b ∈ G.2.2.1 → G.2.2.2.1 b = 12 → kb b = some z → rr_J X G nL Q σ (pc + 3) lv (.ref b :: rest)) : rr_J X G nL Q σ pc lv (.ref a :: rest) := by
  intro hT
  have ht := hT a ha 10 12 (by rw [hk]; rfl)
  exact rr_get C 7 10 inX9 rfl (by decide) (by decide) q_60 ha hk rfl hdg (k _ ht.1 ht.2 hm) hT
theorem gf_61 (C : rr_C X G cc nL "RootRows$Placer" ret fr lo) {α : Type} {kb : Nat → Option α} {z : α} {a : Nat} (ha : a ∈ G.2.2.1) (hk : G.2.2.2.1 a = 7) (hdg : decode cc pc = .ok (.getfield 108, 3)) (hm : rr_lt (mg_r σ a 10) kb = some z) (k : ∀ b : Nat, b ∈ G.2.2.1 → G.2.2.2.1 b = 12 → kb b = some z → rr_J X G nL Q σ (pc + 3) lv (.ref b :: rest)) : rr_J X G nL Q σ pc lv (.ref a :: rest) := by
  intro hT
  have ht := hT a ha 10 12 (by rw [hk]; rfl)
  exact rr_get C 7 10 inX9 rfl (by decide) (by decide) q_61 ha hk rfl hdg (k _ ht.1 ht.2 hm) hT
theorem gf_62 (C : rr_C X G cc nL "RootRows$Tray" ret fr lo) {α : Type} {kb : Nat → Option α} {z : α} {a : Nat} (ha : a ∈ G.2.2.1) (hk : G.2.2.2.1 a = 7) (hdg : decode cc pc = .ok (.getfield 27, 3)) (hm : rr_lt (mg_r σ a 11) kb = some z) (k : ∀ b : Nat, b ∈ G.2.2.1 → G.2.2.2.1 b = 13 → kb b = some z → rr_J X G nL Q σ (pc + 3) lv (.ref b :: rest)) : rr_J X G nL Q σ pc lv (.ref a :: rest) := by
  intro hT
  have ht := hT a ha 11 13 (by rw [hk]; rfl)
  exact rr_get C 7 11 inX9 rfl (by decide) (by decide) q_62 ha hk rfl hdg (k _ ht.1 ht.2 hm) hT
theorem gf_63 (C : rr_C X G cc nL "RootRows$Placer" ret fr lo) {α : Type} {kb : Nat → Option α} {z : α} {a : Nat} (ha : a ∈ G.2.2.1) (hk : G.2.2.2.1 a = 7) (hdg : decode cc pc = .ok (.getfield 111, 3)) (hm : rr_lt (mg_r σ a 11) kb = some z) (k : ∀ b : Nat, b ∈ G.2.2.1 → G.2.2.2.1 b = 13 → kb b = some z → rr_J X G nL Q σ (pc + 3) lv (.ref b :: rest)) : rr_J X G nL Q σ pc lv (.ref a :: rest) := by
  intro hT
  have ht := hT a ha 11 13 (by rw [hk]; rfl)
  exact rr_get C 7 11 inX9 rfl (by decide) (by decide) q_63 ha hk rfl hdg (k _ ht.1 ht.2 hm) hT
theorem gf_64 (C : rr_C X G cc nL "RootRows$Tray" ret fr lo) {α : Type} {kb : Nat → Option α} {z : α} {a : Nat} (ha : a ∈ G.2.2.1) (hk : G.2.2.2.1 a = 7) (hdg : decode cc pc = .ok (.getfield 31, 3)) (hm : rr_lt (mg_r σ a 12) kb = some z) (k : ∀ b : Nat, b ∈ G.2.2.1 → G.2.2.2.1 b = 11 → kb b = some z → rr_J X G nL Q σ (pc + 3) lv (.ref b :: rest)) : rr_J X G nL Q σ pc lv (.ref a :: rest) := by
  intro hT
  have ht := hT a ha 12 11 (by rw [hk]; rfl)
  exact rr_get C 7 12 inX9 rfl (by decide) (by decide) q_64 ha hk rfl hdg (k _ ht.1 ht.2 hm) hT
theorem gf_65 (C : rr_C X G cc nL "RootRows$Placer" ret fr lo) {α : Type} {kb : Nat → Option α} {z : α} {a : Nat} (ha : a ∈ G.2.2.1) (hk : G.2.2.2.1 a = 7) (hdg : decode cc pc = .ok (.getfield 119, 3)) (hm : rr_lt (mg_r σ a 12) kb = some z) (k : ∀ b : Nat, b ∈ G.2.2.1 → G.2.2.2.1 b = 11 → kb b = some z → rr_J X G nL Q σ (pc + 3) lv (.ref b :: rest)) : rr_J X G nL Q σ pc lv (.ref a :: rest) := by
  intro hT
  have ht := hT a ha 12 11 (by rw [hk]; rfl)
  exact rr_get C 7 12 inX9 rfl (by decide) (by decide) q_65 ha hk rfl hdg (k _ ht.1 ht.2 hm) hT
theorem gf_66 (C : rr_C X G cc nL "RootRows" ret fr lo) {α : Type} {kb : Nat → Option α} {z : α} {a : Nat} (ha : a ∈ G.2.2.1) (hk : G.2.2.2.1 a = 7) (hdg : decode cc pc = .ok (.getfield 172, 3)) (hm : rr_lt (mg_r σ a 12) kb = some z) (k : ∀ b : Nat, b ∈ G.2.2.1 → G.2.2.2.1 b = 11 → kb b = some z → rr_J X G nL Q σ (pc + 3) lv (.ref b :: rest)) : rr_J X G nL Q σ pc lv (.ref a :: rest) := by
  intro hT
  have ht := hT a ha 12 11 (by rw [hk]; rfl)
  exact rr_get C 7 12 inX9 rfl (by decide) (by decide) q_66 ha hk rfl hdg (k _ ht.1 ht.2 hm) hT
theorem gf_103 (C : rr_C X G cc nL "RootRows$Tape" ret fr lo) {α : Type} {kb : Nat → Option α} {z : α} {a : Nat} (ha : a ∈ G.2.2.1) (hk : G.2.2.2.1 a = 6) (hdg : decode cc pc = .ok (.getfield 11, 3)) (hm : rr_lt (mg_r σ a 0) kb = some z) (k : ∀ b : Nat, b ∈ G.2.2.1 → G.2.2.2.1 b = 11 → kb b = some z → rr_J X G nL Q σ (pc + 3) lv (.ref b :: rest)) : rr_J X G nL Q σ pc lv (.ref a :: rest) := by
  intro hT
  have ht := hT a ha 0 11 (by rw [hk]; rfl)
  exact rr_get C 6 0 inX8 rfl (by decide) (by decide) q_103 ha hk rfl hdg (k _ ht.1 ht.2 hm) hT
theorem gf_104 (C : rr_C X G cc nL "RootRows$Tape" ret fr lo) {a : Nat} (ha : a ∈ G.2.2.1) (hk : G.2.2.2.1 a = 6) (hdg : decode cc pc = .ok (.getfield 19, 3)) (k : rr_J X G nL Q σ (pc + 3) lv (.int (mg_i σ a 1) :: rest)) : rr_J X G nL Q σ pc lv (.ref a :: rest) := rr_get C 6 1 inX8 rfl (by decide) (by decide) q_104 ha hk rfl hdg k
theorem pf_104 (C : rr_C X G cc nL "RootRows$Tape" ret fr lo) {α : Type} {kb : rr_M → Option α} {z : α} {a : Nat} {v : Int32} (ha : a ∈ G.2.2.1) (hk : G.2.2.2.1 a = 6) (hdg : decode cc pc = .ok (.putfield 19, 3)) (hm : rr_lt (ms_i σ a 1 v) kb = some z) (k : ∀ σ1 : rr_M, kb σ1 = some z → rr_J X G nL Q σ1 (pc + 3) lv rest) : rr_J X G nL Q σ pc lv (.int v :: .ref a :: rest) := rr_put C 6 1 tyX8 tyX8_ok nmX8 inX8 rfl (by decide) (by decide) q_104 rfl rfl (fun _ => by simp [rr_fs]) ha hk (fs_6_1 σ a v) (fun b hb => rr_ce_e (rr_oI hb).symm rfl rfl) rr_T_i rfl rfl hdg (k _ hm)
theorem gf_105 (C : rr_C X G cc nL "RootRows" ret fr lo) {a : Nat} (ha : a ∈ G.2.2.1) (hk : G.2.2.2.1 a = 6) (hdg : decode cc pc = .ok (.getfield 70, 3)) (k : rr_J X G nL Q σ (pc + 3) lv (.int (mg_i σ a 1) :: rest)) : rr_J X G nL Q σ pc lv (.ref a :: rest) := rr_get C 6 1 inX8 rfl (by decide) (by decide) q_105 ha hk rfl hdg k
theorem pf_105 (C : rr_C X G cc nL "RootRows" ret fr lo) {α : Type} {kb : rr_M → Option α} {z : α} {a : Nat} {v : Int32} (ha : a ∈ G.2.2.1) (hk : G.2.2.2.1 a = 6) (hdg : decode cc pc = .ok (.putfield 70, 3)) (hm : rr_lt (ms_i σ a 1 v) kb = some z) (k : ∀ σ1 : rr_M, kb σ1 = some z → rr_J X G nL Q σ1 (pc + 3) lv rest) : rr_J X G nL Q σ pc lv (.int v :: .ref a :: rest) := rr_put C 6 1 tyX8 tyX8_ok nmX8 inX8 rfl (by decide) (by decide) q_105 rfl rfl (fun _ => by simp [rr_fs]) ha hk (fs_6_1 σ a v) (fun b hb => rr_ce_e (rr_oI hb).symm rfl rfl) rr_T_i rfl rfl hdg (k _ hm)
theorem gf_106 (C : rr_C X G cc nL "RootRows$Tape" ret fr lo) {a : Nat} (ha : a ∈ G.2.2.1) (hk : G.2.2.2.1 a = 6) (hdg : decode cc pc = .ok (.getfield 30, 3)) (k : rr_J X G nL Q σ (pc + 3) lv (.int (mg_i σ a 2) :: rest)) : rr_J X G nL Q σ pc lv (.ref a :: rest) := rr_get C 6 2 inX8 rfl (by decide) (by decide) q_106 ha hk rfl hdg k
theorem pf_106 (C : rr_C X G cc nL "RootRows$Tape" ret fr lo) {α : Type} {kb : rr_M → Option α} {z : α} {a : Nat} {v : Int32} (ha : a ∈ G.2.2.1) (hk : G.2.2.2.1 a = 6) (hdg : decode cc pc = .ok (.putfield 30, 3)) (hm : rr_lt (ms_i σ a 2 v) kb = some z) (k : ∀ σ1 : rr_M, kb σ1 = some z → rr_J X G nL Q σ1 (pc + 3) lv rest) : rr_J X G nL Q σ pc lv (.int v :: .ref a :: rest) := rr_put C 6 2 tyX8 tyX8_ok nmX8 inX8 rfl (by decide) (by decide) q_106 rfl rfl (fun _ => by simp [rr_fs]) ha hk (fs_6_2 σ a v) (fun b hb => rr_ce_e (rr_oI hb).symm rfl rfl) rr_T_i rfl rfl hdg (k _ hm)
theorem gf_107 (C : rr_C X G cc nL "RootRows" ret fr lo) {a : Nat} (ha : a ∈ G.2.2.1) (hk : G.2.2.2.1 a = 6) (hdg : decode cc pc = .ok (.getfield 81, 3)) (k : rr_J X G nL Q σ (pc + 3) lv (.int (mg_i σ a 2) :: rest)) : rr_J X G nL Q σ pc lv (.ref a :: rest) := rr_get C 6 2 inX8 rfl (by decide) (by decide) q_107 ha hk rfl hdg k
theorem pf_107 (C : rr_C X G cc nL "RootRows" ret fr lo) {α : Type} {kb : rr_M → Option α} {z : α} {a : Nat} {v : Int32} (ha : a ∈ G.2.2.1) (hk : G.2.2.2.1 a = 6) (hdg : decode cc pc = .ok (.putfield 81, 3)) (hm : rr_lt (ms_i σ a 2 v) kb = some z) (k : ∀ σ1 : rr_M, kb σ1 = some z → rr_J X G nL Q σ1 (pc + 3) lv rest) : rr_J X G nL Q σ pc lv (.int v :: .ref a :: rest) := rr_put C 6 2 tyX8 tyX8_ok nmX8 inX8 rfl (by decide) (by decide) q_107 rfl rfl (fun _ => by simp [rr_fs]) ha hk (fs_6_2 σ a v) (fun b hb => rr_ce_e (rr_oI hb).symm rfl rfl) rr_T_i rfl rfl hdg (k _ hm)
theorem gf_108 (C : rr_C X G cc nL "RootRows$Tape" ret fr lo) {α : Type} {kb : Nat → Option α} {z : α} {a : Nat} (ha : a ∈ G.2.2.1) (hk : G.2.2.2.1 a = 6) (hdg : decode cc pc = .ok (.getfield 15, 3)) (hm : rr_lt (mg_r σ a 3) kb = some z) (k : ∀ b : Nat, b ∈ G.2.2.1 → G.2.2.2.1 b = 12 → kb b = some z → rr_J X G nL Q σ (pc + 3) lv (.ref b :: rest)) : rr_J X G nL Q σ pc lv (.ref a :: rest) := by
  intro hT
  have ht := hT a ha 3 12 (by rw [hk]; rfl)
  exact rr_get C 6 3 inX8 rfl (by decide) (by decide) q_108 ha hk rfl hdg (k _ ht.1 ht.2 hm) hT
theorem gf_109 (C : rr_C X G cc nL "RootRows" ret fr lo) {α : Type} {kb : Nat → Option α} {z : α} {a : Nat} (ha : a ∈ G.2.2.1) (hk : G.2.2.2.1 a = 6) (hdg : decode cc pc = .ok (.getfield 84, 3)) (hm : rr_lt (mg_r σ a 3) kb = some z) (k : ∀ b : Nat, b ∈ G.2.2.1 → G.2.2.2.1 b = 12 → kb b = some z → rr_J X G nL Q σ (pc + 3) lv (.ref b :: rest)) : rr_J X G nL Q σ pc lv (.ref a :: rest) := by
  intro hT
  have ht := hT a ha 3 12 (by rw [hk]; rfl)
  exact rr_get C 6 3 inX8 rfl (by decide) (by decide) q_109 ha hk rfl hdg (k _ ht.1 ht.2 hm) hT
theorem gf_110 (C : rr_C X G cc nL "RootRows$Tape" ret fr lo) {a : Nat} (ha : a ∈ G.2.2.1) (hk : G.2.2.2.1 a = 6) (hdg : decode cc pc = .ok (.getfield 43, 3)) (k : rr_J X G nL Q σ (pc + 3) lv (.int (mg_i σ a 4) :: rest)) : rr_J X G nL Q σ pc lv (.ref a :: rest) := rr_get C 6 4 inX8 rfl (by decide) (by decide) q_110 ha hk rfl hdg k
theorem pf_110 (C : rr_C X G cc nL "RootRows$Tape" ret fr lo) {α : Type} {kb : rr_M → Option α} {z : α} {a : Nat} {v : Int32} (ha : a ∈ G.2.2.1) (hk : G.2.2.2.1 a = 6) (hdg : decode cc pc = .ok (.putfield 43, 3)) (hm : rr_lt (ms_i σ a 4 v) kb = some z) (k : ∀ σ1 : rr_M, kb σ1 = some z → rr_J X G nL Q σ1 (pc + 3) lv rest) : rr_J X G nL Q σ pc lv (.int v :: .ref a :: rest) := rr_put C 6 4 tyX8 tyX8_ok nmX8 inX8 rfl (by decide) (by decide) q_110 rfl rfl (fun _ => by simp [rr_fs]) ha hk (fs_6_4 σ a v) (fun b hb => rr_ce_e (rr_oI hb).symm rfl rfl) rr_T_i rfl rfl hdg (k _ hm)
theorem gf_111 (C : rr_C X G cc nL "RootRows$Tape" ret fr lo) {a : Nat} (ha : a ∈ G.2.2.1) (hk : G.2.2.2.1 a = 6) (hdg : decode cc pc = .ok (.getfield 95, 3)) (k : rr_J X G nL Q σ (pc + 3) lv (.int (mg_i σ a 5) :: rest)) : rr_J X G nL Q σ pc lv (.ref a :: rest) := rr_get C 6 5 inX8 rfl (by decide) (by decide) q_111 ha hk rfl hdg k
theorem pf_111 (C : rr_C X G cc nL "RootRows$Tape" ret fr lo) {α : Type} {kb : rr_M → Option α} {z : α} {a : Nat} {v : Int32} (ha : a ∈ G.2.2.1) (hk : G.2.2.2.1 a = 6) (hdg : decode cc pc = .ok (.putfield 95, 3)) (hm : (if rr_b1 v then rr_lt (ms_i σ a 5 v) kb else none) = some z) (k : ∀ σ1 : rr_M, kb σ1 = some z → rr_J X G nL Q σ1 (pc + 3) lv rest) : rr_J X G nL Q σ pc lv (.int v :: .ref a :: rest) := by
  by_cases hb : rr_b1 v = true
  · rw [if_pos hb] at hm
    exact rr_put C 6 5 tyX8 tyX8_ok nmX8 inX8 rfl (by decide) (by decide) q_111 rfl rfl (fun _ => by simp [rr_fs]) ha hk (fs_6_5 σ a v) (fun b hb => rr_ce_e (rr_oI hb).symm rfl rfl) rr_T_i (rr_b1_n hb) (rr_b1_f hb) hdg (k _ hm)
  · rw [if_neg hb] at hm
    cases hm
theorem gf_112 (C : rr_C X G cc nL "RootRows$Tape" ret fr lo) {a : Nat} (ha : a ∈ G.2.2.1) (hk : G.2.2.2.1 a = 6) (hdg : decode cc pc = .ok (.getfield 84, 3)) (k : rr_J X G nL Q σ (pc + 3) lv (.long (mg_l σ a 6) :: rest)) : rr_J X G nL Q σ pc lv (.ref a :: rest) := rr_get C 6 6 inX8 rfl (by decide) (by decide) q_112 ha hk rfl hdg k
theorem pf_112 (C : rr_C X G cc nL "RootRows$Tape" ret fr lo) {α : Type} {kb : rr_M → Option α} {z : α} {a : Nat} {v : Int64} (ha : a ∈ G.2.2.1) (hk : G.2.2.2.1 a = 6) (hdg : decode cc pc = .ok (.putfield 84, 3)) (hm : rr_lt (ms_l σ a 6 v) kb = some z) (k : ∀ σ1 : rr_M, kb σ1 = some z → rr_J X G nL Q σ1 (pc + 3) lv rest) : rr_J X G nL Q σ pc lv (.long v :: .ref a :: rest) := rr_put C 6 6 tyX8 tyX8_ok nmX8 inX8 rfl (by decide) (by decide) q_112 rfl rfl (fun _ => by simp [rr_fs]) ha hk (fs_6_6 σ a v) (fun b hb => rr_ce_e rfl (rr_oL hb).symm rfl) rr_T_l rfl rfl hdg (k _ hm)
theorem gf_113 (C : rr_C X G cc nL "RootRows$Tape" ret fr lo) {a : Nat} (ha : a ∈ G.2.2.1) (hk : G.2.2.2.1 a = 6) (hdg : decode cc pc = .ok (.getfield 92, 3)) (k : rr_J X G nL Q σ (pc + 3) lv (.int (mg_i σ a 7) :: rest)) : rr_J X G nL Q σ pc lv (.ref a :: rest) := rr_get C 6 7 inX8 rfl (by decide) (by decide) q_113 ha hk rfl hdg k
theorem pf_113 (C : rr_C X G cc nL "RootRows$Tape" ret fr lo) {α : Type} {kb : rr_M → Option α} {z : α} {a : Nat} {v : Int32} (ha : a ∈ G.2.2.1) (hk : G.2.2.2.1 a = 6) (hdg : decode cc pc = .ok (.putfield 92, 3)) (hm : rr_lt (ms_i σ a 7 v) kb = some z) (k : ∀ σ1 : rr_M, kb σ1 = some z → rr_J X G nL Q σ1 (pc + 3) lv rest) : rr_J X G nL Q σ pc lv (.int v :: .ref a :: rest) := rr_put C 6 7 tyX8 tyX8_ok nmX8 inX8 rfl (by decide) (by decide) q_113 rfl rfl (fun _ => by simp [rr_fs]) ha hk (fs_6_7 σ a v) (fun b hb => rr_ce_e (rr_oI hb).symm rfl rfl) rr_T_i rfl rfl hdg (k _ hm)
theorem gf_137 (C : rr_C X G cc nL "RootRows$Maker" ret fr lo) {α : Type} {kb : Nat → Option α} {z : α} {a : Nat} (ha : a ∈ G.2.2.1) (hk : G.2.2.2.1 a = 2) (hdg : decode cc pc = .ok (.getfield 9, 3)) (hm : rr_lt (mg_r σ a 0) kb = some z) (k : ∀ b : Nat, b ∈ G.2.2.1 → G.2.2.2.1 b = 12 → kb b = some z → rr_J X G nL Q σ (pc + 3) lv (.ref b :: rest)) : rr_J X G nL Q σ pc lv (.ref a :: rest) := by
  intro hT
  have ht := hT a ha 0 12 (by rw [hk]; rfl)
  exact rr_get C 2 0 inX2 rfl (by decide) (by decide) q_137 ha hk rfl hdg (k _ ht.1 ht.2 hm) hT
theorem gf_138 (C : rr_C X G cc nL "RootRows" ret fr lo) {α : Type} {kb : Nat → Option α} {z : α} {a : Nat} (ha : a ∈ G.2.2.1) (hk : G.2.2.2.1 a = 2) (hdg : decode cc pc = .ok (.getfield 113, 3)) (hm : rr_lt (mg_r σ a 0) kb = some z) (k : ∀ b : Nat, b ∈ G.2.2.1 → G.2.2.2.1 b = 12 → kb b = some z → rr_J X G nL Q σ (pc + 3) lv (.ref b :: rest)) : rr_J X G nL Q σ pc lv (.ref a :: rest) := by
  intro hT
  have ht := hT a ha 0 12 (by rw [hk]; rfl)
  exact rr_get C 2 0 inX2 rfl (by decide) (by decide) q_138 ha hk rfl hdg (k _ ht.1 ht.2 hm) hT
theorem gf_158 (C : rr_C X G cc nL "RootRows$Big" ret fr lo) {α : Type} {kb : Nat → Option α} {z : α} {a : Nat} (ha : a ∈ G.2.2.1) (hk : G.2.2.2.1 a = 0) (hdg : decode cc pc = .ok (.getfield 15, 3)) (hm : rr_lt (mg_r σ a 0) kb = some z) (k : ∀ b : Nat, b ∈ G.2.2.1 → G.2.2.2.1 b = 12 → kb b = some z → rr_J X G nL Q σ (pc + 3) lv (.ref b :: rest)) : rr_J X G nL Q σ pc lv (.ref a :: rest) := by
  intro hT
  have ht := hT a ha 0 12 (by rw [hk]; rfl)
  exact rr_get C 0 0 inX0 rfl (by decide) (by decide) q_158 ha hk rfl hdg (k _ ht.1 ht.2 hm) hT
theorem gf_159 (C : rr_C X G cc nL "RootRows$Big" ret fr lo) {a : Nat} (ha : a ∈ G.2.2.1) (hk : G.2.2.2.1 a = 0) (hdg : decode cc pc = .ok (.getfield 19, 3)) (k : rr_J X G nL Q σ (pc + 3) lv (.int (mg_i σ a 1) :: rest)) : rr_J X G nL Q σ pc lv (.ref a :: rest) := rr_get C 0 1 inX0 rfl (by decide) (by decide) q_159 ha hk rfl hdg k
theorem pf_159 (C : rr_C X G cc nL "RootRows$Big" ret fr lo) {α : Type} {kb : rr_M → Option α} {z : α} {a : Nat} {v : Int32} (ha : a ∈ G.2.2.1) (hk : G.2.2.2.1 a = 0) (hdg : decode cc pc = .ok (.putfield 19, 3)) (hm : rr_lt (ms_i σ a 1 v) kb = some z) (k : ∀ σ1 : rr_M, kb σ1 = some z → rr_J X G nL Q σ1 (pc + 3) lv rest) : rr_J X G nL Q σ pc lv (.int v :: .ref a :: rest) := rr_put C 0 1 tyX0 tyX0_ok nmX0 inX0 rfl (by decide) (by decide) q_159 rfl rfl (fun _ => by simp [rr_fs]) ha hk (fs_0_1 σ a v) (fun b hb => rr_ce_e (rr_oI hb).symm rfl rfl) rr_T_i rfl rfl hdg (k _ hm)
theorem gf_165 (C : rr_C X G cc nL "RootRows$Sequence" ret fr lo) {α : Type} {kb : Nat → Option α} {z : α} {a : Nat} (ha : a ∈ G.2.2.1) (hk : G.2.2.2.1 a = 5) (hdg : decode cc pc = .ok (.getfield 13, 3)) (hm : rr_lt (mg_r σ a 0) kb = some z) (k : ∀ b : Nat, b ∈ G.2.2.1 → G.2.2.2.1 b = 14 → kb b = some z → rr_J X G nL Q σ (pc + 3) lv (.ref b :: rest)) : rr_J X G nL Q σ pc lv (.ref a :: rest) := by
  intro hT
  have ht := hT a ha 0 14 (by rw [hk]; rfl)
  exact rr_get C 5 0 inX7 rfl (by decide) (by decide) q_165 ha hk rfl hdg (k _ ht.1 ht.2 hm) hT
theorem gf_166 (C : rr_C X G cc nL "RootRows$Placer" ret fr lo) {α : Type} {kb : Nat → Option α} {z : α} {a : Nat} (ha : a ∈ G.2.2.1) (hk : G.2.2.2.1 a = 5) (hdg : decode cc pc = .ok (.getfield 166, 3)) (hm : rr_lt (mg_r σ a 0) kb = some z) (k : ∀ b : Nat, b ∈ G.2.2.1 → G.2.2.2.1 b = 14 → kb b = some z → rr_J X G nL Q σ (pc + 3) lv (.ref b :: rest)) : rr_J X G nL Q σ pc lv (.ref a :: rest) := by
  intro hT
  have ht := hT a ha 0 14 (by rw [hk]; rfl)
  exact rr_get C 5 0 inX7 rfl (by decide) (by decide) q_166 ha hk rfl hdg (k _ ht.1 ht.2 hm) hT
theorem gf_167 (C : rr_C X G cc nL "RootRows$Sequence" ret fr lo) {α : Type} {kb : Nat → Option α} {z : α} {a : Nat} (ha : a ∈ G.2.2.1) (hk : G.2.2.2.1 a = 5) (hdg : decode cc pc = .ok (.getfield 17, 3)) (hm : rr_lt (mg_r σ a 1) kb = some z) (k : ∀ b : Nat, b ∈ G.2.2.1 → G.2.2.2.1 b = 11 → kb b = some z → rr_J X G nL Q σ (pc + 3) lv (.ref b :: rest)) : rr_J X G nL Q σ pc lv (.ref a :: rest) := by
  intro hT
  have ht := hT a ha 1 11 (by rw [hk]; rfl)
  exact rr_get C 5 1 inX7 rfl (by decide) (by decide) q_167 ha hk rfl hdg (k _ ht.1 ht.2 hm) hT
theorem gf_168 (C : rr_C X G cc nL "RootRows$Levels" ret fr lo) {α : Type} {kb : Nat → Option α} {z : α} {a : Nat} (ha : a ∈ G.2.2.1) (hk : G.2.2.2.1 a = 5) (hdg : decode cc pc = .ok (.getfield 97, 3)) (hm : rr_lt (mg_r σ a 1) kb = some z) (k : ∀ b : Nat, b ∈ G.2.2.1 → G.2.2.2.1 b = 11 → kb b = some z → rr_J X G nL Q σ (pc + 3) lv (.ref b :: rest)) : rr_J X G nL Q σ pc lv (.ref a :: rest) := by
  intro hT
  have ht := hT a ha 1 11 (by rw [hk]; rfl)
  exact rr_get C 5 1 inX7 rfl (by decide) (by decide) q_168 ha hk rfl hdg (k _ ht.1 ht.2 hm) hT
theorem gf_169 (C : rr_C X G cc nL "RootRows$Placer" ret fr lo) {α : Type} {kb : Nat → Option α} {z : α} {a : Nat} (ha : a ∈ G.2.2.1) (hk : G.2.2.2.1 a = 5) (hdg : decode cc pc = .ok (.getfield 169, 3)) (hm : rr_lt (mg_r σ a 1) kb = some z) (k : ∀ b : Nat, b ∈ G.2.2.1 → G.2.2.2.1 b = 11 → kb b = some z → rr_J X G nL Q σ (pc + 3) lv (.ref b :: rest)) : rr_J X G nL Q σ pc lv (.ref a :: rest) := by
  intro hT
  have ht := hT a ha 1 11 (by rw [hk]; rfl)
  exact rr_get C 5 1 inX7 rfl (by decide) (by decide) q_169 ha hk rfl hdg (k _ ht.1 ht.2 hm) hT
theorem gf_170 (C : rr_C X G cc nL "RootRows$Sequence" ret fr lo) {α : Type} {kb : Nat → Option α} {z : α} {a : Nat} (ha : a ∈ G.2.2.1) (hk : G.2.2.2.1 a = 5) (hdg : decode cc pc = .ok (.getfield 21, 3)) (hm : rr_lt (mg_r σ a 2) kb = some z) (k : ∀ b : Nat, b ∈ G.2.2.1 → G.2.2.2.1 b = 11 → kb b = some z → rr_J X G nL Q σ (pc + 3) lv (.ref b :: rest)) : rr_J X G nL Q σ pc lv (.ref a :: rest) := by
  intro hT
  have ht := hT a ha 2 11 (by rw [hk]; rfl)
  exact rr_get C 5 2 inX7 rfl (by decide) (by decide) q_170 ha hk rfl hdg (k _ ht.1 ht.2 hm) hT
theorem gf_171 (C : rr_C X G cc nL "RootRows$Levels" ret fr lo) {α : Type} {kb : Nat → Option α} {z : α} {a : Nat} (ha : a ∈ G.2.2.1) (hk : G.2.2.2.1 a = 5) (hdg : decode cc pc = .ok (.getfield 101, 3)) (hm : rr_lt (mg_r σ a 2) kb = some z) (k : ∀ b : Nat, b ∈ G.2.2.1 → G.2.2.2.1 b = 11 → kb b = some z → rr_J X G nL Q σ (pc + 3) lv (.ref b :: rest)) : rr_J X G nL Q σ pc lv (.ref a :: rest) := by
  intro hT
  have ht := hT a ha 2 11 (by rw [hk]; rfl)
  exact rr_get C 5 2 inX7 rfl (by decide) (by decide) q_171 ha hk rfl hdg (k _ ht.1 ht.2 hm) hT
theorem gf_172 (C : rr_C X G cc nL "RootRows$Placer" ret fr lo) {α : Type} {kb : Nat → Option α} {z : α} {a : Nat} (ha : a ∈ G.2.2.1) (hk : G.2.2.2.1 a = 5) (hdg : decode cc pc = .ok (.getfield 181, 3)) (hm : rr_lt (mg_r σ a 2) kb = some z) (k : ∀ b : Nat, b ∈ G.2.2.1 → G.2.2.2.1 b = 11 → kb b = some z → rr_J X G nL Q σ (pc + 3) lv (.ref b :: rest)) : rr_J X G nL Q σ pc lv (.ref a :: rest) := by
  intro hT
  have ht := hT a ha 2 11 (by rw [hk]; rfl)
  exact rr_get C 5 2 inX7 rfl (by decide) (by decide) q_172 ha hk rfl hdg (k _ ht.1 ht.2 hm) hT
theorem gf_173 (C : rr_C X G cc nL "RootRows" ret fr lo) {α : Type} {kb : Nat → Option α} {z : α} {a : Nat} (ha : a ∈ G.2.2.1) (hk : G.2.2.2.1 a = 5) (hdg : decode cc pc = .ok (.getfield 228, 3)) (hm : rr_lt (mg_r σ a 2) kb = some z) (k : ∀ b : Nat, b ∈ G.2.2.1 → G.2.2.2.1 b = 11 → kb b = some z → rr_J X G nL Q σ (pc + 3) lv (.ref b :: rest)) : rr_J X G nL Q σ pc lv (.ref a :: rest) := by
  intro hT
  have ht := hT a ha 2 11 (by rw [hk]; rfl)
  exact rr_get C 5 2 inX7 rfl (by decide) (by decide) q_173 ha hk rfl hdg (k _ ht.1 ht.2 hm) hT
theorem gf_174 (C : rr_C X G cc nL "RootRows$Sequence" ret fr lo) {a : Nat} (ha : a ∈ G.2.2.1) (hk : G.2.2.2.1 a = 5) (hdg : decode cc pc = .ok (.getfield 56, 3)) (k : rr_J X G nL Q σ (pc + 3) lv (.int (mg_i σ a 3) :: rest)) : rr_J X G nL Q σ pc lv (.ref a :: rest) := rr_get C 5 3 inX7 rfl (by decide) (by decide) q_174 ha hk rfl hdg k
theorem pf_174 (C : rr_C X G cc nL "RootRows$Sequence" ret fr lo) {α : Type} {kb : rr_M → Option α} {z : α} {a : Nat} {v : Int32} (ha : a ∈ G.2.2.1) (hk : G.2.2.2.1 a = 5) (hdg : decode cc pc = .ok (.putfield 56, 3)) (hm : rr_lt (ms_i σ a 3 v) kb = some z) (k : ∀ σ1 : rr_M, kb σ1 = some z → rr_J X G nL Q σ1 (pc + 3) lv rest) : rr_J X G nL Q σ pc lv (.int v :: .ref a :: rest) := rr_put C 5 3 tyX7 tyX7_ok nmX7 inX7 rfl (by decide) (by decide) q_174 rfl rfl (fun _ => by simp [rr_fs]) ha hk (fs_5_3 σ a v) (fun b hb => rr_ce_e (rr_oI hb).symm rfl rfl) rr_T_i rfl rfl hdg (k _ hm)
theorem gf_175 (C : rr_C X G cc nL "RootRows$Levels" ret fr lo) {a : Nat} (ha : a ∈ G.2.2.1) (hk : G.2.2.2.1 a = 5) (hdg : decode cc pc = .ok (.getfield 93, 3)) (k : rr_J X G nL Q σ (pc + 3) lv (.int (mg_i σ a 3) :: rest)) : rr_J X G nL Q σ pc lv (.ref a :: rest) := rr_get C 5 3 inX7 rfl (by decide) (by decide) q_175 ha hk rfl hdg k
theorem pf_175 (C : rr_C X G cc nL "RootRows$Levels" ret fr lo) {α : Type} {kb : rr_M → Option α} {z : α} {a : Nat} {v : Int32} (ha : a ∈ G.2.2.1) (hk : G.2.2.2.1 a = 5) (hdg : decode cc pc = .ok (.putfield 93, 3)) (hm : rr_lt (ms_i σ a 3 v) kb = some z) (k : ∀ σ1 : rr_M, kb σ1 = some z → rr_J X G nL Q σ1 (pc + 3) lv rest) : rr_J X G nL Q σ pc lv (.int v :: .ref a :: rest) := rr_put C 5 3 tyX7 tyX7_ok nmX7 inX7 rfl (by decide) (by decide) q_175 rfl rfl (fun _ => by simp [rr_fs]) ha hk (fs_5_3 σ a v) (fun b hb => rr_ce_e (rr_oI hb).symm rfl rfl) rr_T_i rfl rfl hdg (k _ hm)
theorem gf_176 (C : rr_C X G cc nL "RootRows$Placer" ret fr lo) {a : Nat} (ha : a ∈ G.2.2.1) (hk : G.2.2.2.1 a = 5) (hdg : decode cc pc = .ok (.getfield 163, 3)) (k : rr_J X G nL Q σ (pc + 3) lv (.int (mg_i σ a 3) :: rest)) : rr_J X G nL Q σ pc lv (.ref a :: rest) := rr_get C 5 3 inX7 rfl (by decide) (by decide) q_176 ha hk rfl hdg k
theorem pf_176 (C : rr_C X G cc nL "RootRows$Placer" ret fr lo) {α : Type} {kb : rr_M → Option α} {z : α} {a : Nat} {v : Int32} (ha : a ∈ G.2.2.1) (hk : G.2.2.2.1 a = 5) (hdg : decode cc pc = .ok (.putfield 163, 3)) (hm : rr_lt (ms_i σ a 3 v) kb = some z) (k : ∀ σ1 : rr_M, kb σ1 = some z → rr_J X G nL Q σ1 (pc + 3) lv rest) : rr_J X G nL Q σ pc lv (.int v :: .ref a :: rest) := rr_put C 5 3 tyX7 tyX7_ok nmX7 inX7 rfl (by decide) (by decide) q_176 rfl rfl (fun _ => by simp [rr_fs]) ha hk (fs_5_3 σ a v) (fun b hb => rr_ce_e (rr_oI hb).symm rfl rfl) rr_T_i rfl rfl hdg (k _ hm)
theorem gf_177 (C : rr_C X G cc nL "RootRows$Sequence" ret fr lo) {α : Type} {kb : Nat → Option α} {z : α} {a : Nat} (ha : a ∈ G.2.2.1) (hk : G.2.2.2.1 a = 5) (hdg : decode cc pc = .ok (.getfield 24, 3)) (hm : rr_lt (mg_r σ a 4) kb = some z) (k : ∀ b : Nat, b ∈ G.2.2.1 → G.2.2.2.1 b = 14 → kb b = some z → rr_J X G nL Q σ (pc + 3) lv (.ref b :: rest)) : rr_J X G nL Q σ pc lv (.ref a :: rest) := by
  intro hT
  have ht := hT a ha 4 14 (by rw [hk]; rfl)
  exact rr_get C 5 4 inX7 rfl (by decide) (by decide) q_177 ha hk rfl hdg (k _ ht.1 ht.2 hm) hT
theorem gf_178 (C : rr_C X G cc nL "RootRows$Sequence" ret fr lo) {α : Type} {kb : Nat → Option α} {z : α} {a : Nat} (ha : a ∈ G.2.2.1) (hk : G.2.2.2.1 a = 5) (hdg : decode cc pc = .ok (.getfield 30, 3)) (hm : rr_lt (mg_r σ a 5) kb = some z) (k : ∀ b : Nat, b ∈ G.2.2.1 → G.2.2.2.1 b = 0 → kb b = some z → rr_J X G nL Q σ (pc + 3) lv (.ref b :: rest)) : rr_J X G nL Q σ pc lv (.ref a :: rest) := by
  intro hT
  have ht := hT a ha 5 0 (by rw [hk]; rfl)
  exact rr_get C 5 5 inX7 rfl (by decide) (by decide) q_178 ha hk rfl hdg (k _ ht.1 ht.2 hm) hT
theorem gf_179 (C : rr_C X G cc nL "RootRows$Sequence" ret fr lo) {α : Type} {kb : Nat → Option α} {z : α} {a : Nat} (ha : a ∈ G.2.2.1) (hk : G.2.2.2.1 a = 5) (hdg : decode cc pc = .ok (.getfield 34, 3)) (hm : rr_lt (mg_r σ a 6) kb = some z) (k : ∀ b : Nat, b ∈ G.2.2.1 → G.2.2.2.1 b = 0 → kb b = some z → rr_J X G nL Q σ (pc + 3) lv (.ref b :: rest)) : rr_J X G nL Q σ pc lv (.ref a :: rest) := by
  intro hT
  have ht := hT a ha 6 0 (by rw [hk]; rfl)
  exact rr_get C 5 6 inX7 rfl (by decide) (by decide) q_179 ha hk rfl hdg (k _ ht.1 ht.2 hm) hT
theorem gf_180 (C : rr_C X G cc nL "RootRows$Sequence" ret fr lo) {α : Type} {kb : Nat → Option α} {z : α} {a : Nat} (ha : a ∈ G.2.2.1) (hk : G.2.2.2.1 a = 5) (hdg : decode cc pc = .ok (.getfield 37, 3)) (hm : rr_lt (mg_r σ a 7) kb = some z) (k : ∀ b : Nat, b ∈ G.2.2.1 → G.2.2.2.1 b = 0 → kb b = some z → rr_J X G nL Q σ (pc + 3) lv (.ref b :: rest)) : rr_J X G nL Q σ pc lv (.ref a :: rest) := by
  intro hT
  have ht := hT a ha 7 0 (by rw [hk]; rfl)
  exact rr_get C 5 7 inX7 rfl (by decide) (by decide) q_180 ha hk rfl hdg (k _ ht.1 ht.2 hm) hT
theorem gf_181 (C : rr_C X G cc nL "RootRows$Sequence" ret fr lo) {α : Type} {kb : Nat → Option α} {z : α} {a : Nat} (ha : a ∈ G.2.2.1) (hk : G.2.2.2.1 a = 5) (hdg : decode cc pc = .ok (.getfield 40, 3)) (hm : rr_lt (mg_r σ a 8) kb = some z) (k : ∀ b : Nat, b ∈ G.2.2.1 → G.2.2.2.1 b = 0 → kb b = some z → rr_J X G nL Q σ (pc + 3) lv (.ref b :: rest)) : rr_J X G nL Q σ pc lv (.ref a :: rest) := by
  intro hT
  have ht := hT a ha 8 0 (by rw [hk]; rfl)
  exact rr_get C 5 8 inX7 rfl (by decide) (by decide) q_181 ha hk rfl hdg (k _ ht.1 ht.2 hm) hT
theorem gf_182 (C : rr_C X G cc nL "RootRows$Sequence" ret fr lo) {α : Type} {kb : Nat → Option α} {z : α} {a : Nat} (ha : a ∈ G.2.2.1) (hk : G.2.2.2.1 a = 5) (hdg : decode cc pc = .ok (.getfield 43, 3)) (hm : rr_lt (mg_r σ a 9) kb = some z) (k : ∀ b : Nat, b ∈ G.2.2.1 → G.2.2.2.1 b = 0 → kb b = some z → rr_J X G nL Q σ (pc + 3) lv (.ref b :: rest)) : rr_J X G nL Q σ pc lv (.ref a :: rest) := by
  intro hT
  have ht := hT a ha 9 0 (by rw [hk]; rfl)
  exact rr_get C 5 9 inX7 rfl (by decide) (by decide) q_182 ha hk rfl hdg (k _ ht.1 ht.2 hm) hT
theorem gf_183 (C : rr_C X G cc nL "RootRows$Sequence" ret fr lo) {α : Type} {kb : Nat → Option α} {z : α} {a : Nat} (ha : a ∈ G.2.2.1) (hk : G.2.2.2.1 a = 5) (hdg : decode cc pc = .ok (.getfield 46, 3)) (hm : rr_lt (mg_r σ a 10) kb = some z) (k : ∀ b : Nat, b ∈ G.2.2.1 → G.2.2.2.1 b = 0 → kb b = some z → rr_J X G nL Q σ (pc + 3) lv (.ref b :: rest)) : rr_J X G nL Q σ pc lv (.ref a :: rest) := by
  intro hT
  have ht := hT a ha 10 0 (by rw [hk]; rfl)
  exact rr_get C 5 10 inX7 rfl (by decide) (by decide) q_183 ha hk rfl hdg (k _ ht.1 ht.2 hm) hT
theorem gf_184 (C : rr_C X G cc nL "RootRows$Sequence" ret fr lo) {α : Type} {kb : Nat → Option α} {z : α} {a : Nat} (ha : a ∈ G.2.2.1) (hk : G.2.2.2.1 a = 5) (hdg : decode cc pc = .ok (.getfield 49, 3)) (hm : rr_lt (mg_r σ a 11) kb = some z) (k : ∀ b : Nat, b ∈ G.2.2.1 → G.2.2.2.1 b = 0 → kb b = some z → rr_J X G nL Q σ (pc + 3) lv (.ref b :: rest)) : rr_J X G nL Q σ pc lv (.ref a :: rest) := by
  intro hT
  have ht := hT a ha 11 0 (by rw [hk]; rfl)
  exact rr_get C 5 11 inX7 rfl (by decide) (by decide) q_184 ha hk rfl hdg (k _ ht.1 ht.2 hm) hT
theorem gf_218 (C : rr_C X G cc nL "RootRows$Point" ret fr lo) {α : Type} {kb : Nat → Option α} {z : α} {a : Nat} (ha : a ∈ G.2.2.1) (hk : G.2.2.2.1 a = 4) (hdg : decode cc pc = .ok (.getfield 16, 3)) (hm : rr_lt (mg_r σ a 0) kb = some z) (k : ∀ b : Nat, b ∈ G.2.2.1 → G.2.2.2.1 b = 0 → kb b = some z → rr_J X G nL Q σ (pc + 3) lv (.ref b :: rest)) : rr_J X G nL Q σ pc lv (.ref a :: rest) := by
  intro hT
  have ht := hT a ha 0 0 (by rw [hk]; rfl)
  exact rr_get C 4 0 inX5 rfl (by decide) (by decide) q_218 ha hk rfl hdg (k _ ht.1 ht.2 hm) hT
theorem gf_219 (C : rr_C X G cc nL "RootRows$Point" ret fr lo) {a : Nat} (ha : a ∈ G.2.2.1) (hk : G.2.2.2.1 a = 4) (hdg : decode cc pc = .ok (.getfield 57, 3)) (k : rr_J X G nL Q σ (pc + 3) lv (.int (mg_i σ a 1) :: rest)) : rr_J X G nL Q σ pc lv (.ref a :: rest) := rr_get C 4 1 inX5 rfl (by decide) (by decide) q_219 ha hk rfl hdg k
theorem pf_219 (C : rr_C X G cc nL "RootRows$Point" ret fr lo) {α : Type} {kb : rr_M → Option α} {z : α} {a : Nat} {v : Int32} (ha : a ∈ G.2.2.1) (hk : G.2.2.2.1 a = 4) (hdg : decode cc pc = .ok (.putfield 57, 3)) (hm : rr_lt (ms_i σ a 1 v) kb = some z) (k : ∀ σ1 : rr_M, kb σ1 = some z → rr_J X G nL Q σ1 (pc + 3) lv rest) : rr_J X G nL Q σ pc lv (.int v :: .ref a :: rest) := rr_put C 4 1 tyX5 tyX5_ok nmX5 inX5 rfl (by decide) (by decide) q_219 rfl rfl (fun _ => by simp [rr_fs]) ha hk (fs_4_1 σ a v) (fun b hb => rr_ce_e (rr_oI hb).symm rfl rfl) rr_T_i rfl rfl hdg (k _ hm)
theorem gf_220 (C : rr_C X G cc nL "RootRows$Point" ret fr lo) {α : Type} {kb : Nat → Option α} {z : α} {a : Nat} (ha : a ∈ G.2.2.1) (hk : G.2.2.2.1 a = 4) (hdg : decode cc pc = .ok (.getfield 20, 3)) (hm : rr_lt (mg_r σ a 2) kb = some z) (k : ∀ b : Nat, b ∈ G.2.2.1 → G.2.2.2.1 b = 14 → kb b = some z → rr_J X G nL Q σ (pc + 3) lv (.ref b :: rest)) : rr_J X G nL Q σ pc lv (.ref a :: rest) := by
  intro hT
  have ht := hT a ha 2 14 (by rw [hk]; rfl)
  exact rr_get C 4 2 inX5 rfl (by decide) (by decide) q_220 ha hk rfl hdg (k _ ht.1 ht.2 hm) hT
theorem gf_221 (C : rr_C X G cc nL "RootRows$Point" ret fr lo) {α : Type} {kb : Nat → Option α} {z : α} {a : Nat} (ha : a ∈ G.2.2.1) (hk : G.2.2.2.1 a = 4) (hdg : decode cc pc = .ok (.getfield 24, 3)) (hm : rr_lt (mg_r σ a 3) kb = some z) (k : ∀ b : Nat, b ∈ G.2.2.1 → G.2.2.2.1 b = 0 → kb b = some z → rr_J X G nL Q σ (pc + 3) lv (.ref b :: rest)) : rr_J X G nL Q σ pc lv (.ref a :: rest) := by
  intro hT
  have ht := hT a ha 3 0 (by rw [hk]; rfl)
  exact rr_get C 4 3 inX5 rfl (by decide) (by decide) q_221 ha hk rfl hdg (k _ ht.1 ht.2 hm) hT
theorem pf_221 (C : rr_C X G cc nL "RootRows$Point" ret fr lo) {α : Type} {kb : rr_M → Option α} {z : α} {a v : Nat} (ha : a ∈ G.2.2.1) (hk : G.2.2.2.1 a = 4) (hv : v ∈ G.2.2.1) (hkv : G.2.2.2.1 v = 0) (hdg : decode cc pc = .ok (.putfield 24, 3)) (hm : rr_lt (ms_r σ a 3 v) kb = some z) (k : ∀ σ1 : rr_M, kb σ1 = some z → rr_J X G nL Q σ1 (pc + 3) lv rest) : rr_J X G nL Q σ pc lv (.ref v :: .ref a :: rest) := rr_put C 4 3 tyX5 tyX5_ok nmX5 inX5 rfl (by decide) (by decide) q_221 rfl rfl (fun _ => by simp [rr_fs]) ha hk (fs_4_3 σ a v) (fun b hb => rr_ce_e rfl rfl (rr_oR hb).symm) (fun hT => rr_T_r hT (by rw [hk]; rfl) hv hkv) rfl rfl hdg (k _ hm)
theorem gf_222 (C : rr_C X G cc nL "RootRows$Point" ret fr lo) {α : Type} {kb : Nat → Option α} {z : α} {a : Nat} (ha : a ∈ G.2.2.1) (hk : G.2.2.2.1 a = 4) (hdg : decode cc pc = .ok (.getfield 27, 3)) (hm : rr_lt (mg_r σ a 4) kb = some z) (k : ∀ b : Nat, b ∈ G.2.2.1 → G.2.2.2.1 b = 0 → kb b = some z → rr_J X G nL Q σ (pc + 3) lv (.ref b :: rest)) : rr_J X G nL Q σ pc lv (.ref a :: rest) := by
  intro hT
  have ht := hT a ha 4 0 (by rw [hk]; rfl)
  exact rr_get C 4 4 inX5 rfl (by decide) (by decide) q_222 ha hk rfl hdg (k _ ht.1 ht.2 hm) hT
theorem pf_222 (C : rr_C X G cc nL "RootRows$Point" ret fr lo) {α : Type} {kb : rr_M → Option α} {z : α} {a v : Nat} (ha : a ∈ G.2.2.1) (hk : G.2.2.2.1 a = 4) (hv : v ∈ G.2.2.1) (hkv : G.2.2.2.1 v = 0) (hdg : decode cc pc = .ok (.putfield 27, 3)) (hm : rr_lt (ms_r σ a 4 v) kb = some z) (k : ∀ σ1 : rr_M, kb σ1 = some z → rr_J X G nL Q σ1 (pc + 3) lv rest) : rr_J X G nL Q σ pc lv (.ref v :: .ref a :: rest) := rr_put C 4 4 tyX5 tyX5_ok nmX5 inX5 rfl (by decide) (by decide) q_222 rfl rfl (fun _ => by simp [rr_fs]) ha hk (fs_4_4 σ a v) (fun b hb => rr_ce_e rfl rfl (rr_oR hb).symm) (fun hT => rr_T_r hT (by rw [hk]; rfl) hv hkv) rfl rfl hdg (k _ hm)
theorem gf_242 (C : rr_C X G cc nL "RootRows$Levels" ret fr lo) {α : Type} {kb : Nat → Option α} {z : α} {a : Nat} (ha : a ∈ G.2.2.1) (hk : G.2.2.2.1 a = 1) (hdg : decode cc pc = .ok (.getfield 11, 3)) (hm : rr_lt (mg_r σ a 0) kb = some z) (k : ∀ b : Nat, b ∈ G.2.2.1 → G.2.2.2.1 b = 16 → kb b = some z → rr_J X G nL Q σ (pc + 3) lv (.ref b :: rest)) : rr_J X G nL Q σ pc lv (.ref a :: rest) := by
  intro hT
  have ht := hT a ha 0 16 (by rw [hk]; rfl)
  exact rr_get C 1 0 inX1 rfl (by decide) (by decide) q_242 ha hk rfl hdg (k _ ht.1 ht.2 hm) hT
theorem gf_243 (C : rr_C X G cc nL "RootRows$Placer" ret fr lo) {α : Type} {kb : Nat → Option α} {z : α} {a : Nat} (ha : a ∈ G.2.2.1) (hk : G.2.2.2.1 a = 1) (hdg : decode cc pc = .ok (.getfield 134, 3)) (hm : rr_lt (mg_r σ a 0) kb = some z) (k : ∀ b : Nat, b ∈ G.2.2.1 → G.2.2.2.1 b = 16 → kb b = some z → rr_J X G nL Q σ (pc + 3) lv (.ref b :: rest)) : rr_J X G nL Q σ pc lv (.ref a :: rest) := by
  intro hT
  have ht := hT a ha 0 16 (by rw [hk]; rfl)
  exact rr_get C 1 0 inX1 rfl (by decide) (by decide) q_243 ha hk rfl hdg (k _ ht.1 ht.2 hm) hT
theorem gf_244 (C : rr_C X G cc nL "RootRows$Levels" ret fr lo) {α : Type} {kb : Nat → Option α} {z : α} {a : Nat} (ha : a ∈ G.2.2.1) (hk : G.2.2.2.1 a = 1) (hdg : decode cc pc = .ok (.getfield 16, 3)) (hm : rr_lt (mg_r σ a 1) kb = some z) (k : ∀ b : Nat, b ∈ G.2.2.1 → G.2.2.2.1 b = 11 → kb b = some z → rr_J X G nL Q σ (pc + 3) lv (.ref b :: rest)) : rr_J X G nL Q σ pc lv (.ref a :: rest) := by
  intro hT
  have ht := hT a ha 1 11 (by rw [hk]; rfl)
  exact rr_get C 1 1 inX1 rfl (by decide) (by decide) q_244 ha hk rfl hdg (k _ ht.1 ht.2 hm) hT
theorem gf_245 (C : rr_C X G cc nL "RootRows$Placer" ret fr lo) {α : Type} {kb : Nat → Option α} {z : α} {a : Nat} (ha : a ∈ G.2.2.1) (hk : G.2.2.2.1 a = 1) (hdg : decode cc pc = .ok (.getfield 184, 3)) (hm : rr_lt (mg_r σ a 1) kb = some z) (k : ∀ b : Nat, b ∈ G.2.2.1 → G.2.2.2.1 b = 11 → kb b = some z → rr_J X G nL Q σ (pc + 3) lv (.ref b :: rest)) : rr_J X G nL Q σ pc lv (.ref a :: rest) := by
  intro hT
  have ht := hT a ha 1 11 (by rw [hk]; rfl)
  exact rr_get C 1 1 inX1 rfl (by decide) (by decide) q_245 ha hk rfl hdg (k _ ht.1 ht.2 hm) hT
theorem gf_246 (C : rr_C X G cc nL "RootRows$Levels" ret fr lo) {a : Nat} (ha : a ∈ G.2.2.1) (hk : G.2.2.2.1 a = 1) (hdg : decode cc pc = .ok (.getfield 54, 3)) (k : rr_J X G nL Q σ (pc + 3) lv (.int (mg_i σ a 2) :: rest)) : rr_J X G nL Q σ pc lv (.ref a :: rest) := rr_get C 1 2 inX1 rfl (by decide) (by decide) q_246 ha hk rfl hdg k
theorem pf_246 (C : rr_C X G cc nL "RootRows$Levels" ret fr lo) {α : Type} {kb : rr_M → Option α} {z : α} {a : Nat} {v : Int32} (ha : a ∈ G.2.2.1) (hk : G.2.2.2.1 a = 1) (hdg : decode cc pc = .ok (.putfield 54, 3)) (hm : rr_lt (ms_i σ a 2 v) kb = some z) (k : ∀ σ1 : rr_M, kb σ1 = some z → rr_J X G nL Q σ1 (pc + 3) lv rest) : rr_J X G nL Q σ pc lv (.int v :: .ref a :: rest) := rr_put C 1 2 tyX1 tyX1_ok nmX1 inX1 rfl (by decide) (by decide) q_246 rfl rfl (fun _ => by simp [rr_fs]) ha hk (fs_1_2 σ a v) (fun b hb => rr_ce_e (rr_oI hb).symm rfl rfl) rr_T_i rfl rfl hdg (k _ hm)
theorem gf_247 (C : rr_C X G cc nL "RootRows$Placer" ret fr lo) {a : Nat} (ha : a ∈ G.2.2.1) (hk : G.2.2.2.1 a = 1) (hdg : decode cc pc = .ok (.getfield 131, 3)) (k : rr_J X G nL Q σ (pc + 3) lv (.int (mg_i σ a 2) :: rest)) : rr_J X G nL Q σ pc lv (.ref a :: rest) := rr_get C 1 2 inX1 rfl (by decide) (by decide) q_247 ha hk rfl hdg k
theorem pf_247 (C : rr_C X G cc nL "RootRows$Placer" ret fr lo) {α : Type} {kb : rr_M → Option α} {z : α} {a : Nat} {v : Int32} (ha : a ∈ G.2.2.1) (hk : G.2.2.2.1 a = 1) (hdg : decode cc pc = .ok (.putfield 131, 3)) (hm : rr_lt (ms_i σ a 2 v) kb = some z) (k : ∀ σ1 : rr_M, kb σ1 = some z → rr_J X G nL Q σ1 (pc + 3) lv rest) : rr_J X G nL Q σ pc lv (.int v :: .ref a :: rest) := rr_put C 1 2 tyX1 tyX1_ok nmX1 inX1 rfl (by decide) (by decide) q_247 rfl rfl (fun _ => by simp [rr_fs]) ha hk (fs_1_2 σ a v) (fun b hb => rr_ce_e (rr_oI hb).symm rfl rfl) rr_T_i rfl rfl hdg (k _ hm)
theorem gf_248 (C : rr_C X G cc nL "RootRows$Levels" ret fr lo) {α : Type} {kb : Nat → Option α} {z : α} {a : Nat} (ha : a ∈ G.2.2.1) (hk : G.2.2.2.1 a = 1) (hdg : decode cc pc = .ok (.getfield 24, 3)) (hm : rr_lt (mg_r σ a 3) kb = some z) (k : ∀ b : Nat, b ∈ G.2.2.1 → G.2.2.2.1 b = 5 → kb b = some z → rr_J X G nL Q σ (pc + 3) lv (.ref b :: rest)) : rr_J X G nL Q σ pc lv (.ref a :: rest) := by
  intro hT
  have ht := hT a ha 3 5 (by rw [hk]; rfl)
  exact rr_get C 1 3 inX1 rfl (by decide) (by decide) q_248 ha hk rfl hdg (k _ ht.1 ht.2 hm) hT
theorem gf_249 (C : rr_C X G cc nL "RootRows$Levels" ret fr lo) {α : Type} {kb : Nat → Option α} {z : α} {a : Nat} (ha : a ∈ G.2.2.1) (hk : G.2.2.2.1 a = 1) (hdg : decode cc pc = .ok (.getfield 20, 3)) (hm : rr_lt (mg_r σ a 4) kb = some z) (k : ∀ b : Nat, b ∈ G.2.2.1 → G.2.2.2.1 b = 12 → kb b = some z → rr_J X G nL Q σ (pc + 3) lv (.ref b :: rest)) : rr_J X G nL Q σ pc lv (.ref a :: rest) := by
  intro hT
  have ht := hT a ha 4 12 (by rw [hk]; rfl)
  exact rr_get C 1 4 inX1 rfl (by decide) (by decide) q_249 ha hk rfl hdg (k _ ht.1 ht.2 hm) hT
theorem gf_281 (C : rr_C X G cc nL "RootRows$Placer" ret fr lo) {α : Type} {kb : Nat → Option α} {z : α} {a : Nat} (ha : a ∈ G.2.2.1) (hk : G.2.2.2.1 a = 3) (hdg : decode cc pc = .ok (.getfield 48, 3)) (hm : rr_lt (mg_r σ a 0) kb = some z) (k : ∀ b : Nat, b ∈ G.2.2.1 → G.2.2.2.1 b = 1 → kb b = some z → rr_J X G nL Q σ (pc + 3) lv (.ref b :: rest)) : rr_J X G nL Q σ pc lv (.ref a :: rest) := by
  intro hT
  have ht := hT a ha 0 1 (by rw [hk]; rfl)
  exact rr_get C 3 0 inX4 rfl (by decide) (by decide) q_281 ha hk rfl hdg (k _ ht.1 ht.2 hm) hT
theorem gf_282 (C : rr_C X G cc nL "RootRows$Placer" ret fr lo) {α : Type} {kb : Nat → Option α} {z : α} {a : Nat} (ha : a ∈ G.2.2.1) (hk : G.2.2.2.1 a = 3) (hdg : decode cc pc = .ok (.getfield 52, 3)) (hm : rr_lt (mg_r σ a 1) kb = some z) (k : ∀ b : Nat, b ∈ G.2.2.1 → G.2.2.2.1 b = 5 → kb b = some z → rr_J X G nL Q σ (pc + 3) lv (.ref b :: rest)) : rr_J X G nL Q σ pc lv (.ref a :: rest) := by
  intro hT
  have ht := hT a ha 1 5 (by rw [hk]; rfl)
  exact rr_get C 3 1 inX4 rfl (by decide) (by decide) q_282 ha hk rfl hdg (k _ ht.1 ht.2 hm) hT
theorem gf_283 (C : rr_C X G cc nL "RootRows$Placer" ret fr lo) {α : Type} {kb : Nat → Option α} {z : α} {a : Nat} (ha : a ∈ G.2.2.1) (hk : G.2.2.2.1 a = 3) (hdg : decode cc pc = .ok (.getfield 56, 3)) (hm : rr_lt (mg_r σ a 2) kb = some z) (k : ∀ b : Nat, b ∈ G.2.2.1 → G.2.2.2.1 b = 4 → kb b = some z → rr_J X G nL Q σ (pc + 3) lv (.ref b :: rest)) : rr_J X G nL Q σ pc lv (.ref a :: rest) := by
  intro hT
  have ht := hT a ha 2 4 (by rw [hk]; rfl)
  exact rr_get C 3 2 inX4 rfl (by decide) (by decide) q_283 ha hk rfl hdg (k _ ht.1 ht.2 hm) hT
theorem gf_284 (C : rr_C X G cc nL "RootRows$Placer" ret fr lo) {α : Type} {kb : Nat → Option α} {z : α} {a : Nat} (ha : a ∈ G.2.2.1) (hk : G.2.2.2.1 a = 3) (hdg : decode cc pc = .ok (.getfield 11, 3)) (hm : rr_lt (mg_r σ a 3) kb = some z) (k : ∀ b : Nat, b ∈ G.2.2.1 → G.2.2.2.1 b = 16 → kb b = some z → rr_J X G nL Q σ (pc + 3) lv (.ref b :: rest)) : rr_J X G nL Q σ pc lv (.ref a :: rest) := by
  intro hT
  have ht := hT a ha 3 16 (by rw [hk]; rfl)
  exact rr_get C 3 3 inX4 rfl (by decide) (by decide) q_284 ha hk rfl hdg (k _ ht.1 ht.2 hm) hT
theorem gf_285 (C : rr_C X G cc nL "RootRows$Placer" ret fr lo) {α : Type} {kb : Nat → Option α} {z : α} {a : Nat} (ha : a ∈ G.2.2.1) (hk : G.2.2.2.1 a = 3) (hdg : decode cc pc = .ok (.getfield 16, 3)) (hm : rr_lt (mg_r σ a 4) kb = some z) (k : ∀ b : Nat, b ∈ G.2.2.1 → G.2.2.2.1 b = 12 → kb b = some z → rr_J X G nL Q σ (pc + 3) lv (.ref b :: rest)) : rr_J X G nL Q σ pc lv (.ref a :: rest) := by
  intro hT
  have ht := hT a ha 4 12 (by rw [hk]; rfl)
  exact rr_get C 3 4 inX4 rfl (by decide) (by decide) q_285 ha hk rfl hdg (k _ ht.1 ht.2 hm) hT
theorem gf_286 (C : rr_C X G cc nL "RootRows$Placer" ret fr lo) {a : Nat} (ha : a ∈ G.2.2.1) (hk : G.2.2.2.1 a = 3) (hdg : decode cc pc = .ok (.getfield 80, 3)) (k : rr_J X G nL Q σ (pc + 3) lv (.int (mg_i σ a 5) :: rest)) : rr_J X G nL Q σ pc lv (.ref a :: rest) := rr_get C 3 5 inX4 rfl (by decide) (by decide) q_286 ha hk rfl hdg k
theorem pf_286 (C : rr_C X G cc nL "RootRows$Placer" ret fr lo) {α : Type} {kb : rr_M → Option α} {z : α} {a : Nat} {v : Int32} (ha : a ∈ G.2.2.1) (hk : G.2.2.2.1 a = 3) (hdg : decode cc pc = .ok (.putfield 80, 3)) (hm : rr_lt (ms_i σ a 5 v) kb = some z) (k : ∀ σ1 : rr_M, kb σ1 = some z → rr_J X G nL Q σ1 (pc + 3) lv rest) : rr_J X G nL Q σ pc lv (.int v :: .ref a :: rest) := rr_put C 3 5 tyX4 tyX4_ok nmX4 inX4 rfl (by decide) (by decide) q_286 rfl rfl (fun _ => by simp [rr_fs]) ha hk (fs_3_5 σ a v) (fun b hb => rr_ce_e (rr_oI hb).symm rfl rfl) rr_T_i rfl rfl hdg (k _ hm)
theorem gf_287 (C : rr_C X G cc nL "RootRows$Placer" ret fr lo) {a : Nat} (ha : a ∈ G.2.2.1) (hk : G.2.2.2.1 a = 3) (hdg : decode cc pc = .ok (.getfield 161, 3)) (k : rr_J X G nL Q σ (pc + 3) lv (.int (mg_i σ a 6) :: rest)) : rr_J X G nL Q σ pc lv (.ref a :: rest) := rr_get C 3 6 inX4 rfl (by decide) (by decide) q_287 ha hk rfl hdg k
theorem pf_287 (C : rr_C X G cc nL "RootRows$Placer" ret fr lo) {α : Type} {kb : rr_M → Option α} {z : α} {a : Nat} {v : Int32} (ha : a ∈ G.2.2.1) (hk : G.2.2.2.1 a = 3) (hdg : decode cc pc = .ok (.putfield 161, 3)) (hm : rr_lt (ms_i σ a 6 v) kb = some z) (k : ∀ σ1 : rr_M, kb σ1 = some z → rr_J X G nL Q σ1 (pc + 3) lv rest) : rr_J X G nL Q σ pc lv (.int v :: .ref a :: rest) := rr_put C 3 6 tyX4 tyX4_ok nmX4 inX4 rfl (by decide) (by decide) q_287 rfl rfl (fun _ => by simp [rr_fs]) ha hk (fs_3_6 σ a v) (fun b hb => rr_ce_e (rr_oI hb).symm rfl rfl) rr_T_i rfl rfl hdg (k _ hm)
theorem gf_288 (C : rr_C X G cc nL "RootRows$Placer" ret fr lo) {α : Type} {kb : Nat → Option α} {z : α} {a : Nat} (ha : a ∈ G.2.2.1) (hk : G.2.2.2.1 a = 3) (hdg : decode cc pc = .ok (.getfield 20, 3)) (hm : rr_lt (mg_r σ a 7) kb = some z) (k : ∀ b : Nat, b ∈ G.2.2.1 → G.2.2.2.1 b = 12 → kb b = some z → rr_J X G nL Q σ (pc + 3) lv (.ref b :: rest)) : rr_J X G nL Q σ pc lv (.ref a :: rest) := by
  intro hT
  have ht := hT a ha 7 12 (by rw [hk]; rfl)
  exact rr_get C 3 7 inX4 rfl (by decide) (by decide) q_288 ha hk rfl hdg (k _ ht.1 ht.2 hm) hT
theorem gf_289 (C : rr_C X G cc nL "RootRows$Placer" ret fr lo) {α : Type} {kb : Nat → Option α} {z : α} {a : Nat} (ha : a ∈ G.2.2.1) (hk : G.2.2.2.1 a = 3) (hdg : decode cc pc = .ok (.getfield 23, 3)) (hm : rr_lt (mg_r σ a 8) kb = some z) (k : ∀ b : Nat, b ∈ G.2.2.1 → G.2.2.2.1 b = 12 → kb b = some z → rr_J X G nL Q σ (pc + 3) lv (.ref b :: rest)) : rr_J X G nL Q σ pc lv (.ref a :: rest) := by
  intro hT
  have ht := hT a ha 8 12 (by rw [hk]; rfl)
  exact rr_get C 3 8 inX4 rfl (by decide) (by decide) q_289 ha hk rfl hdg (k _ ht.1 ht.2 hm) hT
theorem gf_290 (C : rr_C X G cc nL "RootRows$Placer" ret fr lo) {α : Type} {kb : Nat → Option α} {z : α} {a : Nat} (ha : a ∈ G.2.2.1) (hk : G.2.2.2.1 a = 3) (hdg : decode cc pc = .ok (.getfield 26, 3)) (hm : rr_lt (mg_r σ a 9) kb = some z) (k : ∀ b : Nat, b ∈ G.2.2.1 → G.2.2.2.1 b = 11 → kb b = some z → rr_J X G nL Q σ (pc + 3) lv (.ref b :: rest)) : rr_J X G nL Q σ pc lv (.ref a :: rest) := by
  intro hT
  have ht := hT a ha 9 11 (by rw [hk]; rfl)
  exact rr_get C 3 9 inX4 rfl (by decide) (by decide) q_290 ha hk rfl hdg (k _ ht.1 ht.2 hm) hT
theorem gf_291 (C : rr_C X G cc nL "RootRows$Placer" ret fr lo) {α : Type} {kb : Nat → Option α} {z : α} {a : Nat} (ha : a ∈ G.2.2.1) (hk : G.2.2.2.1 a = 3) (hdg : decode cc pc = .ok (.getfield 30, 3)) (hm : rr_lt (mg_r σ a 10) kb = some z) (k : ∀ b : Nat, b ∈ G.2.2.1 → G.2.2.2.1 b = 11 → kb b = some z → rr_J X G nL Q σ (pc + 3) lv (.ref b :: rest)) : rr_J X G nL Q σ pc lv (.ref a :: rest) := by
  intro hT
  have ht := hT a ha 10 11 (by rw [hk]; rfl)
  exact rr_get C 3 10 inX4 rfl (by decide) (by decide) q_291 ha hk rfl hdg (k _ ht.1 ht.2 hm) hT
theorem gf_292 (C : rr_C X G cc nL "RootRows$Placer" ret fr lo) {α : Type} {kb : Nat → Option α} {z : α} {a : Nat} (ha : a ∈ G.2.2.1) (hk : G.2.2.2.1 a = 3) (hdg : decode cc pc = .ok (.getfield 38, 3)) (hm : rr_lt (mg_r σ a 11) kb = some z) (k : ∀ b : Nat, b ∈ G.2.2.1 → G.2.2.2.1 b = 0 → kb b = some z → rr_J X G nL Q σ (pc + 3) lv (.ref b :: rest)) : rr_J X G nL Q σ pc lv (.ref a :: rest) := by
  intro hT
  have ht := hT a ha 11 0 (by rw [hk]; rfl)
  exact rr_get C 3 11 inX4 rfl (by decide) (by decide) q_292 ha hk rfl hdg (k _ ht.1 ht.2 hm) hT
theorem gf_293 (C : rr_C X G cc nL "RootRows$Placer" ret fr lo) {α : Type} {kb : Nat → Option α} {z : α} {a : Nat} (ha : a ∈ G.2.2.1) (hk : G.2.2.2.1 a = 3) (hdg : decode cc pc = .ok (.getfield 42, 3)) (hm : rr_lt (mg_r σ a 12) kb = some z) (k : ∀ b : Nat, b ∈ G.2.2.1 → G.2.2.2.1 b = 0 → kb b = some z → rr_J X G nL Q σ (pc + 3) lv (.ref b :: rest)) : rr_J X G nL Q σ pc lv (.ref a :: rest) := by
  intro hT
  have ht := hT a ha 12 0 (by rw [hk]; rfl)
  exact rr_get C 3 12 inX4 rfl (by decide) (by decide) q_293 ha hk rfl hdg (k _ ht.1 ht.2 hm) hT
theorem gf_294 (C : rr_C X G cc nL "RootRows$Placer" ret fr lo) {α : Type} {kb : Nat → Option α} {z : α} {a : Nat} (ha : a ∈ G.2.2.1) (hk : G.2.2.2.1 a = 3) (hdg : decode cc pc = .ok (.getfield 45, 3)) (hm : rr_lt (mg_r σ a 13) kb = some z) (k : ∀ b : Nat, b ∈ G.2.2.1 → G.2.2.2.1 b = 0 → kb b = some z → rr_J X G nL Q σ (pc + 3) lv (.ref b :: rest)) : rr_J X G nL Q σ pc lv (.ref a :: rest) := by
  intro hT
  have ht := hT a ha 13 0 (by rw [hk]; rfl)
  exact rr_get C 3 13 inX4 rfl (by decide) (by decide) q_294 ha hk rfl hdg (k _ ht.1 ht.2 hm) hT
theorem gf_295 (C : rr_C X G cc nL "RootRows$Placer" ret fr lo) {a : Nat} (ha : a ∈ G.2.2.1) (hk : G.2.2.2.1 a = 3) (hdg : decode cc pc = .ok (.getfield 191, 3)) (k : rr_J X G nL Q σ (pc + 3) lv (.int (mg_i σ a 14) :: rest)) : rr_J X G nL Q σ pc lv (.ref a :: rest) := rr_get C 3 14 inX4 rfl (by decide) (by decide) q_295 ha hk rfl hdg k
theorem pf_295 (C : rr_C X G cc nL "RootRows$Placer" ret fr lo) {α : Type} {kb : rr_M → Option α} {z : α} {a : Nat} {v : Int32} (ha : a ∈ G.2.2.1) (hk : G.2.2.2.1 a = 3) (hdg : decode cc pc = .ok (.putfield 191, 3)) (hm : rr_lt (ms_i σ a 14 v) kb = some z) (k : ∀ σ1 : rr_M, kb σ1 = some z → rr_J X G nL Q σ1 (pc + 3) lv rest) : rr_J X G nL Q σ pc lv (.int v :: .ref a :: rest) := rr_put C 3 14 tyX4 tyX4_ok nmX4 inX4 rfl (by decide) (by decide) q_295 rfl rfl (fun _ => by simp [rr_fs]) ha hk (fs_3_14 σ a v) (fun b hb => rr_ce_e (rr_oI hb).symm rfl rfl) rr_T_i rfl rfl hdg (k _ hm)
theorem gf_327 (C : rr_C X G cc nL "RootRows" ret fr lo) {α : Type} {kb : Nat → Option α} {z : α} {a : Nat} (ha : a ∈ G.2.2.1) (hk : G.2.2.2.1 a = 8) (hdg : decode cc pc = .ok (.getfield 11, 3)) (hm : rr_lt (mg_r σ a 0) kb = some z) (k : ∀ b : Nat, b ∈ G.2.2.1 → G.2.2.2.1 b = 15 → kb b = some z → rr_J X G nL Q σ (pc + 3) lv (.ref b :: rest)) : rr_J X G nL Q σ pc lv (.ref a :: rest) := by
  intro hT
  have ht := hT a ha 0 15 (by rw [hk]; rfl)
  exact rr_get C 8 0 inX10 rfl (by decide) (by decide) q_327 ha hk rfl hdg (k _ ht.1 ht.2 hm) hT
theorem gf_328 (C : rr_C X G cc nL "RootRows" ret fr lo) {α : Type} {kb : Nat → Option α} {z : α} {a : Nat} (ha : a ∈ G.2.2.1) (hk : G.2.2.2.1 a = 8) (hdg : decode cc pc = .ok (.getfield 19, 3)) (hm : rr_lt (mg_r σ a 1) kb = some z) (k : ∀ b : Nat, b ∈ G.2.2.1 → G.2.2.2.1 b = 6 → kb b = some z → rr_J X G nL Q σ (pc + 3) lv (.ref b :: rest)) : rr_J X G nL Q σ pc lv (.ref a :: rest) := by
  intro hT
  have ht := hT a ha 1 6 (by rw [hk]; rfl)
  exact rr_get C 8 1 inX10 rfl (by decide) (by decide) q_328 ha hk rfl hdg (k _ ht.1 ht.2 hm) hT
theorem gf_329 (C : rr_C X G cc nL "RootRows" ret fr lo) {α : Type} {kb : Nat → Option α} {z : α} {a : Nat} (ha : a ∈ G.2.2.1) (hk : G.2.2.2.1 a = 8) (hdg : decode cc pc = .ok (.getfield 26, 3)) (hm : rr_lt (mg_r σ a 2) kb = some z) (k : ∀ b : Nat, b ∈ G.2.2.1 → G.2.2.2.1 b = 2 → kb b = some z → rr_J X G nL Q σ (pc + 3) lv (.ref b :: rest)) : rr_J X G nL Q σ pc lv (.ref a :: rest) := by
  intro hT
  have ht := hT a ha 2 2 (by rw [hk]; rfl)
  exact rr_get C 8 2 inX10 rfl (by decide) (by decide) q_329 ha hk rfl hdg (k _ ht.1 ht.2 hm) hT
theorem gf_330 (C : rr_C X G cc nL "RootRows" ret fr lo) {α : Type} {kb : Nat → Option α} {z : α} {a : Nat} (ha : a ∈ G.2.2.1) (hk : G.2.2.2.1 a = 8) (hdg : decode cc pc = .ok (.getfield 49, 3)) (hm : rr_lt (mg_r σ a 3) kb = some z) (k : ∀ b : Nat, b ∈ G.2.2.1 → G.2.2.2.1 b = 1 → kb b = some z → rr_J X G nL Q σ (pc + 3) lv (.ref b :: rest)) : rr_J X G nL Q σ pc lv (.ref a :: rest) := by
  intro hT
  have ht := hT a ha 3 1 (by rw [hk]; rfl)
  exact rr_get C 8 3 inX10 rfl (by decide) (by decide) q_330 ha hk rfl hdg (k _ ht.1 ht.2 hm) hT
theorem gf_331 (C : rr_C X G cc nL "RootRows" ret fr lo) {α : Type} {kb : Nat → Option α} {z : α} {a : Nat} (ha : a ∈ G.2.2.1) (hk : G.2.2.2.1 a = 8) (hdg : decode cc pc = .ok (.getfield 58, 3)) (hm : rr_lt (mg_r σ a 4) kb = some z) (k : ∀ b : Nat, b ∈ G.2.2.1 → G.2.2.2.1 b = 3 → kb b = some z → rr_J X G nL Q σ (pc + 3) lv (.ref b :: rest)) : rr_J X G nL Q σ pc lv (.ref a :: rest) := by
  intro hT
  have ht := hT a ha 4 3 (by rw [hk]; rfl)
  exact rr_get C 8 4 inX10 rfl (by decide) (by decide) q_331 ha hk rfl hdg (k _ ht.1 ht.2 hm) hT
theorem gf_332 (C : rr_C X G cc nL "RootRows" ret fr lo) {α : Type} {kb : Nat → Option α} {z : α} {a : Nat} (ha : a ∈ G.2.2.1) (hk : G.2.2.2.1 a = 8) (hdg : decode cc pc = .ok (.getfield 33, 3)) (hm : rr_lt (mg_r σ a 5) kb = some z) (k : ∀ b : Nat, b ∈ G.2.2.1 → G.2.2.2.1 b = 5 → kb b = some z → rr_J X G nL Q σ (pc + 3) lv (.ref b :: rest)) : rr_J X G nL Q σ pc lv (.ref a :: rest) := by
  intro hT
  have ht := hT a ha 5 5 (by rw [hk]; rfl)
  exact rr_get C 8 5 inX10 rfl (by decide) (by decide) q_332 ha hk rfl hdg (k _ ht.1 ht.2 hm) hT
theorem gf_333 (C : rr_C X G cc nL "RootRows" ret fr lo) {α : Type} {kb : Nat → Option α} {z : α} {a : Nat} (ha : a ∈ G.2.2.1) (hk : G.2.2.2.1 a = 8) (hdg : decode cc pc = .ok (.getfield 40, 3)) (hm : rr_lt (mg_r σ a 6) kb = some z) (k : ∀ b : Nat, b ∈ G.2.2.1 → G.2.2.2.1 b = 4 → kb b = some z → rr_J X G nL Q σ (pc + 3) lv (.ref b :: rest)) : rr_J X G nL Q σ pc lv (.ref a :: rest) := by
  intro hT
  have ht := hT a ha 6 4 (by rw [hk]; rfl)
  exact rr_get C 8 6 inX10 rfl (by decide) (by decide) q_333 ha hk rfl hdg (k _ ht.1 ht.2 hm) hT
theorem gf_841 (C : rr_C X G cc nL "RootRowsModel" ret fr lo) {a : Nat} (ha : a ∈ G.2.2.1) (hk : G.2.2.2.1 a = 9) (hdg : decode cc pc = .ok (.getfield 49, 3)) (k : rr_J X G nL Q σ (pc + 3) lv (.int (mg_i σ a 0) :: rest)) : rr_J X G nL Q σ pc lv (.ref a :: rest) := rr_get C 9 0 inX11 rfl (by decide) (by decide) q_841 ha hk rfl hdg k
theorem pf_841 (C : rr_C X G cc nL "RootRowsModel" ret fr lo) {α : Type} {kb : rr_M → Option α} {z : α} {a : Nat} {v : Int32} (ha : a ∈ G.2.2.1) (hk : G.2.2.2.1 a = 9) (hdg : decode cc pc = .ok (.putfield 49, 3)) (hm : rr_lt (ms_i σ a 0 v) kb = some z) (k : ∀ σ1 : rr_M, kb σ1 = some z → rr_J X G nL Q σ1 (pc + 3) lv rest) : rr_J X G nL Q σ pc lv (.int v :: .ref a :: rest) := rr_put C 9 0 tyX11 tyX11_ok nmX11 inX11 rfl (by decide) (by decide) q_841 rfl rfl (fun _ => by simp [rr_fs]) ha hk (fs_9_0 σ a v) (fun b hb => rr_ce_e (rr_oI hb).symm rfl rfl) rr_T_i rfl rfl hdg (k _ hm)
theorem gf_842 (C : rr_C X G cc nL "RootRowsModel" ret fr lo) {α : Type} {kb : Nat → Option α} {z : α} {a : Nat} (ha : a ∈ G.2.2.1) (hk : G.2.2.2.1 a = 9) (hdg : decode cc pc = .ok (.getfield 8, 3)) (hm : rr_lt (mg_r σ a 1) kb = some z) (k : ∀ b : Nat, b ∈ G.2.2.1 → G.2.2.2.1 b = 11 → kb b = some z → rr_J X G nL Q σ (pc + 3) lv (.ref b :: rest)) : rr_J X G nL Q σ pc lv (.ref a :: rest) := by
  intro hT
  have ht := hT a ha 1 11 (by rw [hk]; rfl)
  exact rr_get C 9 1 inX11 rfl (by decide) (by decide) q_842 ha hk rfl hdg (k _ ht.1 ht.2 hm) hT
theorem gf_843 (C : rr_C X G cc nL "RootRowsModel" ret fr lo) {α : Type} {kb : Nat → Option α} {z : α} {a : Nat} (ha : a ∈ G.2.2.1) (hk : G.2.2.2.1 a = 9) (hdg : decode cc pc = .ok (.getfield 14, 3)) (hm : rr_lt (mg_r σ a 2) kb = some z) (k : ∀ b : Nat, b ∈ G.2.2.1 → G.2.2.2.1 b = 11 → kb b = some z → rr_J X G nL Q σ (pc + 3) lv (.ref b :: rest)) : rr_J X G nL Q σ pc lv (.ref a :: rest) := by
  intro hT
  have ht := hT a ha 2 11 (by rw [hk]; rfl)
  exact rr_get C 9 2 inX11 rfl (by decide) (by decide) q_843 ha hk rfl hdg (k _ ht.1 ht.2 hm) hT
theorem gf_844 (C : rr_C X G cc nL "RootRowsModel" ret fr lo) {α : Type} {kb : Nat → Option α} {z : α} {a : Nat} (ha : a ∈ G.2.2.1) (hk : G.2.2.2.1 a = 9) (hdg : decode cc pc = .ok (.getfield 17, 3)) (hm : rr_lt (mg_r σ a 3) kb = some z) (k : ∀ b : Nat, b ∈ G.2.2.1 → G.2.2.2.1 b = 11 → kb b = some z → rr_J X G nL Q σ (pc + 3) lv (.ref b :: rest)) : rr_J X G nL Q σ pc lv (.ref a :: rest) := by
  intro hT
  have ht := hT a ha 3 11 (by rw [hk]; rfl)
  exact rr_get C 9 3 inX11 rfl (by decide) (by decide) q_844 ha hk rfl hdg (k _ ht.1 ht.2 hm) hT
theorem gf_845 (C : rr_C X G cc nL "RootRowsModel" ret fr lo) {α : Type} {kb : Nat → Option α} {z : α} {a : Nat} (ha : a ∈ G.2.2.1) (hk : G.2.2.2.1 a = 9) (hdg : decode cc pc = .ok (.getfield 20, 3)) (hm : rr_lt (mg_r σ a 4) kb = some z) (k : ∀ b : Nat, b ∈ G.2.2.1 → G.2.2.2.1 b = 12 → kb b = some z → rr_J X G nL Q σ (pc + 3) lv (.ref b :: rest)) : rr_J X G nL Q σ pc lv (.ref a :: rest) := by
  intro hT
  have ht := hT a ha 4 12 (by rw [hk]; rfl)
  exact rr_get C 9 4 inX11 rfl (by decide) (by decide) q_845 ha hk rfl hdg (k _ ht.1 ht.2 hm) hT
theorem gf_846 (C : rr_C X G cc nL "RootRowsModel" ret fr lo) {α : Type} {kb : Nat → Option α} {z : α} {a : Nat} (ha : a ∈ G.2.2.1) (hk : G.2.2.2.1 a = 9) (hdg : decode cc pc = .ok (.getfield 24, 3)) (hm : rr_lt (mg_r σ a 5) kb = some z) (k : ∀ b : Nat, b ∈ G.2.2.1 → G.2.2.2.1 b = 12 → kb b = some z → rr_J X G nL Q σ (pc + 3) lv (.ref b :: rest)) : rr_J X G nL Q σ pc lv (.ref a :: rest) := by
  intro hT
  have ht := hT a ha 5 12 (by rw [hk]; rfl)
  exact rr_get C 9 5 inX11 rfl (by decide) (by decide) q_846 ha hk rfl hdg (k _ ht.1 ht.2 hm) hT
theorem gf_847 (C : rr_C X G cc nL "RootRowsModel" ret fr lo) {α : Type} {kb : Nat → Option α} {z : α} {a : Nat} (ha : a ∈ G.2.2.1) (hk : G.2.2.2.1 a = 9) (hdg : decode cc pc = .ok (.getfield 27, 3)) (hm : rr_lt (mg_r σ a 6) kb = some z) (k : ∀ b : Nat, b ∈ G.2.2.1 → G.2.2.2.1 b = 11 → kb b = some z → rr_J X G nL Q σ (pc + 3) lv (.ref b :: rest)) : rr_J X G nL Q σ pc lv (.ref a :: rest) := by
  intro hT
  have ht := hT a ha 6 11 (by rw [hk]; rfl)
  exact rr_get C 9 6 inX11 rfl (by decide) (by decide) q_847 ha hk rfl hdg (k _ ht.1 ht.2 hm) hT
theorem gf_848 (C : rr_C X G cc nL "RootRowsModel" ret fr lo) {α : Type} {kb : Nat → Option α} {z : α} {a : Nat} (ha : a ∈ G.2.2.1) (hk : G.2.2.2.1 a = 9) (hdg : decode cc pc = .ok (.getfield 30, 3)) (hm : rr_lt (mg_r σ a 7) kb = some z) (k : ∀ b : Nat, b ∈ G.2.2.1 → G.2.2.2.1 b = 11 → kb b = some z → rr_J X G nL Q σ (pc + 3) lv (.ref b :: rest)) : rr_J X G nL Q σ pc lv (.ref a :: rest) := by
  intro hT
  have ht := hT a ha 7 11 (by rw [hk]; rfl)
  exact rr_get C 9 7 inX11 rfl (by decide) (by decide) q_848 ha hk rfl hdg (k _ ht.1 ht.2 hm) hT
theorem gf_849 (C : rr_C X G cc nL "RootRowsModel" ret fr lo) {α : Type} {kb : Nat → Option α} {z : α} {a : Nat} (ha : a ∈ G.2.2.1) (hk : G.2.2.2.1 a = 9) (hdg : decode cc pc = .ok (.getfield 33, 3)) (hm : rr_lt (mg_r σ a 8) kb = some z) (k : ∀ b : Nat, b ∈ G.2.2.1 → G.2.2.2.1 b = 12 → kb b = some z → rr_J X G nL Q σ (pc + 3) lv (.ref b :: rest)) : rr_J X G nL Q σ pc lv (.ref a :: rest) := by
  intro hT
  have ht := hT a ha 8 12 (by rw [hk]; rfl)
  exact rr_get C 9 8 inX11 rfl (by decide) (by decide) q_849 ha hk rfl hdg (k _ ht.1 ht.2 hm) hT
theorem gf_850 (C : rr_C X G cc nL "RootRowsModel" ret fr lo) {α : Type} {kb : Nat → Option α} {z : α} {a : Nat} (ha : a ∈ G.2.2.1) (hk : G.2.2.2.1 a = 9) (hdg : decode cc pc = .ok (.getfield 36, 3)) (hm : rr_lt (mg_r σ a 9) kb = some z) (k : ∀ b : Nat, b ∈ G.2.2.1 → G.2.2.2.1 b = 11 → kb b = some z → rr_J X G nL Q σ (pc + 3) lv (.ref b :: rest)) : rr_J X G nL Q σ pc lv (.ref a :: rest) := by
  intro hT
  have ht := hT a ha 9 11 (by rw [hk]; rfl)
  exact rr_get C 9 9 inX11 rfl (by decide) (by decide) q_850 ha hk rfl hdg (k _ ht.1 ht.2 hm) hT
theorem gf_851 (C : rr_C X G cc nL "RootRowsModel" ret fr lo) {α : Type} {kb : Nat → Option α} {z : α} {a : Nat} (ha : a ∈ G.2.2.1) (hk : G.2.2.2.1 a = 9) (hdg : decode cc pc = .ok (.getfield 39, 3)) (hm : rr_lt (mg_r σ a 10) kb = some z) (k : ∀ b : Nat, b ∈ G.2.2.1 → G.2.2.2.1 b = 11 → kb b = some z → rr_J X G nL Q σ (pc + 3) lv (.ref b :: rest)) : rr_J X G nL Q σ pc lv (.ref a :: rest) := by
  intro hT
  have ht := hT a ha 10 11 (by rw [hk]; rfl)
  exact rr_get C 9 10 inX11 rfl (by decide) (by decide) q_851 ha hk rfl hdg (k _ ht.1 ht.2 hm) hT
theorem gf_852 (C : rr_C X G cc nL "RootRowsModel" ret fr lo) {a : Nat} (ha : a ∈ G.2.2.1) (hk : G.2.2.2.1 a = 9) (hdg : decode cc pc = .ok (.getfield 134, 3)) (k : rr_J X G nL Q σ (pc + 3) lv (.int (mg_i σ a 11) :: rest)) : rr_J X G nL Q σ pc lv (.ref a :: rest) := rr_get C 9 11 inX11 rfl (by decide) (by decide) q_852 ha hk rfl hdg k
theorem pf_852 (C : rr_C X G cc nL "RootRowsModel" ret fr lo) {α : Type} {kb : rr_M → Option α} {z : α} {a : Nat} {v : Int32} (ha : a ∈ G.2.2.1) (hk : G.2.2.2.1 a = 9) (hdg : decode cc pc = .ok (.putfield 134, 3)) (hm : rr_lt (ms_i σ a 11 v) kb = some z) (k : ∀ σ1 : rr_M, kb σ1 = some z → rr_J X G nL Q σ1 (pc + 3) lv rest) : rr_J X G nL Q σ pc lv (.int v :: .ref a :: rest) := rr_put C 9 11 tyX11 tyX11_ok nmX11 inX11 rfl (by decide) (by decide) q_852 rfl rfl (fun _ => by simp [rr_fs]) ha hk (fs_9_11 σ a v) (fun b hb => rr_ce_e (rr_oI hb).symm rfl rfl) rr_T_i rfl rfl hdg (k _ hm)
theorem gf_853 (C : rr_C X G cc nL "RootRowsModel" ret fr lo) {α : Type} {kb : Nat → Option α} {z : α} {a : Nat} (ha : a ∈ G.2.2.1) (hk : G.2.2.2.1 a = 9) (hdg : decode cc pc = .ok (.getfield 42, 3)) (hm : rr_lt (mg_r σ a 12) kb = some z) (k : ∀ b : Nat, b ∈ G.2.2.1 → G.2.2.2.1 b = 12 → kb b = some z → rr_J X G nL Q σ (pc + 3) lv (.ref b :: rest)) : rr_J X G nL Q σ pc lv (.ref a :: rest) := by
  intro hT
  have ht := hT a ha 12 12 (by rw [hk]; rfl)
  exact rr_get C 9 12 inX11 rfl (by decide) (by decide) q_853 ha hk rfl hdg (k _ ht.1 ht.2 hm) hT
theorem gf_854 (C : rr_C X G cc nL "RootRowsModel" ret fr lo) {α : Type} {kb : Nat → Option α} {z : α} {a : Nat} (ha : a ∈ G.2.2.1) (hk : G.2.2.2.1 a = 9) (hdg : decode cc pc = .ok (.getfield 45, 3)) (hm : rr_lt (mg_r σ a 13) kb = some z) (k : ∀ b : Nat, b ∈ G.2.2.1 → G.2.2.2.1 b = 10 → kb b = some z → rr_J X G nL Q σ (pc + 3) lv (.ref b :: rest)) : rr_J X G nL Q σ pc lv (.ref a :: rest) := by
  intro hT
  have ht := hT a ha 13 10 (by rw [hk]; rfl)
  exact rr_get C 9 13 inX11 rfl (by decide) (by decide) q_854 ha hk rfl hdg (k _ ht.1 ht.2 hm) hT
theorem gf_855 (C : rr_C X G cc nL "RootRowsModel" ret fr lo) {a : Nat} (ha : a ∈ G.2.2.1) (hk : G.2.2.2.1 a = 9) (hdg : decode cc pc = .ok (.getfield 175, 3)) (k : rr_J X G nL Q σ (pc + 3) lv (.int (mg_i σ a 14) :: rest)) : rr_J X G nL Q σ pc lv (.ref a :: rest) := rr_get C 9 14 inX11 rfl (by decide) (by decide) q_855 ha hk rfl hdg k
theorem pf_855 (C : rr_C X G cc nL "RootRowsModel" ret fr lo) {α : Type} {kb : rr_M → Option α} {z : α} {a : Nat} {v : Int32} (ha : a ∈ G.2.2.1) (hk : G.2.2.2.1 a = 9) (hdg : decode cc pc = .ok (.putfield 175, 3)) (hm : rr_lt (ms_i σ a 14 v) kb = some z) (k : ∀ σ1 : rr_M, kb σ1 = some z → rr_J X G nL Q σ1 (pc + 3) lv rest) : rr_J X G nL Q σ pc lv (.int v :: .ref a :: rest) := rr_put C 9 14 tyX11 tyX11_ok nmX11 inX11 rfl (by decide) (by decide) q_855 rfl rfl (fun _ => by simp [rr_fs]) ha hk (fs_9_14 σ a v) (fun b hb => rr_ce_e (rr_oI hb).symm rfl rfl) rr_T_i rfl rfl hdg (k _ hm)
theorem gf_856 (C : rr_C X G cc nL "RootRowsModel" ret fr lo) {a : Nat} (ha : a ∈ G.2.2.1) (hk : G.2.2.2.1 a = 9) (hdg : decode cc pc = .ok (.getfield 187, 3)) (k : rr_J X G nL Q σ (pc + 3) lv (.int (mg_i σ a 15) :: rest)) : rr_J X G nL Q σ pc lv (.ref a :: rest) := rr_get C 9 15 inX11 rfl (by decide) (by decide) q_856 ha hk rfl hdg k
theorem pf_856 (C : rr_C X G cc nL "RootRowsModel" ret fr lo) {α : Type} {kb : rr_M → Option α} {z : α} {a : Nat} {v : Int32} (ha : a ∈ G.2.2.1) (hk : G.2.2.2.1 a = 9) (hdg : decode cc pc = .ok (.putfield 187, 3)) (hm : rr_lt (ms_i σ a 15 v) kb = some z) (k : ∀ σ1 : rr_M, kb σ1 = some z → rr_J X G nL Q σ1 (pc + 3) lv rest) : rr_J X G nL Q σ pc lv (.int v :: .ref a :: rest) := rr_put C 9 15 tyX11 tyX11_ok nmX11 inX11 rfl (by decide) (by decide) q_856 rfl rfl (fun _ => by simp [rr_fs]) ha hk (fs_9_15 σ a v) (fun b hb => rr_ce_e (rr_oI hb).symm rfl rfl) rr_T_i rfl rfl hdg (k _ hm)
theorem gf_857 (C : rr_C X G cc nL "RootRowsModel" ret fr lo) {a : Nat} (ha : a ∈ G.2.2.1) (hk : G.2.2.2.1 a = 9) (hdg : decode cc pc = .ok (.getfield 184, 3)) (k : rr_J X G nL Q σ (pc + 3) lv (.int (mg_i σ a 16) :: rest)) : rr_J X G nL Q σ pc lv (.ref a :: rest) := rr_get C 9 16 inX11 rfl (by decide) (by decide) q_857 ha hk rfl hdg k
theorem pf_857 (C : rr_C X G cc nL "RootRowsModel" ret fr lo) {α : Type} {kb : rr_M → Option α} {z : α} {a : Nat} {v : Int32} (ha : a ∈ G.2.2.1) (hk : G.2.2.2.1 a = 9) (hdg : decode cc pc = .ok (.putfield 184, 3)) (hm : rr_lt (ms_i σ a 16 v) kb = some z) (k : ∀ σ1 : rr_M, kb σ1 = some z → rr_J X G nL Q σ1 (pc + 3) lv rest) : rr_J X G nL Q σ pc lv (.int v :: .ref a :: rest) := rr_put C 9 16 tyX11 tyX11_ok nmX11 inX11 rfl (by decide) (by decide) q_857 rfl rfl (fun _ => by simp [rr_fs]) ha hk (fs_9_16 σ a v) (fun b hb => rr_ce_e (rr_oI hb).symm rfl rfl) rr_T_i rfl rfl hdg (k _ hm)
theorem gf_858 (C : rr_C X G cc nL "RootRowsModel" ret fr lo) {a : Nat} (ha : a ∈ G.2.2.1) (hk : G.2.2.2.1 a = 9) (hdg : decode cc pc = .ok (.getfield 181, 3)) (k : rr_J X G nL Q σ (pc + 3) lv (.int (mg_i σ a 17) :: rest)) : rr_J X G nL Q σ pc lv (.ref a :: rest) := rr_get C 9 17 inX11 rfl (by decide) (by decide) q_858 ha hk rfl hdg k
theorem pf_858 (C : rr_C X G cc nL "RootRowsModel" ret fr lo) {α : Type} {kb : rr_M → Option α} {z : α} {a : Nat} {v : Int32} (ha : a ∈ G.2.2.1) (hk : G.2.2.2.1 a = 9) (hdg : decode cc pc = .ok (.putfield 181, 3)) (hm : rr_lt (ms_i σ a 17 v) kb = some z) (k : ∀ σ1 : rr_M, kb σ1 = some z → rr_J X G nL Q σ1 (pc + 3) lv rest) : rr_J X G nL Q σ pc lv (.int v :: .ref a :: rest) := rr_put C 9 17 tyX11 tyX11_ok nmX11 inX11 rfl (by decide) (by decide) q_858 rfl rfl (fun _ => by simp [rr_fs]) ha hk (fs_9_17 σ a v) (fun b hb => rr_ce_e (rr_oI hb).symm rfl rfl) rr_T_i rfl rfl hdg (k _ hm)
end RWF
theorem hd_Big_addTimes : yX0_addTimes.cls ≠ "java/lang/invoke/MethodHandle" ∧ yX0_addTimes.cls ≠ "java/lang/invoke/VarHandle" ∧ (parseMethodDescriptor yX0_addTimes.desc).map (fun d => d.parameters.length) = some 3 := by decide +kernel
theorem hp_Big_addTimes : plainName yX0_addTimes.cls = true := by decide +kernel
theorem hd_Big_clear : yX0_clear.cls ≠ "java/lang/invoke/MethodHandle" ∧ yX0_clear.cls ≠ "java/lang/invoke/VarHandle" ∧ (parseMethodDescriptor yX0_clear.desc).map (fun d => d.parameters.length) = some 0 := by decide +kernel
theorem hp_Big_clear : plainName yX0_clear.cls = true := by decide +kernel
theorem hd_Big_copy : yX0_copy.cls ≠ "java/lang/invoke/MethodHandle" ∧ yX0_copy.cls ≠ "java/lang/invoke/VarHandle" ∧ (parseMethodDescriptor yX0_copy.desc).map (fun d => d.parameters.length) = some 1 := by decide +kernel
theorem hp_Big_copy : plainName yX0_copy.cls = true := by decide +kernel
theorem hd_Big_digitAt : yX0_digitAt.cls ≠ "java/lang/invoke/MethodHandle" ∧ yX0_digitAt.cls ≠ "java/lang/invoke/VarHandle" ∧ (parseMethodDescriptor yX0_digitAt.desc).map (fun d => d.parameters.length) = some 1 := by decide +kernel
theorem hp_Big_digitAt : plainName yX0_digitAt.cls = true := by decide +kernel
theorem hd_Big_inverseOf : yX0_inverseOf.cls ≠ "java/lang/invoke/MethodHandle" ∧ yX0_inverseOf.cls ≠ "java/lang/invoke/VarHandle" ∧ (parseMethodDescriptor yX0_inverseOf.desc).map (fun d => d.parameters.length) = some 1 := by decide +kernel
theorem hp_Big_inverseOf : plainName yX0_inverseOf.cls = true := by decide +kernel
theorem hd_Big_negate : yX0_negate.cls ≠ "java/lang/invoke/MethodHandle" ∧ yX0_negate.cls ≠ "java/lang/invoke/VarHandle" ∧ (parseMethodDescriptor yX0_negate.desc).map (fun d => d.parameters.length) = some 0 := by decide +kernel
theorem hp_Big_negate : plainName yX0_negate.cls = true := by decide +kernel
theorem hd_Big_set : yX0_set.cls ≠ "java/lang/invoke/MethodHandle" ∧ yX0_set.cls ≠ "java/lang/invoke/VarHandle" ∧ (parseMethodDescriptor yX0_set.desc).map (fun d => d.parameters.length) = some 1 := by decide +kernel
theorem hp_Big_set : plainName yX0_set.cls = true := by decide +kernel
theorem hd_Big_setProduct : yX0_setProduct.cls ≠ "java/lang/invoke/MethodHandle" ∧ yX0_setProduct.cls ≠ "java/lang/invoke/VarHandle" ∧ (parseMethodDescriptor yX0_setProduct.desc).map (fun d => d.parameters.length) = some 2 := by decide +kernel
theorem hp_Big_setProduct : plainName yX0_setProduct.cls = true := by decide +kernel
theorem hd_Big_setQuotient : yX0_setQuotient.cls ≠ "java/lang/invoke/MethodHandle" ∧ yX0_setQuotient.cls ≠ "java/lang/invoke/VarHandle" ∧ (parseMethodDescriptor yX0_setQuotient.desc).map (fun d => d.parameters.length) = some 2 := by decide +kernel
theorem hp_Big_setQuotient : plainName yX0_setQuotient.cls = true := by decide +kernel
theorem hd_Big_shiftDown : yX0_shiftDown.cls ≠ "java/lang/invoke/MethodHandle" ∧ yX0_shiftDown.cls ≠ "java/lang/invoke/VarHandle" ∧ (parseMethodDescriptor yX0_shiftDown.desc).map (fun d => d.parameters.length) = some 1 := by decide +kernel
theorem hp_Big_shiftDown : plainName yX0_shiftDown.cls = true := by decide +kernel
theorem hd_Big_signum : yX0_signum.cls ≠ "java/lang/invoke/MethodHandle" ∧ yX0_signum.cls ≠ "java/lang/invoke/VarHandle" ∧ (parseMethodDescriptor yX0_signum.desc).map (fun d => d.parameters.length) = some 0 := by decide +kernel
theorem hp_Big_signum : plainName yX0_signum.cls = true := by decide +kernel
theorem hd_Big_toLong : yX0_toLong.cls ≠ "java/lang/invoke/MethodHandle" ∧ yX0_toLong.cls ≠ "java/lang/invoke/VarHandle" ∧ (parseMethodDescriptor yX0_toLong.desc).map (fun d => d.parameters.length) = some 0 := by decide +kernel
theorem hp_Big_toLong : plainName yX0_toLong.cls = true := by decide +kernel
theorem hd_Big_trailingZeros : yX0_trailingZeros.cls ≠ "java/lang/invoke/MethodHandle" ∧ yX0_trailingZeros.cls ≠ "java/lang/invoke/VarHandle" ∧ (parseMethodDescriptor yX0_trailingZeros.desc).map (fun d => d.parameters.length) = some 0 := by decide +kernel
theorem hp_Big_trailingZeros : plainName yX0_trailingZeros.cls = true := by decide +kernel
theorem hd_Big_trim : yX0_trim.cls ≠ "java/lang/invoke/MethodHandle" ∧ yX0_trim.cls ≠ "java/lang/invoke/VarHandle" ∧ (parseMethodDescriptor yX0_trim.desc).map (fun d => d.parameters.length) = some 1 := by decide +kernel
theorem hp_Big_trim : plainName yX0_trim.cls = true := by decide +kernel
theorem hd_Jin_numberOfTrailingZeros : yJ6_numberOfTrailingZeros_0f7a4.cls ≠ "java/lang/invoke/MethodHandle" ∧ yJ6_numberOfTrailingZeros_0f7a4.cls ≠ "java/lang/invoke/VarHandle" ∧ (parseMethodDescriptor yJ6_numberOfTrailingZeros_0f7a4.desc).map (fun d => d.parameters.length) = some 1 := by decide +kernel
theorem hp_Jin_numberOfTrailingZeros : plainName yJ6_numberOfTrailingZeros_0f7a4.cls = true := by decide +kernel
theorem hd_Jlo_numberOfTrailingZeros_l : yJ13_numberOfTrailingZeros_95d88.cls ≠ "java/lang/invoke/MethodHandle" ∧ yJ13_numberOfTrailingZeros_95d88.cls ≠ "java/lang/invoke/VarHandle" ∧ (parseMethodDescriptor yJ13_numberOfTrailingZeros_95d88.desc).map (fun d => d.parameters.length) = some 1 := by decide +kernel
theorem hp_Jlo_numberOfTrailingZeros_l : plainName yJ13_numberOfTrailingZeros_95d88.cls = true := by decide +kernel
theorem hd_Jlo_signum_l : yJ13_signum_95d88.cls ≠ "java/lang/invoke/MethodHandle" ∧ yJ13_signum_95d88.cls ≠ "java/lang/invoke/VarHandle" ∧ (parseMethodDescriptor yJ13_signum_95d88.desc).map (fun d => d.parameters.length) = some 1 := by decide +kernel
theorem hp_Jlo_signum_l : plainName yJ13_signum_95d88.cls = true := by decide +kernel
theorem hd_Lev_build : yX1_build.cls ≠ "java/lang/invoke/MethodHandle" ∧ yX1_build.cls ≠ "java/lang/invoke/VarHandle" ∧ (parseMethodDescriptor yX1_build.desc).map (fun d => d.parameters.length) = some 2 := by decide +kernel
theorem hp_Lev_build : plainName yX1_build.cls = true := by decide +kernel
theorem hd_Lev_keepProof : yX1_keepProof.cls ≠ "java/lang/invoke/MethodHandle" ∧ yX1_keepProof.cls ≠ "java/lang/invoke/VarHandle" ∧ (parseMethodDescriptor yX1_keepProof.desc).map (fun d => d.parameters.length) = some 1 := by decide +kernel
theorem hp_Lev_keepProof : plainName yX1_keepProof.cls = true := by decide +kernel
theorem hd_Lev_prove : yX1_prove.cls ≠ "java/lang/invoke/MethodHandle" ∧ yX1_prove.cls ≠ "java/lang/invoke/VarHandle" ∧ (parseMethodDescriptor yX1_prove.desc).map (fun d => d.parameters.length) = some 1 := by decide +kernel
theorem hp_Lev_prove : plainName yX1_prove.cls = true := by decide +kernel
theorem hd_Mak_addNumbers : yX2_addNumbers.cls ≠ "java/lang/invoke/MethodHandle" ∧ yX2_addNumbers.cls ≠ "java/lang/invoke/VarHandle" ∧ (parseMethodDescriptor yX2_addNumbers.desc).map (fun d => d.parameters.length) = some 3 := by decide +kernel
theorem hp_Mak_addNumbers : plainName yX2_addNumbers.cls = true := by decide +kernel
theorem hd_Mak_addSlope : yX2_addSlope.cls ≠ "java/lang/invoke/MethodHandle" ∧ yX2_addSlope.cls ≠ "java/lang/invoke/VarHandle" ∧ (parseMethodDescriptor yX2_addSlope.desc).map (fun d => d.parameters.length) = some 3 := by decide +kernel
theorem hp_Mak_addSlope : plainName yX2_addSlope.cls = true := by decide +kernel
theorem hd_Mak_apply : yX2_apply.cls ≠ "java/lang/invoke/MethodHandle" ∧ yX2_apply.cls ≠ "java/lang/invoke/VarHandle" ∧ (parseMethodDescriptor yX2_apply.desc).map (fun d => d.parameters.length) = some 3 := by decide +kernel
theorem hp_Mak_apply : plainName yX2_apply.cls = true := by decide +kernel
theorem hd_Mak_clear : yX2_clear.cls ≠ "java/lang/invoke/MethodHandle" ∧ yX2_clear.cls ≠ "java/lang/invoke/VarHandle" ∧ (parseMethodDescriptor yX2_clear.desc).map (fun d => d.parameters.length) = some 0 := by decide +kernel
theorem hp_Mak_clear : plainName yX2_clear.cls = true := by decide +kernel
theorem hd_Mak_product : yX2_product.cls ≠ "java/lang/invoke/MethodHandle" ∧ yX2_product.cls ≠ "java/lang/invoke/VarHandle" ∧ (parseMethodDescriptor yX2_product.desc).map (fun d => d.parameters.length) = some 2 := by decide +kernel
theorem hp_Mak_product : plainName yX2_product.cls = true := by decide +kernel
theorem hd_Mak_shift : yX2_shift.cls ≠ "java/lang/invoke/MethodHandle" ∧ yX2_shift.cls ≠ "java/lang/invoke/VarHandle" ∧ (parseMethodDescriptor yX2_shift.desc).map (fun d => d.parameters.length) = some 2 := by decide +kernel
theorem hp_Mak_shift : plainName yX2_shift.cls = true := by decide +kernel
theorem hd_Mak_stretch : yX2_stretch.cls ≠ "java/lang/invoke/MethodHandle" ∧ yX2_stretch.cls ≠ "java/lang/invoke/VarHandle" ∧ (parseMethodDescriptor yX2_stretch.desc).map (fun d => d.parameters.length) = some 2 := by decide +kernel
theorem hp_Mak_stretch : plainName yX2_stretch.cls = true := by decide +kernel
theorem hd_Mak_sum : yX2_sum.cls ≠ "java/lang/invoke/MethodHandle" ∧ yX2_sum.cls ≠ "java/lang/invoke/VarHandle" ∧ (parseMethodDescriptor yX2_sum.desc).map (fun d => d.parameters.length) = some 4 := by decide +kernel
theorem hp_Mak_sum : plainName yX2_sum.cls = true := by decide +kernel
theorem hd_Mak_turn : yX2_turn.cls ≠ "java/lang/invoke/MethodHandle" ∧ yX2_turn.cls ≠ "java/lang/invoke/VarHandle" ∧ (parseMethodDescriptor yX2_turn.desc).map (fun d => d.parameters.length) = some 1 := by decide +kernel
theorem hp_Mak_turn : plainName yX2_turn.cls = true := by decide +kernel
theorem hd_Mak_weigh : yX2_weigh.cls ≠ "java/lang/invoke/MethodHandle" ∧ yX2_weigh.cls ≠ "java/lang/invoke/VarHandle" ∧ (parseMethodDescriptor yX2_weigh.desc).map (fun d => d.parameters.length) = some 1 := by decide +kernel
theorem hp_Mak_weigh : plainName yX2_weigh.cls = true := by decide +kernel
theorem hd_Mod_adds : yX11_adds.cls ≠ "java/lang/invoke/MethodHandle" ∧ yX11_adds.cls ≠ "java/lang/invoke/VarHandle" ∧ (parseMethodDescriptor yX11_adds.desc).map (fun d => d.parameters.length) = some 4 := by decide +kernel
theorem hp_Mod_adds : plainName yX11_adds.cls = true := by decide +kernel
theorem hd_Mod_against : yX11_against.cls ≠ "java/lang/invoke/MethodHandle" ∧ yX11_against.cls ≠ "java/lang/invoke/VarHandle" ∧ (parseMethodDescriptor yX11_against.desc).map (fun d => d.parameters.length) = some 2 := by decide +kernel
theorem hp_Mod_against : plainName yX11_against.cls = true := by decide +kernel
theorem hd_Mod_areLaced : yX11_areLaced.cls ≠ "java/lang/invoke/MethodHandle" ∧ yX11_areLaced.cls ≠ "java/lang/invoke/VarHandle" ∧ (parseMethodDescriptor yX11_areLaced.desc).map (fun d => d.parameters.length) = some 2 := by decide +kernel
theorem hp_Mod_areLaced : plainName yX11_areLaced.cls = true := by decide +kernel
theorem hd_Mod_at : yX11_at.cls ≠ "java/lang/invoke/MethodHandle" ∧ yX11_at.cls ≠ "java/lang/invoke/VarHandle" ∧ (parseMethodDescriptor yX11_at.desc).map (fun d => d.parameters.length) = some 2 := by decide +kernel
theorem hp_Mod_at : plainName yX11_at.cls = true := by decide +kernel
theorem hd_Mod_below : yX11_below.cls ≠ "java/lang/invoke/MethodHandle" ∧ yX11_below.cls ≠ "java/lang/invoke/VarHandle" ∧ (parseMethodDescriptor yX11_below.desc).map (fun d => d.parameters.length) = some 2 := by decide +kernel
theorem hp_Mod_below : plainName yX11_below.cls = true := by decide +kernel
theorem hd_Mod_between : yX11_between.cls ≠ "java/lang/invoke/MethodHandle" ∧ yX11_between.cls ≠ "java/lang/invoke/VarHandle" ∧ (parseMethodDescriptor yX11_between.desc).map (fun d => d.parameters.length) = some 3 := by decide +kernel
theorem hp_Mod_between : plainName yX11_between.cls = true := by decide +kernel
theorem hd_Mod_chain : yX11_chain.cls ≠ "java/lang/invoke/MethodHandle" ∧ yX11_chain.cls ≠ "java/lang/invoke/VarHandle" ∧ (parseMethodDescriptor yX11_chain.desc).map (fun d => d.parameters.length) = some 2 := by decide +kernel
theorem hp_Mod_chain : plainName yX11_chain.cls = true := by decide +kernel
theorem hd_Mod_changes : yX11_changes.cls ≠ "java/lang/invoke/MethodHandle" ∧ yX11_changes.cls ≠ "java/lang/invoke/VarHandle" ∧ (parseMethodDescriptor yX11_changes.desc).map (fun d => d.parameters.length) = some 3 := by decide +kernel
theorem hp_Mod_changes : plainName yX11_changes.cls = true := by decide +kernel
theorem hd_Mod_changesOut : yX11_changesOut.cls ≠ "java/lang/invoke/MethodHandle" ∧ yX11_changesOut.cls ≠ "java/lang/invoke/VarHandle" ∧ (parseMethodDescriptor yX11_changesOut.desc).map (fun d => d.parameters.length) = some 3 := by decide +kernel
theorem hp_Mod_changesOut : plainName yX11_changesOut.cls = true := by decide +kernel
theorem hd_Mod_comes : yX11_comes.cls ≠ "java/lang/invoke/MethodHandle" ∧ yX11_comes.cls ≠ "java/lang/invoke/VarHandle" ∧ (parseMethodDescriptor yX11_comes.desc).map (fun d => d.parameters.length) = some 1 := by decide +kernel
theorem hp_Mod_comes : plainName yX11_comes.cls = true := by decide +kernel
theorem hd_Mod_common : yX11_common.cls ≠ "java/lang/invoke/MethodHandle" ∧ yX11_common.cls ≠ "java/lang/invoke/VarHandle" ∧ (parseMethodDescriptor yX11_common.desc).map (fun d => d.parameters.length) = some 2 := by decide +kernel
theorem hp_Mod_common : plainName yX11_common.cls = true := by decide +kernel
theorem hd_Mod_contents : yX11_contents.cls ≠ "java/lang/invoke/MethodHandle" ∧ yX11_contents.cls ≠ "java/lang/invoke/VarHandle" ∧ (parseMethodDescriptor yX11_contents.desc).map (fun d => d.parameters.length) = some 1 := by decide +kernel
theorem hp_Mod_contents : plainName yX11_contents.cls = true := by decide +kernel
theorem hd_Mod_copies : yX11_copies.cls ≠ "java/lang/invoke/MethodHandle" ∧ yX11_copies.cls ≠ "java/lang/invoke/VarHandle" ∧ (parseMethodDescriptor yX11_copies.desc).map (fun d => d.parameters.length) = some 2 := by decide +kernel
theorem hp_Mod_copies : plainName yX11_copies.cls = true := by decide +kernel
theorem hd_Mod_count : yX11_count.cls ≠ "java/lang/invoke/MethodHandle" ∧ yX11_count.cls ≠ "java/lang/invoke/VarHandle" ∧ (parseMethodDescriptor yX11_count.desc).map (fun d => d.parameters.length) = some 2 := by decide +kernel
theorem hp_Mod_count : plainName yX11_count.cls = true := by decide +kernel
theorem hd_Mod_countOf : yX11_countOf.cls ≠ "java/lang/invoke/MethodHandle" ∧ yX11_countOf.cls ≠ "java/lang/invoke/VarHandle" ∧ (parseMethodDescriptor yX11_countOf.desc).map (fun d => d.parameters.length) = some 2 := by decide +kernel
theorem hp_Mod_countOf : plainName yX11_countOf.cls = true := by decide +kernel
theorem hd_Mod_degreeOf : yX11_degreeOf.cls ≠ "java/lang/invoke/MethodHandle" ∧ yX11_degreeOf.cls ≠ "java/lang/invoke/VarHandle" ∧ (parseMethodDescriptor yX11_degreeOf.desc).map (fun d => d.parameters.length) = some 1 := by decide +kernel
theorem hp_Mod_degreeOf : plainName yX11_degreeOf.cls = true := by decide +kernel
theorem hd_Mod_degreeOfRow : yX11_degreeOfRow.cls ≠ "java/lang/invoke/MethodHandle" ∧ yX11_degreeOfRow.cls ≠ "java/lang/invoke/VarHandle" ∧ (parseMethodDescriptor yX11_degreeOfRow.desc).map (fun d => d.parameters.length) = some 2 := by decide +kernel
theorem hp_Mod_degreeOfRow : plainName yX11_degreeOfRow.cls = true := by decide +kernel
theorem hd_Mod_digit : yX11_digit.cls ≠ "java/lang/invoke/MethodHandle" ∧ yX11_digit.cls ≠ "java/lang/invoke/VarHandle" ∧ (parseMethodDescriptor yX11_digit.desc).map (fun d => d.parameters.length) = some 2 := by decide +kernel
theorem hp_Mod_digit : plainName yX11_digit.cls = true := by decide +kernel
theorem hd_Mod_divides : yX11_divides.cls ≠ "java/lang/invoke/MethodHandle" ∧ yX11_divides.cls ≠ "java/lang/invoke/VarHandle" ∧ (parseMethodDescriptor yX11_divides.desc).map (fun d => d.parameters.length) = some 3 := by decide +kernel
theorem hp_Mod_divides : plainName yX11_divides.cls = true := by decide +kernel
theorem hd_Mod_end : yX11_end.cls ≠ "java/lang/invoke/MethodHandle" ∧ yX11_end.cls ≠ "java/lang/invoke/VarHandle" ∧ (parseMethodDescriptor yX11_end.desc).map (fun d => d.parameters.length) = some 1 := by decide +kernel
theorem hp_Mod_end : plainName yX11_end.cls = true := by decide +kernel
theorem hd_Mod_fails : yX11_fails.cls ≠ "java/lang/invoke/MethodHandle" ∧ yX11_fails.cls ≠ "java/lang/invoke/VarHandle" ∧ (parseMethodDescriptor yX11_fails.desc).map (fun d => d.parameters.length) = some 2 := by decide +kernel
theorem hp_Mod_fails : plainName yX11_fails.cls = true := by decide +kernel
theorem hd_Mod_fails_ : yX11_fails_.cls ≠ "java/lang/invoke/MethodHandle" ∧ yX11_fails_.cls ≠ "java/lang/invoke/VarHandle" ∧ (parseMethodDescriptor yX11_fails_.desc).map (fun d => d.parameters.length) = some 1 := by decide +kernel
theorem hp_Mod_fails_ : plainName yX11_fails_.cls = true := by decide +kernel
theorem hd_Mod_fault : yX11_fault.cls ≠ "java/lang/invoke/MethodHandle" ∧ yX11_fault.cls ≠ "java/lang/invoke/VarHandle" ∧ (parseMethodDescriptor yX11_fault.desc).map (fun d => d.parameters.length) = some 0 := by decide +kernel
theorem hp_Mod_fault : plainName yX11_fault.cls = true := by decide +kernel
theorem hd_Mod_feed : yX11_feed.cls ≠ "java/lang/invoke/MethodHandle" ∧ yX11_feed.cls ≠ "java/lang/invoke/VarHandle" ∧ (parseMethodDescriptor yX11_feed.desc).map (fun d => d.parameters.length) = some 5 := by decide +kernel
theorem hp_Mod_feed : plainName yX11_feed.cls = true := by decide +kernel
theorem hd_Mod_firstBent : yX11_firstBent.cls ≠ "java/lang/invoke/MethodHandle" ∧ yX11_firstBent.cls ≠ "java/lang/invoke/VarHandle" ∧ (parseMethodDescriptor yX11_firstBent.desc).map (fun d => d.parameters.length) = some 2 := by decide +kernel
theorem hp_Mod_firstBent : plainName yX11_firstBent.cls = true := by decide +kernel
theorem hd_Mod_firstNewton : yX11_firstNewton.cls ≠ "java/lang/invoke/MethodHandle" ∧ yX11_firstNewton.cls ≠ "java/lang/invoke/VarHandle" ∧ (parseMethodDescriptor yX11_firstNewton.desc).map (fun d => d.parameters.length) = some 2 := by decide +kernel
theorem hp_Mod_firstNewton : plainName yX11_firstNewton.cls = true := by decide +kernel
theorem hd_Mod_floorOf : yX11_floorOf.cls ≠ "java/lang/invoke/MethodHandle" ∧ yX11_floorOf.cls ≠ "java/lang/invoke/VarHandle" ∧ (parseMethodDescriptor yX11_floorOf.desc).map (fun d => d.parameters.length) = some 2 := by decide +kernel
theorem hp_Mod_floorOf : plainName yX11_floorOf.cls = true := by decide +kernel
theorem hd_Mod_hasHump : yX11_hasHump.cls ≠ "java/lang/invoke/MethodHandle" ∧ yX11_hasHump.cls ≠ "java/lang/invoke/VarHandle" ∧ (parseMethodDescriptor yX11_hasHump.desc).map (fun d => d.parameters.length) = some 2 := by decide +kernel
theorem hp_Mod_hasHump : plainName yX11_hasHump.cls = true := by decide +kernel
theorem hd_Mod_here : yX11_here.cls ≠ "java/lang/invoke/MethodHandle" ∧ yX11_here.cls ≠ "java/lang/invoke/VarHandle" ∧ (parseMethodDescriptor yX11_here.desc).map (fun d => d.parameters.length) = some 0 := by decide +kernel
theorem hp_Mod_here : plainName yX11_here.cls = true := by decide +kernel
theorem hd_Mod_holes : yX11_holes.cls ≠ "java/lang/invoke/MethodHandle" ∧ yX11_holes.cls ≠ "java/lang/invoke/VarHandle" ∧ (parseMethodDescriptor yX11_holes.desc).map (fun d => d.parameters.length) = some 2 := by decide +kernel
theorem hp_Mod_holes : plainName yX11_holes.cls = true := by decide +kernel
theorem hd_Mod_isCounts : yX11_isCounts.cls ≠ "java/lang/invoke/MethodHandle" ∧ yX11_isCounts.cls ≠ "java/lang/invoke/VarHandle" ∧ (parseMethodDescriptor yX11_isCounts.desc).map (fun d => d.parameters.length) = some 1 := by decide +kernel
theorem hp_Mod_isCounts : plainName yX11_isCounts.cls = true := by decide +kernel
theorem hd_Mod_isDigit : yX11_isDigit.cls ≠ "java/lang/invoke/MethodHandle" ∧ yX11_isDigit.cls ≠ "java/lang/invoke/VarHandle" ∧ (parseMethodDescriptor yX11_isDigit.desc).map (fun d => d.parameters.length) = some 0 := by decide +kernel
theorem hp_Mod_isDigit : plainName yX11_isDigit.cls = true := by decide +kernel
theorem hd_Mod_isIn : yX11_isIn.cls ≠ "java/lang/invoke/MethodHandle" ∧ yX11_isIn.cls ≠ "java/lang/invoke/VarHandle" ∧ (parseMethodDescriptor yX11_isIn.desc).map (fun d => d.parameters.length) = some 3 := by decide +kernel
theorem hp_Mod_isIn : plainName yX11_isIn.cls = true := by decide +kernel
theorem hd_Mod_isPoly : yX11_isPoly.cls ≠ "java/lang/invoke/MethodHandle" ∧ yX11_isPoly.cls ≠ "java/lang/invoke/VarHandle" ∧ (parseMethodDescriptor yX11_isPoly.desc).map (fun d => d.parameters.length) = some 1 := by decide +kernel
theorem hp_Mod_isPoly : plainName yX11_isPoly.cls = true := by decide +kernel
theorem hd_Mod_isRoot : yX11_isRoot.cls ≠ "java/lang/invoke/MethodHandle" ∧ yX11_isRoot.cls ≠ "java/lang/invoke/VarHandle" ∧ (parseMethodDescriptor yX11_isRoot.desc).map (fun d => d.parameters.length) = some 2 := by decide +kernel
theorem hp_Mod_isRoot : plainName yX11_isRoot.cls = true := by decide +kernel
theorem hd_Mod_isTray : yX11_isTray.cls ≠ "java/lang/invoke/MethodHandle" ∧ yX11_isTray.cls ≠ "java/lang/invoke/VarHandle" ∧ (parseMethodDescriptor yX11_isTray.desc).map (fun d => d.parameters.length) = some 1 := by decide +kernel
theorem hp_Mod_isTray : plainName yX11_isTray.cls = true := by decide +kernel
theorem hd_Mod_isWhole : yX11_isWhole.cls ≠ "java/lang/invoke/MethodHandle" ∧ yX11_isWhole.cls ≠ "java/lang/invoke/VarHandle" ∧ (parseMethodDescriptor yX11_isWhole.desc).map (fun d => d.parameters.length) = some 1 := by decide +kernel
theorem hp_Mod_isWhole : plainName yX11_isWhole.cls = true := by decide +kernel
theorem hd_Mod_join : yX11_join.cls ≠ "java/lang/invoke/MethodHandle" ∧ yX11_join.cls ≠ "java/lang/invoke/VarHandle" ∧ (parseMethodDescriptor yX11_join.desc).map (fun d => d.parameters.length) = some 5 := by decide +kernel
theorem hp_Mod_join : plainName yX11_join.cls = true := by decide +kernel
theorem hd_Mod_laced : yX11_laced.cls ≠ "java/lang/invoke/MethodHandle" ∧ yX11_laced.cls ≠ "java/lang/invoke/VarHandle" ∧ (parseMethodDescriptor yX11_laced.desc).map (fun d => d.parameters.length) = some 2 := by decide +kernel
theorem hp_Mod_laced : plainName yX11_laced.cls = true := by decide +kernel
theorem hd_Mod_lays : yX11_lays.cls ≠ "java/lang/invoke/MethodHandle" ∧ yX11_lays.cls ≠ "java/lang/invoke/VarHandle" ∧ (parseMethodDescriptor yX11_lays.desc).map (fun d => d.parameters.length) = some 1 := by decide +kernel
theorem hp_Mod_lays : plainName yX11_lays.cls = true := by decide +kernel
theorem hd_Mod_leadSign : yX11_leadSign.cls ≠ "java/lang/invoke/MethodHandle" ∧ yX11_leadSign.cls ≠ "java/lang/invoke/VarHandle" ∧ (parseMethodDescriptor yX11_leadSign.desc).map (fun d => d.parameters.length) = some 1 := by decide +kernel
theorem hp_Mod_leadSign : plainName yX11_leadSign.cls = true := by decide +kernel
theorem hd_Mod_leaves : yX11_leaves.cls ≠ "java/lang/invoke/MethodHandle" ∧ yX11_leaves.cls ≠ "java/lang/invoke/VarHandle" ∧ (parseMethodDescriptor yX11_leaves.desc).map (fun d => d.parameters.length) = some 3 := by decide +kernel
theorem hp_Mod_leaves : plainName yX11_leaves.cls = true := by decide +kernel
theorem hd_Mod_leavesAll : yX11_leavesAll.cls ≠ "java/lang/invoke/MethodHandle" ∧ yX11_leavesAll.cls ≠ "java/lang/invoke/VarHandle" ∧ (parseMethodDescriptor yX11_leavesAll.desc).map (fun d => d.parameters.length) = some 1 := by decide +kernel
theorem hp_Mod_leavesAll : plainName yX11_leavesAll.cls = true := by decide +kernel
theorem hd_Mod_limbAt : yX11_limbAt.cls ≠ "java/lang/invoke/MethodHandle" ∧ yX11_limbAt.cls ≠ "java/lang/invoke/VarHandle" ∧ (parseMethodDescriptor yX11_limbAt.desc).map (fun d => d.parameters.length) = some 2 := by decide +kernel
theorem hp_Mod_limbAt : plainName yX11_limbAt.cls = true := by decide +kernel
theorem hd_Mod_longOf : yX11_longOf.cls ≠ "java/lang/invoke/MethodHandle" ∧ yX11_longOf.cls ≠ "java/lang/invoke/VarHandle" ∧ (parseMethodDescriptor yX11_longOf.desc).map (fun d => d.parameters.length) = some 1 := by decide +kernel
theorem hp_Mod_longOf : plainName yX11_longOf.cls = true := by decide +kernel
theorem hd_Mod_made : yX11_made.cls ≠ "java/lang/invoke/MethodHandle" ∧ yX11_made.cls ≠ "java/lang/invoke/VarHandle" ∧ (parseMethodDescriptor yX11_made.desc).map (fun d => d.parameters.length) = some 4 := by decide +kernel
theorem hp_Mod_made : plainName yX11_made.cls = true := by decide +kernel
theorem hd_Mod_mean : yX11_mean.cls ≠ "java/lang/invoke/MethodHandle" ∧ yX11_mean.cls ≠ "java/lang/invoke/VarHandle" ∧ (parseMethodDescriptor yX11_mean.desc).map (fun d => d.parameters.length) = some 2 := by decide +kernel
theorem hp_Mod_mean : plainName yX11_mean.cls = true := by decide +kernel
theorem hd_Mod_member : yX11_member.cls ≠ "java/lang/invoke/MethodHandle" ∧ yX11_member.cls ≠ "java/lang/invoke/VarHandle" ∧ (parseMethodDescriptor yX11_member.desc).map (fun d => d.parameters.length) = some 3 := by decide +kernel
theorem hp_Mod_member : plainName yX11_member.cls = true := by decide +kernel
theorem hd_Mod_modes : yX11_modes.cls ≠ "java/lang/invoke/MethodHandle" ∧ yX11_modes.cls ≠ "java/lang/invoke/VarHandle" ∧ (parseMethodDescriptor yX11_modes.desc).map (fun d => d.parameters.length) = some 2 := by decide +kernel
theorem hp_Mod_modes : plainName yX11_modes.cls = true := by decide +kernel
theorem hd_Mod_mostOften : yX11_mostOften.cls ≠ "java/lang/invoke/MethodHandle" ∧ yX11_mostOften.cls ≠ "java/lang/invoke/VarHandle" ∧ (parseMethodDescriptor yX11_mostOften.desc).map (fun d => d.parameters.length) = some 1 := by decide +kernel
theorem hp_Mod_mostOften : plainName yX11_mostOften.cls = true := by decide +kernel
theorem hd_Mod_moves : yX11_moves.cls ≠ "java/lang/invoke/MethodHandle" ∧ yX11_moves.cls ≠ "java/lang/invoke/VarHandle" ∧ (parseMethodDescriptor yX11_moves.desc).map (fun d => d.parameters.length) = some 2 := by decide +kernel
theorem hp_Mod_moves : plainName yX11_moves.cls = true := by decide +kernel
theorem hd_Mod_multiplies : yX11_multiplies.cls ≠ "java/lang/invoke/MethodHandle" ∧ yX11_multiplies.cls ≠ "java/lang/invoke/VarHandle" ∧ (parseMethodDescriptor yX11_multiplies.desc).map (fun d => d.parameters.length) = some 3 := by decide +kernel
theorem hp_Mod_multiplies : plainName yX11_multiplies.cls = true := by decide +kernel
theorem hd_Mod_number : yX11_number.cls ≠ "java/lang/invoke/MethodHandle" ∧ yX11_number.cls ≠ "java/lang/invoke/VarHandle" ∧ (parseMethodDescriptor yX11_number.desc).map (fun d => d.parameters.length) = some 1 := by decide +kernel
theorem hp_Mod_number : plainName yX11_number.cls = true := by decide +kernel
theorem hd_Mod_numberAt : yX11_numberAt.cls ≠ "java/lang/invoke/MethodHandle" ∧ yX11_numberAt.cls ≠ "java/lang/invoke/VarHandle" ∧ (parseMethodDescriptor yX11_numberAt.desc).map (fun d => d.parameters.length) = some 2 := by decide +kernel
theorem hp_Mod_numberAt : plainName yX11_numberAt.cls = true := by decide +kernel
theorem hd_Mod_number_ : yX11_number_.cls ≠ "java/lang/invoke/MethodHandle" ∧ yX11_number_.cls ≠ "java/lang/invoke/VarHandle" ∧ (parseMethodDescriptor yX11_number_.desc).map (fun d => d.parameters.length) = some 2 := by decide +kernel
theorem hp_Mod_number_ : plainName yX11_number_.cls = true := by decide +kernel
theorem hd_Mod_often : yX11_often.cls ≠ "java/lang/invoke/MethodHandle" ∧ yX11_often.cls ≠ "java/lang/invoke/VarHandle" ∧ (parseMethodDescriptor yX11_often.desc).map (fun d => d.parameters.length) = some 2 := by decide +kernel
theorem hp_Mod_often : plainName yX11_often.cls = true := by decide +kernel
theorem hd_Mod_oftenOf : yX11_oftenOf.cls ≠ "java/lang/invoke/MethodHandle" ∧ yX11_oftenOf.cls ≠ "java/lang/invoke/VarHandle" ∧ (parseMethodDescriptor yX11_oftenOf.desc).map (fun d => d.parameters.length) = some 1 := by decide +kernel
theorem hp_Mod_oftenOf : plainName yX11_oftenOf.cls = true := by decide +kernel
theorem hd_Mod_operate : yX11_operate.cls ≠ "java/lang/invoke/MethodHandle" ∧ yX11_operate.cls ≠ "java/lang/invoke/VarHandle" ∧ (parseMethodDescriptor yX11_operate.desc).map (fun d => d.parameters.length) = some 4 := by decide +kernel
theorem hp_Mod_operate : plainName yX11_operate.cls = true := by decide +kernel
theorem hd_Mod_parts : yX11_parts.cls ≠ "java/lang/invoke/MethodHandle" ∧ yX11_parts.cls ≠ "java/lang/invoke/VarHandle" ∧ (parseMethodDescriptor yX11_parts.desc).map (fun d => d.parameters.length) = some 4 := by decide +kernel
theorem hp_Mod_parts : plainName yX11_parts.cls = true := by decide +kernel
theorem hd_Mod_plains : yX11_plains.cls ≠ "java/lang/invoke/MethodHandle" ∧ yX11_plains.cls ≠ "java/lang/invoke/VarHandle" ∧ (parseMethodDescriptor yX11_plains.desc).map (fun d => d.parameters.length) = some 2 := by decide +kernel
theorem hp_Mod_plains : plainName yX11_plains.cls = true := by decide +kernel
theorem hd_Mod_powers : yX11_powers.cls ≠ "java/lang/invoke/MethodHandle" ∧ yX11_powers.cls ≠ "java/lang/invoke/VarHandle" ∧ (parseMethodDescriptor yX11_powers.desc).map (fun d => d.parameters.length) = some 1 := by decide +kernel
theorem hp_Mod_powers : plainName yX11_powers.cls = true := by decide +kernel
theorem hd_Mod_proves : yX11_proves.cls ≠ "java/lang/invoke/MethodHandle" ∧ yX11_proves.cls ≠ "java/lang/invoke/VarHandle" ∧ (parseMethodDescriptor yX11_proves.desc).map (fun d => d.parameters.length) = some 2 := by decide +kernel
theorem hp_Mod_proves : plainName yX11_proves.cls = true := by decide +kernel
theorem hd_Mod_put : yX11_put.cls ≠ "java/lang/invoke/MethodHandle" ∧ yX11_put.cls ≠ "java/lang/invoke/VarHandle" ∧ (parseMethodDescriptor yX11_put.desc).map (fun d => d.parameters.length) = some 1 := by decide +kernel
theorem hp_Mod_put : plainName yX11_put.cls = true := by decide +kernel
theorem hd_Mod_put_ : yX11_put_.cls ≠ "java/lang/invoke/MethodHandle" ∧ yX11_put_.cls ≠ "java/lang/invoke/VarHandle" ∧ (parseMethodDescriptor yX11_put_.desc).map (fun d => d.parameters.length) = some 3 := by decide +kernel
theorem hp_Mod_put_ : plainName yX11_put_.cls = true := by decide +kernel
theorem hd_Mod_puts : yX11_puts.cls ≠ "java/lang/invoke/MethodHandle" ∧ yX11_puts.cls ≠ "java/lang/invoke/VarHandle" ∧ (parseMethodDescriptor yX11_puts.desc).map (fun d => d.parameters.length) = some 3 := by decide +kernel
theorem hp_Mod_puts : plainName yX11_puts.cls = true := by decide +kernel
theorem hd_Mod_read : yX11_read.cls ≠ "java/lang/invoke/MethodHandle" ∧ yX11_read.cls ≠ "java/lang/invoke/VarHandle" ∧ (parseMethodDescriptor yX11_read.desc).map (fun d => d.parameters.length) = some 1 := by decide +kernel
theorem hp_Mod_read : plainName yX11_read.cls = true := by decide +kernel
theorem hd_Mod_realRoots : yX11_realRoots.cls ≠ "java/lang/invoke/MethodHandle" ∧ yX11_realRoots.cls ≠ "java/lang/invoke/VarHandle" ∧ (parseMethodDescriptor yX11_realRoots.desc).map (fun d => d.parameters.length) = some 1 := by decide +kernel
theorem hp_Mod_realRoots : plainName yX11_realRoots.cls = true := by decide +kernel
theorem hd_Mod_root : yX11_root.cls ≠ "java/lang/invoke/MethodHandle" ∧ yX11_root.cls ≠ "java/lang/invoke/VarHandle" ∧ (parseMethodDescriptor yX11_root.desc).map (fun d => d.parameters.length) = some 3 := by decide +kernel
theorem hp_Mod_root : plainName yX11_root.cls = true := by decide +kernel
theorem hd_Mod_roots : yX11_roots.cls ≠ "java/lang/invoke/MethodHandle" ∧ yX11_roots.cls ≠ "java/lang/invoke/VarHandle" ∧ (parseMethodDescriptor yX11_roots.desc).map (fun d => d.parameters.length) = some 0 := by decide +kernel
theorem hp_Mod_roots : plainName yX11_roots.cls = true := by decide +kernel
theorem hd_Mod_row : yX11_row.cls ≠ "java/lang/invoke/MethodHandle" ∧ yX11_row.cls ≠ "java/lang/invoke/VarHandle" ∧ (parseMethodDescriptor yX11_row.desc).map (fun d => d.parameters.length) = some 2 := by decide +kernel
theorem hp_Mod_row : plainName yX11_row.cls = true := by decide +kernel
theorem hd_Mod_scaled : yX11_scaled.cls ≠ "java/lang/invoke/MethodHandle" ∧ yX11_scaled.cls ≠ "java/lang/invoke/VarHandle" ∧ (parseMethodDescriptor yX11_scaled.desc).map (fun d => d.parameters.length) = some 3 := by decide +kernel
theorem hp_Mod_scaled : plainName yX11_scaled.cls = true := by decide +kernel
theorem hd_Mod_sets : yX11_sets.cls ≠ "java/lang/invoke/MethodHandle" ∧ yX11_sets.cls ≠ "java/lang/invoke/VarHandle" ∧ (parseMethodDescriptor yX11_sets.desc).map (fun d => d.parameters.length) = some 2 := by decide +kernel
theorem hp_Mod_sets : plainName yX11_sets.cls = true := by decide +kernel
theorem hd_Mod_setsPower : yX11_setsPower.cls ≠ "java/lang/invoke/MethodHandle" ∧ yX11_setsPower.cls ≠ "java/lang/invoke/VarHandle" ∧ (parseMethodDescriptor yX11_setsPower.desc).map (fun d => d.parameters.length) = some 2 := by decide +kernel
theorem hp_Mod_setsPower : plainName yX11_setsPower.cls = true := by decide +kernel
theorem hd_Mod_sign : yX11_sign.cls ≠ "java/lang/invoke/MethodHandle" ∧ yX11_sign.cls ≠ "java/lang/invoke/VarHandle" ∧ (parseMethodDescriptor yX11_sign.desc).map (fun d => d.parameters.length) = some 3 := by decide +kernel
theorem hp_Mod_sign : plainName yX11_sign.cls = true := by decide +kernel
theorem hd_Mod_signAt : yX11_signAt.cls ≠ "java/lang/invoke/MethodHandle" ∧ yX11_signAt.cls ≠ "java/lang/invoke/VarHandle" ∧ (parseMethodDescriptor yX11_signAt.desc).map (fun d => d.parameters.length) = some 2 := by decide +kernel
theorem hp_Mod_signAt : plainName yX11_signAt.cls = true := by decide +kernel
theorem hd_Mod_size : yX11_size.cls ≠ "java/lang/invoke/MethodHandle" ∧ yX11_size.cls ≠ "java/lang/invoke/VarHandle" ∧ (parseMethodDescriptor yX11_size.desc).map (fun d => d.parameters.length) = some 1 := by decide +kernel
theorem hp_Mod_size : plainName yX11_size.cls = true := by decide +kernel
theorem hd_Mod_slopes : yX11_slopes.cls ≠ "java/lang/invoke/MethodHandle" ∧ yX11_slopes.cls ≠ "java/lang/invoke/VarHandle" ∧ (parseMethodDescriptor yX11_slopes.desc).map (fun d => d.parameters.length) = some 2 := by decide +kernel
theorem hp_Mod_slopes : plainName yX11_slopes.cls = true := by decide +kernel
theorem hd_Mod_slot : yX11_slot.cls ≠ "java/lang/invoke/MethodHandle" ∧ yX11_slot.cls ≠ "java/lang/invoke/VarHandle" ∧ (parseMethodDescriptor yX11_slot.desc).map (fun d => d.parameters.length) = some 2 := by decide +kernel
theorem hp_Mod_slot : plainName yX11_slot.cls = true := by decide +kernel
theorem hd_Mod_takes : yX11_takes.cls ≠ "java/lang/invoke/MethodHandle" ∧ yX11_takes.cls ≠ "java/lang/invoke/VarHandle" ∧ (parseMethodDescriptor yX11_takes.desc).map (fun d => d.parameters.length) = some 2 := by decide +kernel
theorem hp_Mod_takes : plainName yX11_takes.cls = true := by decide +kernel
theorem hd_Mod_term : yX11_term.cls ≠ "java/lang/invoke/MethodHandle" ∧ yX11_term.cls ≠ "java/lang/invoke/VarHandle" ∧ (parseMethodDescriptor yX11_term.desc).map (fun d => d.parameters.length) = some 1 := by decide +kernel
theorem hp_Mod_term : plainName yX11_term.cls = true := by decide +kernel
theorem hd_Mod_times : yX11_times.cls ≠ "java/lang/invoke/MethodHandle" ∧ yX11_times.cls ≠ "java/lang/invoke/VarHandle" ∧ (parseMethodDescriptor yX11_times.desc).map (fun d => d.parameters.length) = some 3 := by decide +kernel
theorem hp_Mod_times : plainName yX11_times.cls = true := by decide +kernel
theorem hd_Mod_trims : yX11_trims.cls ≠ "java/lang/invoke/MethodHandle" ∧ yX11_trims.cls ≠ "java/lang/invoke/VarHandle" ∧ (parseMethodDescriptor yX11_trims.desc).map (fun d => d.parameters.length) = some 2 := by decide +kernel
theorem hp_Mod_trims : plainName yX11_trims.cls = true := by decide +kernel
theorem hd_Mod_upTo : yX11_upTo.cls ≠ "java/lang/invoke/MethodHandle" ∧ yX11_upTo.cls ≠ "java/lang/invoke/VarHandle" ∧ (parseMethodDescriptor yX11_upTo.desc).map (fun d => d.parameters.length) = some 2 := by decide +kernel
theorem hp_Mod_upTo : plainName yX11_upTo.cls = true := by decide +kernel
theorem hd_Num_commonDivisor : yX3_commonDivisor.cls ≠ "java/lang/invoke/MethodHandle" ∧ yX3_commonDivisor.cls ≠ "java/lang/invoke/VarHandle" ∧ (parseMethodDescriptor yX3_commonDivisor.desc).map (fun d => d.parameters.length) = some 2 := by decide +kernel
theorem hp_Num_commonDivisor : plainName yX3_commonDivisor.cls = true := by decide +kernel
theorem hd_Num_degreeOf : yX3_degreeOf.cls ≠ "java/lang/invoke/MethodHandle" ∧ yX3_degreeOf.cls ≠ "java/lang/invoke/VarHandle" ∧ (parseMethodDescriptor yX3_degreeOf.desc).map (fun d => d.parameters.length) = some 1 := by decide +kernel
theorem hp_Num_degreeOf : plainName yX3_degreeOf.cls = true := by decide +kernel
theorem hd_Num_fits : yX3_fits.cls ≠ "java/lang/invoke/MethodHandle" ∧ yX3_fits.cls ≠ "java/lang/invoke/VarHandle" ∧ (parseMethodDescriptor yX3_fits.desc).map (fun d => d.parameters.length) = some 1 := by decide +kernel
theorem hp_Num_fits : plainName yX3_fits.cls = true := by decide +kernel
theorem hd_Num_makePrimitive : yX3_makePrimitive.cls ≠ "java/lang/invoke/MethodHandle" ∧ yX3_makePrimitive.cls ≠ "java/lang/invoke/VarHandle" ∧ (parseMethodDescriptor yX3_makePrimitive.desc).map (fun d => d.parameters.length) = some 1 := by decide +kernel
theorem hp_Num_makePrimitive : plainName yX3_makePrimitive.cls = true := by decide +kernel
theorem hd_Num_setQuotient : yX3_setQuotient.cls ≠ "java/lang/invoke/MethodHandle" ∧ yX3_setQuotient.cls ≠ "java/lang/invoke/VarHandle" ∧ (parseMethodDescriptor yX3_setQuotient.desc).map (fun d => d.parameters.length) = some 3 := by decide +kernel
theorem hp_Num_setQuotient : plainName yX3_setQuotient.cls = true := by decide +kernel
theorem hd_Num_setSlope : yX3_setSlope.cls ≠ "java/lang/invoke/MethodHandle" ∧ yX3_setSlope.cls ≠ "java/lang/invoke/VarHandle" ∧ (parseMethodDescriptor yX3_setSlope.desc).map (fun d => d.parameters.length) = some 2 := by decide +kernel
theorem hp_Num_setSlope : plainName yX3_setSlope.cls = true := by decide +kernel
theorem hd_Pla_isInCell : yX4_isInCell.cls ≠ "java/lang/invoke/MethodHandle" ∧ yX4_isInCell.cls ≠ "java/lang/invoke/VarHandle" ∧ (parseMethodDescriptor yX4_isInCell.desc).map (fun d => d.parameters.length) = some 1 := by decide +kernel
theorem hp_Pla_isInCell : plainName yX4_isInCell.cls = true := by decide +kernel
theorem hd_Pla_makeSimple : yX4_makeSimple.cls ≠ "java/lang/invoke/MethodHandle" ∧ yX4_makeSimple.cls ≠ "java/lang/invoke/VarHandle" ∧ (parseMethodDescriptor yX4_makeSimple.desc).map (fun d => d.parameters.length) = some 0 := by decide +kernel
theorem hp_Pla_makeSimple : plainName yX4_makeSimple.cls = true := by decide +kernel
theorem hd_Pla_narrow : yX4_narrow.cls ≠ "java/lang/invoke/MethodHandle" ∧ yX4_narrow.cls ≠ "java/lang/invoke/VarHandle" ∧ (parseMethodDescriptor yX4_narrow.desc).map (fun d => d.parameters.length) = some 1 := by decide +kernel
theorem hp_Pla_narrow : plainName yX4_narrow.cls = true := by decide +kernel
theorem hd_Pla_part : yX4_part.cls ≠ "java/lang/invoke/MethodHandle" ∧ yX4_part.cls ≠ "java/lang/invoke/VarHandle" ∧ (parseMethodDescriptor yX4_part.desc).map (fun d => d.parameters.length) = some 1 := by decide +kernel
theorem hp_Pla_part : plainName yX4_part.cls = true := by decide +kernel
theorem hd_Pla_place : yX4_place.cls ≠ "java/lang/invoke/MethodHandle" ∧ yX4_place.cls ≠ "java/lang/invoke/VarHandle" ∧ (parseMethodDescriptor yX4_place.desc).map (fun d => d.parameters.length) = some 1 := by decide +kernel
theorem hp_Pla_place : plainName yX4_place.cls = true := by decide +kernel
theorem hd_Pla_refine : yX4_refine.cls ≠ "java/lang/invoke/MethodHandle" ∧ yX4_refine.cls ≠ "java/lang/invoke/VarHandle" ∧ (parseMethodDescriptor yX4_refine.desc).map (fun d => d.parameters.length) = some 1 := by decide +kernel
theorem hp_Pla_refine : plainName yX4_refine.cls = true := by decide +kernel
theorem hd_Pla_repeatsInCell : yX4_repeatsInCell.cls ≠ "java/lang/invoke/MethodHandle" ∧ yX4_repeatsInCell.cls ≠ "java/lang/invoke/VarHandle" ∧ (parseMethodDescriptor yX4_repeatsInCell.desc).map (fun d => d.parameters.length) = some 0 := by decide +kernel
theorem hp_Pla_repeatsInCell : plainName yX4_repeatsInCell.cls = true := by decide +kernel
theorem hd_Pla_rootsUpToPoint : yX4_rootsUpToPoint.cls ≠ "java/lang/invoke/MethodHandle" ∧ yX4_rootsUpToPoint.cls ≠ "java/lang/invoke/VarHandle" ∧ (parseMethodDescriptor yX4_rootsUpToPoint.desc).map (fun d => d.parameters.length) = some 0 := by decide +kernel
theorem hp_Pla_rootsUpToPoint : plainName yX4_rootsUpToPoint.cls = true := by decide +kernel
theorem hd_Pla_signOfAll : yX4_signOfAll.cls ≠ "java/lang/invoke/MethodHandle" ∧ yX4_signOfAll.cls ≠ "java/lang/invoke/VarHandle" ∧ (parseMethodDescriptor yX4_signOfAll.desc).map (fun d => d.parameters.length) = some 0 := by decide +kernel
theorem hp_Pla_signOfAll : plainName yX4_signOfAll.cls = true := by decide +kernel
theorem hd_Pla_startBrackets : yX4_startBrackets.cls ≠ "java/lang/invoke/MethodHandle" ∧ yX4_startBrackets.cls ≠ "java/lang/invoke/VarHandle" ∧ (parseMethodDescriptor yX4_startBrackets.desc).map (fun d => d.parameters.length) = some 0 := by decide +kernel
theorem hp_Pla_startBrackets : plainName yX4_startBrackets.cls = true := by decide +kernel
theorem hd_Poi_move : yX5_move.cls ≠ "java/lang/invoke/MethodHandle" ∧ yX5_move.cls ≠ "java/lang/invoke/VarHandle" ∧ (parseMethodDescriptor yX5_move.desc).map (fun d => d.parameters.length) = some 2 := by decide +kernel
theorem hp_Poi_move : plainName yX5_move.cls = true := by decide +kernel
theorem hd_Poi_moveTo : yX5_moveTo.cls ≠ "java/lang/invoke/MethodHandle" ∧ yX5_moveTo.cls ≠ "java/lang/invoke/VarHandle" ∧ (parseMethodDescriptor yX5_moveTo.desc).map (fun d => d.parameters.length) = some 2 := by decide +kernel
theorem hp_Poi_moveTo : plainName yX5_moveTo.cls = true := by decide +kernel
theorem hd_Poi_shorten : yX5_shorten.cls ≠ "java/lang/invoke/MethodHandle" ∧ yX5_shorten.cls ≠ "java/lang/invoke/VarHandle" ∧ (parseMethodDescriptor yX5_shorten.desc).map (fun d => d.parameters.length) = some 1 := by decide +kernel
theorem hp_Poi_shorten : plainName yX5_shorten.cls = true := by decide +kernel
theorem hd_Poi_signAmong : yX5_signAmong.cls ≠ "java/lang/invoke/MethodHandle" ∧ yX5_signAmong.cls ≠ "java/lang/invoke/VarHandle" ∧ (parseMethodDescriptor yX5_signAmong.desc).map (fun d => d.parameters.length) = some 3 := by decide +kernel
theorem hp_Poi_signAmong : plainName yX5_signAmong.cls = true := by decide +kernel
theorem hd_Poi_signOf : yX5_signOf.cls ≠ "java/lang/invoke/MethodHandle" ∧ yX5_signOf.cls ≠ "java/lang/invoke/VarHandle" ∧ (parseMethodDescriptor yX5_signOf.desc).map (fun d => d.parameters.length) = some 1 := by decide +kernel
theorem hp_Poi_signOf : plainName yX5_signOf.cls = true := by decide +kernel
theorem hd_Roo_areLaced : yX10_areLaced.cls ≠ "java/lang/invoke/MethodHandle" ∧ yX10_areLaced.cls ≠ "java/lang/invoke/VarHandle" ∧ (parseMethodDescriptor yX10_areLaced.desc).map (fun d => d.parameters.length) = some 2 := by decide +kernel
theorem hp_Roo_areLaced : plainName yX10_areLaced.cls = true := by decide +kernel
theorem hd_Roo_between : yX10_between.cls ≠ "java/lang/invoke/MethodHandle" ∧ yX10_between.cls ≠ "java/lang/invoke/VarHandle" ∧ (parseMethodDescriptor yX10_between.desc).map (fun d => d.parameters.length) = some 3 := by decide +kernel
theorem hp_Roo_between : plainName yX10_between.cls = true := by decide +kernel
theorem hd_Roo_chain : yX10_chain.cls ≠ "java/lang/invoke/MethodHandle" ∧ yX10_chain.cls ≠ "java/lang/invoke/VarHandle" ∧ (parseMethodDescriptor yX10_chain.desc).map (fun d => d.parameters.length) = some 2 := by decide +kernel
theorem hp_Roo_chain : plainName yX10_chain.cls = true := by decide +kernel
theorem hd_Roo_count : yX10_count.cls ≠ "java/lang/invoke/MethodHandle" ∧ yX10_count.cls ≠ "java/lang/invoke/VarHandle" ∧ (parseMethodDescriptor yX10_count.desc).map (fun d => d.parameters.length) = some 2 := by decide +kernel
theorem hp_Roo_count : plainName yX10_count.cls = true := by decide +kernel
theorem hd_Roo_end : yX10_end.cls ≠ "java/lang/invoke/MethodHandle" ∧ yX10_end.cls ≠ "java/lang/invoke/VarHandle" ∧ (parseMethodDescriptor yX10_end.desc).map (fun d => d.parameters.length) = some 1 := by decide +kernel
theorem hp_Roo_end : plainName yX10_end.cls = true := by decide +kernel
theorem hd_Roo_fails : yX10_fails.cls ≠ "java/lang/invoke/MethodHandle" ∧ yX10_fails.cls ≠ "java/lang/invoke/VarHandle" ∧ (parseMethodDescriptor yX10_fails.desc).map (fun d => d.parameters.length) = some 1 := by decide +kernel
theorem hp_Roo_fails : plainName yX10_fails.cls = true := by decide +kernel
theorem hd_Roo_fault : yX10_fault.cls ≠ "java/lang/invoke/MethodHandle" ∧ yX10_fault.cls ≠ "java/lang/invoke/VarHandle" ∧ (parseMethodDescriptor yX10_fault.desc).map (fun d => d.parameters.length) = some 0 := by decide +kernel
theorem hp_Roo_fault : plainName yX10_fault.cls = true := by decide +kernel
theorem hd_Roo_feed : yX10_feed.cls ≠ "java/lang/invoke/MethodHandle" ∧ yX10_feed.cls ≠ "java/lang/invoke/VarHandle" ∧ (parseMethodDescriptor yX10_feed.desc).map (fun d => d.parameters.length) = some 5 := by decide +kernel
theorem hp_Roo_feed : plainName yX10_feed.cls = true := by decide +kernel
theorem hd_Roo_isFactor : yX10_isFactor.cls ≠ "java/lang/invoke/MethodHandle" ∧ yX10_isFactor.cls ≠ "java/lang/invoke/VarHandle" ∧ (parseMethodDescriptor yX10_isFactor.desc).map (fun d => d.parameters.length) = some 1 := by decide +kernel
theorem hp_Roo_isFactor : plainName yX10_isFactor.cls = true := by decide +kernel
theorem hd_Roo_isFineness : yX10_isFineness.cls ≠ "java/lang/invoke/MethodHandle" ∧ yX10_isFineness.cls ≠ "java/lang/invoke/VarHandle" ∧ (parseMethodDescriptor yX10_isFineness.desc).map (fun d => d.parameters.length) = some 1 := by decide +kernel
theorem hp_Roo_isFineness : plainName yX10_isFineness.cls = true := by decide +kernel
theorem hd_Roo_isPower : yX10_isPower.cls ≠ "java/lang/invoke/MethodHandle" ∧ yX10_isPower.cls ≠ "java/lang/invoke/VarHandle" ∧ (parseMethodDescriptor yX10_isPower.desc).map (fun d => d.parameters.length) = some 1 := by decide +kernel
theorem hp_Roo_isPower : plainName yX10_isPower.cls = true := by decide +kernel
theorem hd_Roo_isTray : yX10_isTray.cls ≠ "java/lang/invoke/MethodHandle" ∧ yX10_isTray.cls ≠ "java/lang/invoke/VarHandle" ∧ (parseMethodDescriptor yX10_isTray.desc).map (fun d => d.parameters.length) = some 1 := by decide +kernel
theorem hp_Roo_isTray : plainName yX10_isTray.cls = true := by decide +kernel
theorem hd_Roo_join : yX10_join.cls ≠ "java/lang/invoke/MethodHandle" ∧ yX10_join.cls ≠ "java/lang/invoke/VarHandle" ∧ (parseMethodDescriptor yX10_join.desc).map (fun d => d.parameters.length) = some 5 := by decide +kernel
theorem hp_Roo_join : plainName yX10_join.cls = true := by decide +kernel
theorem hd_Roo_laced : yX10_laced.cls ≠ "java/lang/invoke/MethodHandle" ∧ yX10_laced.cls ≠ "java/lang/invoke/VarHandle" ∧ (parseMethodDescriptor yX10_laced.desc).map (fun d => d.parameters.length) = some 2 := by decide +kernel
theorem hp_Roo_laced : plainName yX10_laced.cls = true := by decide +kernel
theorem hd_Roo_mean : yX10_mean.cls ≠ "java/lang/invoke/MethodHandle" ∧ yX10_mean.cls ≠ "java/lang/invoke/VarHandle" ∧ (parseMethodDescriptor yX10_mean.desc).map (fun d => d.parameters.length) = some 2 := by decide +kernel
theorem hp_Roo_mean : plainName yX10_mean.cls = true := by decide +kernel
theorem hd_Roo_member : yX10_member.cls ≠ "java/lang/invoke/MethodHandle" ∧ yX10_member.cls ≠ "java/lang/invoke/VarHandle" ∧ (parseMethodDescriptor yX10_member.desc).map (fun d => d.parameters.length) = some 3 := by decide +kernel
theorem hp_Roo_member : plainName yX10_member.cls = true := by decide +kernel
theorem hd_Roo_number : yX10_number.cls ≠ "java/lang/invoke/MethodHandle" ∧ yX10_number.cls ≠ "java/lang/invoke/VarHandle" ∧ (parseMethodDescriptor yX10_number.desc).map (fun d => d.parameters.length) = some 2 := by decide +kernel
theorem hp_Roo_number : plainName yX10_number.cls = true := by decide +kernel
theorem hd_Roo_often : yX10_often.cls ≠ "java/lang/invoke/MethodHandle" ∧ yX10_often.cls ≠ "java/lang/invoke/VarHandle" ∧ (parseMethodDescriptor yX10_often.desc).map (fun d => d.parameters.length) = some 2 := by decide +kernel
theorem hp_Roo_often : plainName yX10_often.cls = true := by decide +kernel
theorem hd_Roo_operate : yX10_operate.cls ≠ "java/lang/invoke/MethodHandle" ∧ yX10_operate.cls ≠ "java/lang/invoke/VarHandle" ∧ (parseMethodDescriptor yX10_operate.desc).map (fun d => d.parameters.length) = some 4 := by decide +kernel
theorem hp_Roo_operate : plainName yX10_operate.cls = true := by decide +kernel
theorem hd_Roo_put : yX10_put.cls ≠ "java/lang/invoke/MethodHandle" ∧ yX10_put.cls ≠ "java/lang/invoke/VarHandle" ∧ (parseMethodDescriptor yX10_put.desc).map (fun d => d.parameters.length) = some 3 := by decide +kernel
theorem hp_Roo_put : plainName yX10_put.cls = true := by decide +kernel
theorem hd_Roo_read : yX10_read.cls ≠ "java/lang/invoke/MethodHandle" ∧ yX10_read.cls ≠ "java/lang/invoke/VarHandle" ∧ (parseMethodDescriptor yX10_read.desc).map (fun d => d.parameters.length) = some 1 := by decide +kernel
theorem hp_Roo_read : plainName yX10_read.cls = true := by decide +kernel
theorem hd_Roo_root : yX10_root.cls ≠ "java/lang/invoke/MethodHandle" ∧ yX10_root.cls ≠ "java/lang/invoke/VarHandle" ∧ (parseMethodDescriptor yX10_root.desc).map (fun d => d.parameters.length) = some 3 := by decide +kernel
theorem hp_Roo_root : plainName yX10_root.cls = true := by decide +kernel
theorem hd_Roo_row : yX10_row.cls ≠ "java/lang/invoke/MethodHandle" ∧ yX10_row.cls ≠ "java/lang/invoke/VarHandle" ∧ (parseMethodDescriptor yX10_row.desc).map (fun d => d.parameters.length) = some 2 := by decide +kernel
theorem hp_Roo_row : plainName yX10_row.cls = true := by decide +kernel
theorem hd_Roo_sign : yX10_sign.cls ≠ "java/lang/invoke/MethodHandle" ∧ yX10_sign.cls ≠ "java/lang/invoke/VarHandle" ∧ (parseMethodDescriptor yX10_sign.desc).map (fun d => d.parameters.length) = some 3 := by decide +kernel
theorem hp_Roo_sign : plainName yX10_sign.cls = true := by decide +kernel
theorem hd_Roo_times : yX10_times.cls ≠ "java/lang/invoke/MethodHandle" ∧ yX10_times.cls ≠ "java/lang/invoke/VarHandle" ∧ (parseMethodDescriptor yX10_times.desc).map (fun d => d.parameters.length) = some 3 := by decide +kernel
theorem hp_Roo_times : plainName yX10_times.cls = true := by decide +kernel
theorem hd_Row_firstAgainstNewton : yX6_firstAgainstNewton.cls ≠ "java/lang/invoke/MethodHandle" ∧ yX6_firstAgainstNewton.cls ≠ "java/lang/invoke/VarHandle" ∧ (parseMethodDescriptor yX6_firstAgainstNewton.desc).map (fun d => d.parameters.length) = some 2 := by decide +kernel
theorem hp_Row_firstAgainstNewton : plainName yX6_firstAgainstNewton.cls = true := by decide +kernel
theorem hd_Row_firstNotConcave : yX6_firstNotConcave.cls ≠ "java/lang/invoke/MethodHandle" ∧ yX6_firstNotConcave.cls ≠ "java/lang/invoke/VarHandle" ∧ (parseMethodDescriptor yX6_firstNotConcave.desc).map (fun d => d.parameters.length) = some 2 := by decide +kernel
theorem hp_Row_firstNotConcave : plainName yX6_firstNotConcave.cls = true := by decide +kernel
theorem hd_Row_hasHump : yX6_hasHump.cls ≠ "java/lang/invoke/MethodHandle" ∧ yX6_hasHump.cls ≠ "java/lang/invoke/VarHandle" ∧ (parseMethodDescriptor yX6_hasHump.desc).map (fun d => d.parameters.length) = some 2 := by decide +kernel
theorem hp_Row_hasHump : plainName yX6_hasHump.cls = true := by decide +kernel
theorem hd_Row_holes : yX6_holes.cls ≠ "java/lang/invoke/MethodHandle" ∧ yX6_holes.cls ≠ "java/lang/invoke/VarHandle" ∧ (parseMethodDescriptor yX6_holes.desc).map (fun d => d.parameters.length) = some 2 := by decide +kernel
theorem hp_Row_holes : plainName yX6_holes.cls = true := by decide +kernel
theorem hd_Row_isCounts : yX6_isCounts.cls ≠ "java/lang/invoke/MethodHandle" ∧ yX6_isCounts.cls ≠ "java/lang/invoke/VarHandle" ∧ (parseMethodDescriptor yX6_isCounts.desc).map (fun d => d.parameters.length) = some 1 := by decide +kernel
theorem hp_Row_isCounts : plainName yX6_isCounts.cls = true := by decide +kernel
theorem hd_Row_modes : yX6_modes.cls ≠ "java/lang/invoke/MethodHandle" ∧ yX6_modes.cls ≠ "java/lang/invoke/VarHandle" ∧ (parseMethodDescriptor yX6_modes.desc).map (fun d => d.parameters.length) = some 2 := by decide +kernel
theorem hp_Row_modes : plainName yX6_modes.cls = true := by decide +kernel
theorem hd_Seq_changesBelow : yX7_changesBelow.cls ≠ "java/lang/invoke/MethodHandle" ∧ yX7_changesBelow.cls ≠ "java/lang/invoke/VarHandle" ∧ (parseMethodDescriptor yX7_changesBelow.desc).map (fun d => d.parameters.length) = some 0 := by decide +kernel
theorem hp_Seq_changesBelow : plainName yX7_changesBelow.cls = true := by decide +kernel
theorem hd_Seq_copyDivisor : yX7_copyDivisor.cls ≠ "java/lang/invoke/MethodHandle" ∧ yX7_copyDivisor.cls ≠ "java/lang/invoke/VarHandle" ∧ (parseMethodDescriptor yX7_copyDivisor.desc).map (fun d => d.parameters.length) = some 1 := by decide +kernel
theorem hp_Seq_copyDivisor : plainName yX7_copyDivisor.cls = true := by decide +kernel
theorem hd_Seq_formRest : yX7_formRest.cls ≠ "java/lang/invoke/MethodHandle" ∧ yX7_formRest.cls ≠ "java/lang/invoke/VarHandle" ∧ (parseMethodDescriptor yX7_formRest.desc).map (fun d => d.parameters.length) = some 1 := by decide +kernel
theorem hp_Seq_formRest : plainName yX7_formRest.cls = true := by decide +kernel
theorem hd_Seq_jumps : yX7_jumps.cls ≠ "java/lang/invoke/MethodHandle" ∧ yX7_jumps.cls ≠ "java/lang/invoke/VarHandle" ∧ (parseMethodDescriptor yX7_jumps.desc).map (fun d => d.parameters.length) = some 0 := by decide +kernel
theorem hp_Seq_jumps : plainName yX7_jumps.cls = true := by decide +kernel
theorem hd_Seq_lastDegree : yX7_lastDegree.cls ≠ "java/lang/invoke/MethodHandle" ∧ yX7_lastDegree.cls ≠ "java/lang/invoke/VarHandle" ∧ (parseMethodDescriptor yX7_lastDegree.desc).map (fun d => d.parameters.length) = some 0 := by decide +kernel
theorem hp_Seq_lastDegree : plainName yX7_lastDegree.cls = true := by decide +kernel
theorem hd_Seq_load : yX7_load.cls ≠ "java/lang/invoke/MethodHandle" ∧ yX7_load.cls ≠ "java/lang/invoke/VarHandle" ∧ (parseMethodDescriptor yX7_load.desc).map (fun d => d.parameters.length) = some 2 := by decide +kernel
theorem hp_Seq_load : plainName yX7_load.cls = true := by decide +kernel
theorem hd_Seq_raiseHeight : yX7_raiseHeight.cls ≠ "java/lang/invoke/MethodHandle" ∧ yX7_raiseHeight.cls ≠ "java/lang/invoke/VarHandle" ∧ (parseMethodDescriptor yX7_raiseHeight.desc).map (fun d => d.parameters.length) = some 1 := by decide +kernel
theorem hp_Seq_raiseHeight : plainName yX7_raiseHeight.cls = true := by decide +kernel
theorem hd_Seq_restDegree : yX7_restDegree.cls ≠ "java/lang/invoke/MethodHandle" ∧ yX7_restDegree.cls ≠ "java/lang/invoke/VarHandle" ∧ (parseMethodDescriptor yX7_restDegree.desc).map (fun d => d.parameters.length) = some 1 := by decide +kernel
theorem hp_Seq_restDegree : plainName yX7_restDegree.cls = true := by decide +kernel
theorem hd_Seq_run : yX7_run.cls ≠ "java/lang/invoke/MethodHandle" ∧ yX7_run.cls ≠ "java/lang/invoke/VarHandle" ∧ (parseMethodDescriptor yX7_run.desc).map (fun d => d.parameters.length) = some 2 := by decide +kernel
theorem hp_Seq_run : plainName yX7_run.cls = true := by decide +kernel
theorem hd_Seq_shortenRest : yX7_shortenRest.cls ≠ "java/lang/invoke/MethodHandle" ∧ yX7_shortenRest.cls ≠ "java/lang/invoke/VarHandle" ∧ (parseMethodDescriptor yX7_shortenRest.desc).map (fun d => d.parameters.length) = some 2 := by decide +kernel
theorem hp_Seq_shortenRest : plainName yX7_shortenRest.cls = true := by decide +kernel
theorem hd_Tap_addTerm : yX8_addTerm.cls ≠ "java/lang/invoke/MethodHandle" ∧ yX8_addTerm.cls ≠ "java/lang/invoke/VarHandle" ∧ (parseMethodDescriptor yX8_addTerm.desc).map (fun d => d.parameters.length) = some 0 := by decide +kernel
theorem hp_Tap_addTerm : plainName yX8_addTerm.cls = true := by decide +kernel
theorem hd_Tap_append : yX8_append.cls ≠ "java/lang/invoke/MethodHandle" ∧ yX8_append.cls ≠ "java/lang/invoke/VarHandle" ∧ (parseMethodDescriptor yX8_append.desc).map (fun d => d.parameters.length) = some 1 := by decide +kernel
theorem hp_Tap_append : plainName yX8_append.cls = true := by decide +kernel
theorem hd_Tap_hasRoom : yX8_hasRoom.cls ≠ "java/lang/invoke/MethodHandle" ∧ yX8_hasRoom.cls ≠ "java/lang/invoke/VarHandle" ∧ (parseMethodDescriptor yX8_hasRoom.desc).map (fun d => d.parameters.length) = some 0 := by decide +kernel
theorem hp_Tap_hasRoom : plainName yX8_hasRoom.cls = true := by decide +kernel
theorem hd_Tap_isDigit : yX8_isDigit.cls ≠ "java/lang/invoke/MethodHandle" ∧ yX8_isDigit.cls ≠ "java/lang/invoke/VarHandle" ∧ (parseMethodDescriptor yX8_isDigit.desc).map (fun d => d.parameters.length) = some 1 := by decide +kernel
theorem hp_Tap_isDigit : plainName yX8_isDigit.cls = true := by decide +kernel
theorem hd_Tap_isTermWhole : yX8_isTermWhole.cls ≠ "java/lang/invoke/MethodHandle" ∧ yX8_isTermWhole.cls ≠ "java/lang/invoke/VarHandle" ∧ (parseMethodDescriptor yX8_isTermWhole.desc).map (fun d => d.parameters.length) = some 0 := by decide +kernel
theorem hp_Tap_isTermWhole : plainName yX8_isTermWhole.cls = true := by decide +kernel
theorem hd_Tap_numberEnd : yX8_numberEnd.cls ≠ "java/lang/invoke/MethodHandle" ∧ yX8_numberEnd.cls ≠ "java/lang/invoke/VarHandle" ∧ (parseMethodDescriptor yX8_numberEnd.desc).map (fun d => d.parameters.length) = some 1 := by decide +kernel
theorem hp_Tap_numberEnd : plainName yX8_numberEnd.cls = true := by decide +kernel
theorem hd_Tap_parse : yX8_parse.cls ≠ "java/lang/invoke/MethodHandle" ∧ yX8_parse.cls ≠ "java/lang/invoke/VarHandle" ∧ (parseMethodDescriptor yX8_parse.desc).map (fun d => d.parameters.length) = some 0 := by decide +kernel
theorem hp_Tap_parse : plainName yX8_parse.cls = true := by decide +kernel
theorem hd_Tap_parseTokens : yX8_parseTokens.cls ≠ "java/lang/invoke/MethodHandle" ∧ yX8_parseTokens.cls ≠ "java/lang/invoke/VarHandle" ∧ (parseMethodDescriptor yX8_parseTokens.desc).map (fun d => d.parameters.length) = some 0 := by decide +kernel
theorem hp_Tap_parseTokens : plainName yX8_parseTokens.cls = true := by decide +kernel
theorem hd_Tap_startTerm : yX8_startTerm.cls ≠ "java/lang/invoke/MethodHandle" ∧ yX8_startTerm.cls ≠ "java/lang/invoke/VarHandle" ∧ (parseMethodDescriptor yX8_startTerm.desc).map (fun d => d.parameters.length) = some 1 := by decide +kernel
theorem hp_Tap_startTerm : plainName yX8_startTerm.cls = true := by decide +kernel
theorem hd_Tap_startText : yX8_startText.cls ≠ "java/lang/invoke/MethodHandle" ∧ yX8_startText.cls ≠ "java/lang/invoke/VarHandle" ∧ (parseMethodDescriptor yX8_startText.desc).map (fun d => d.parameters.length) = some 0 := by decide +kernel
theorem hp_Tap_startText : plainName yX8_startText.cls = true := by decide +kernel
theorem hd_Tap_takeByte : yX8_takeByte.cls ≠ "java/lang/invoke/MethodHandle" ∧ yX8_takeByte.cls ≠ "java/lang/invoke/VarHandle" ∧ (parseMethodDescriptor yX8_takeByte.desc).map (fun d => d.parameters.length) = some 1 := by decide +kernel
theorem hp_Tap_takeByte : plainName yX8_takeByte.cls = true := by decide +kernel
theorem hd_Tap_takeNumber : yX8_takeNumber.cls ≠ "java/lang/invoke/MethodHandle" ∧ yX8_takeNumber.cls ≠ "java/lang/invoke/VarHandle" ∧ (parseMethodDescriptor yX8_takeNumber.desc).map (fun d => d.parameters.length) = some 1 := by decide +kernel
theorem hp_Tap_takeNumber : plainName yX8_takeNumber.cls = true := by decide +kernel
theorem hd_Tap_valueOf : yX8_valueOf.cls ≠ "java/lang/invoke/MethodHandle" ∧ yX8_valueOf.cls ≠ "java/lang/invoke/VarHandle" ∧ (parseMethodDescriptor yX8_valueOf.desc).map (fun d => d.parameters.length) = some 2 := by decide +kernel
theorem hp_Tap_valueOf : plainName yX8_valueOf.cls = true := by decide +kernel
theorem hd_Tra_change : yX9_change.cls ≠ "java/lang/invoke/MethodHandle" ∧ yX9_change.cls ≠ "java/lang/invoke/VarHandle" ∧ (parseMethodDescriptor yX9_change.desc).map (fun d => d.parameters.length) = some 2 := by decide +kernel
theorem hp_Tra_change : plainName yX9_change.cls = true := by decide +kernel
theorem hd_Tra_firstFailure : yX9_firstFailure.cls ≠ "java/lang/invoke/MethodHandle" ∧ yX9_firstFailure.cls ≠ "java/lang/invoke/VarHandle" ∧ (parseMethodDescriptor yX9_firstFailure.desc).map (fun d => d.parameters.length) = some 0 := by decide +kernel
theorem hp_Tra_firstFailure : plainName yX9_firstFailure.cls = true := by decide +kernel
theorem hd_Tra_floorOf : yX9_floorOf.cls ≠ "java/lang/invoke/MethodHandle" ∧ yX9_floorOf.cls ≠ "java/lang/invoke/VarHandle" ∧ (parseMethodDescriptor yX9_floorOf.desc).map (fun d => d.parameters.length) = some 1 := by decide +kernel
theorem hp_Tra_floorOf : plainName yX9_floorOf.cls = true := by decide +kernel
theorem hd_Tra_forget : yX9_forget.cls ≠ "java/lang/invoke/MethodHandle" ∧ yX9_forget.cls ≠ "java/lang/invoke/VarHandle" ∧ (parseMethodDescriptor yX9_forget.desc).map (fun d => d.parameters.length) = some 0 := by decide +kernel
theorem hp_Tra_forget : plainName yX9_forget.cls = true := by decide +kernel
theorem hd_Tra_placeOfRoot : yX9_placeOfRoot.cls ≠ "java/lang/invoke/MethodHandle" ∧ yX9_placeOfRoot.cls ≠ "java/lang/invoke/VarHandle" ∧ (parseMethodDescriptor yX9_placeOfRoot.desc).map (fun d => d.parameters.length) = some 1 := by decide +kernel
theorem hp_Tra_placeOfRoot : plainName yX9_placeOfRoot.cls = true := by decide +kernel
theorem hd_Tra_rootsUpTo : yX9_rootsUpTo.cls ≠ "java/lang/invoke/MethodHandle" ∧ yX9_rootsUpTo.cls ≠ "java/lang/invoke/VarHandle" ∧ (parseMethodDescriptor yX9_rootsUpTo.desc).map (fun d => d.parameters.length) = some 1 := by decide +kernel
theorem hp_Tra_rootsUpTo : plainName yX9_rootsUpTo.cls = true := by decide +kernel
theorem hd_Tra_take : yX9_take.cls ≠ "java/lang/invoke/MethodHandle" ∧ yX9_take.cls ≠ "java/lang/invoke/VarHandle" ∧ (parseMethodDescriptor yX9_take.desc).map (fun d => d.parameters.length) = some 1 := by decide +kernel
theorem hp_Tra_take : plainName yX9_take.cls = true := by decide +kernel
