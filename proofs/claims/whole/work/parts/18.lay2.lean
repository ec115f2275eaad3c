theorem lx_world {D : va_G} {cy : Nat → ClassId} {b n : Nat} {f1 : Nat → va_E} {H : Heap} (h : rc_roo cy b 1 0 f1) (hn : 341 ≤ n) (hP : rc_H D b n f1 H) : rr_P (GX D cy b) (sX b) H := by
  intro k q hk
  simp only [rr_w, va_pl, GX, List.map_map, List.getElem?_map, Option.map_eq_some_iff] at hk
  obtain ⟨i, hi, rfl⟩ := hk
  have hi2 := (List.getElem?_eq_some_iff.mp hi).1
  have hi3 := (List.getElem?_eq_some_iff.mp hi).2
  simp only [List.length_range] at hi2
  simp only [List.getElem_range] at hi3
  subst hi3
  exact rl_at (lx_cells (D := D) h k hi2) (hP.2 k _ (rc_at (by omega)))
theorem rt_hi {c n k : Nat} (hc : c < 14) (hk : 15 ≤ k) : rr_rt c n k = none := by
  rcases (by omega : c = 0 ∨ c = 1 ∨ c = 2 ∨ c = 3 ∨ c = 4 ∨ c = 5 ∨ c = 6 ∨ c = 7 ∨ c = 8 ∨ c = 9 ∨ c = 10 ∨ c = 11 ∨ c = 12 ∨ c = 13) with h | h | h | h | h | h | h | h | h | h | h | h | h | h <;> subst h <;> unfold rr_rt <;> (try dsimp only) <;> (repeat rw [if_neg (by omega)]) <;> (try rfl)
def lx_ck (i k : Nat) : Bool := match rr_rt (KX i) (NX i) k with
  | none => true
  | some t => decide (RX i k < 341) && decide (KX (RX i k) = t)
theorem lx_ck1 : ∀ i, i < 341 → ∀ k, k < 15 → lx_ck i k = true := by decide +kernel
theorem lx_ck2 : ∀ k, k < 90 → lx_ck 64 k = true := by decide +kernel
theorem lx_ks : ∀ i, i < 341 → KX i < 14 ∨ i = 1 ∨ i = 64 ∨ i = 67 ∨ i = 283 ∨ i = 307 ∨ i = 320 := by decide +kernel
theorem lx_ckk {i k t : Nat} (h : lx_ck i k = true) (ht : rr_rt (KX i) (NX i) k = some t) : RX i k < 341 ∧ KX (RX i k) = t := by
  unfold lx_ck at h
  rw [ht] at h
  simpa using h
theorem rt_len {c n k t : Nat} (hc : c = 14 ∨ c = 15 ∨ c = 16) (h : rr_rt c n k = some t) : k < n := by
  by_cases q : k < n
  · exact q
  · exfalso
    rcases hc with e | e | e <;> subst e
    · have h2 : (if k < n then some 0 else none) = some t := h
      rw [if_neg q] at h2; cases h2
    · have h2 : (if k < n then some 7 else none) = some t := h
      rw [if_neg q] at h2; cases h2
    · have h2 : (if k < n then some 12 else none) = some t := h
      rw [if_neg q] at h2; cases h2
theorem lx_T (D : va_G) (cy : Nat → ClassId) (b : Nat) : rr_T (GX D cy b) (sX b) := by
  intro a ha k t ht
  obtain ⟨i, hi, rfl⟩ := rl_mem.mp ha
  rw [rl_K, rl_N] at ht
  rw [lx_r, rl_K]
  have key : RX i k < 341 ∧ KX (RX i k) = t := by
    by_cases hk : k < 15
    · exact lx_ckk (lx_ck1 i hi k hk) ht
    · rcases lx_ks i hi with h | h | h | h | h | h | h
      · rw [rt_hi h (by omega)] at ht; cases ht
      all_goals subst h
      · exact absurd (rt_len (c := KX 1) (by decide) ht) (by have e : NX 1 = 8 := by decide
                                                             omega)
      · have e : NX 64 = 90 := by decide
        have h9 := rt_len (c := KX 64) (by decide) ht
        exact lx_ckk (lx_ck2 k (by omega)) ht
      all_goals exact absurd (rt_len (by decide) ht) (by have e1 : NX 67 = 9 := by decide
                                                         have e2 : NX 283 = 9 := by decide
                                                         have e3 : NX 307 = 9 := by decide
                                                         have e4 : NX 320 = 9 := by decide
                                                         omega)
  exact ⟨rl_mem.mpr ⟨_, key.1, rfl⟩, key.2⟩
theorem lm_cells {D : va_G} {cy : Nat → ClassId} {b : Nat} {f1 : Nat → va_E} (h : f1 0 = .inr (9, [.int 0, .ref (b + 1), .ref (b + (1 + 1)), .ref (b + (1 + 2)), .ref (b + (1 + 3)), .ref (b + (1 + 4)), .ref (b + (1 + 5)), .ref (b + (1 + 6)), .ref (b + (1 + 7)), .ref (b + (1 + 8)), .ref (b + (1 + 9)), .int 0, .ref (b + (1 + 10)), .ref (b + (1 + 11)), .int 0, .int 0, .int 0, .int 0]) ∧ f1 1 = .inl (cy 11, 92000, .inl (fun _ => 0)) ∧ f1 2 = .inl (cy 11, 460, .inl (fun _ => 0)) ∧ f1 3 = .inl (cy 11, 460, .inl (fun _ => 0)) ∧ f1 4 = .inl (cy 12, 401, .inr (.inl (fun _ => 0))) ∧ f1 5 = .inl (cy 12, 201, .inr (.inl (fun _ => 0))) ∧ f1 6 = .inl (cy 11, 48, .inl (fun _ => 0)) ∧ f1 7 = .inl (cy 11, 48, .inl (fun _ => 0)) ∧ f1 8 = .inl (cy 12, 207, .inr (.inl (fun _ => 0))) ∧ f1 9 = .inl (cy 11, 9, .inl (fun _ => 0)) ∧ f1 10 = .inl (cy 11, 9, .inl (fun _ => 0)) ∧ f1 11 = .inl (cy 12, 81, .inr (.inl (fun _ => 0))) ∧ f1 12 = .inl (cy 10, 200, .inl (fun _ => 0))) : ∀ i, i < 13 → rl_eq (f1 i) (rr_ce (GM D cy b) (sM b) (b + i)) := by
  obtain ⟨s_h, s_1, s_2, s_3, s_4, s_5, s_6, s_7, s_8, s_9, s_10, s_11, s_12⟩ := h
  intro i hi
  rcases (by omega : i = 0 ∨ i = 1 ∨ i = 2 ∨ i = 3 ∨ i = 4 ∨ i = 5 ∨ i = 6 ∨ i = 7 ∨ i = 8 ∨ i = 9 ∨ i = 10 ∨ i = 11 ∨ i = 12) with hc | hc | hc | hc | hc | hc | hc | hc | hc | hc | hc | hc | hc <;> subst hc
  · rw [s_h, rr_cO (ci := 9) ((rm_K D cy b 0).trans (by decide)) (by decide)]
    show _ = _
    congr 1
    show _ = [Value.int (mg_i (sM b) (b + 0) 0), Value.ref (mg_r (sM b) (b + 0) 1), Value.ref (mg_r (sM b) (b + 0) 2), Value.ref (mg_r (sM b) (b + 0) 3), Value.ref (mg_r (sM b) (b + 0) 4), Value.ref (mg_r (sM b) (b + 0) 5), Value.ref (mg_r (sM b) (b + 0) 6), Value.ref (mg_r (sM b) (b + 0) 7), Value.ref (mg_r (sM b) (b + 0) 8), Value.ref (mg_r (sM b) (b + 0) 9), Value.ref (mg_r (sM b) (b + 0) 10), Value.int (mg_i (sM b) (b + 0) 11), Value.ref (mg_r (sM b) (b + 0) 12), Value.ref (mg_r (sM b) (b + 0) 13), Value.int (mg_i (sM b) (b + 0) 14), Value.int (mg_i (sM b) (b + 0) 15), Value.int (mg_i (sM b) (b + 0) 16), Value.int (mg_i (sM b) (b + 0) 17)]
    simp only [lm_r]
    rfl
  · rw [s_1, rr_cI (k := 11) ((rm_K D cy b 1).trans (by decide)) (by decide), rm_N]
    exact ⟨rfl, rfl, fun j _ => rfl⟩
  · rw [s_2, rr_cI (k := 11) ((rm_K D cy b 2).trans (by decide)) (by decide), rm_N]
    exact ⟨rfl, rfl, fun j _ => rfl⟩
  · rw [s_3, rr_cI (k := 11) ((rm_K D cy b 3).trans (by decide)) (by decide), rm_N]
    exact ⟨rfl, rfl, fun j _ => rfl⟩
  · rw [s_4, rr_cJ ((rm_K D cy b 4).trans (by decide)), rm_N]
    exact ⟨rfl, rfl, fun j _ => rfl⟩
  · rw [s_5, rr_cJ ((rm_K D cy b 5).trans (by decide)), rm_N]
    exact ⟨rfl, rfl, fun j _ => rfl⟩
  · rw [s_6, rr_cI (k := 11) ((rm_K D cy b 6).trans (by decide)) (by decide), rm_N]
    exact ⟨rfl, rfl, fun j _ => rfl⟩
  · rw [s_7, rr_cI (k := 11) ((rm_K D cy b 7).trans (by decide)) (by decide), rm_N]
    exact ⟨rfl, rfl, fun j _ => rfl⟩
  · rw [s_8, rr_cJ ((rm_K D cy b 8).trans (by decide)), rm_N]
    exact ⟨rfl, rfl, fun j _ => rfl⟩
  · rw [s_9, rr_cI (k := 11) ((rm_K D cy b 9).trans (by decide)) (by decide), rm_N]
    exact ⟨rfl, rfl, fun j _ => rfl⟩
  · rw [s_10, rr_cI (k := 11) ((rm_K D cy b 10).trans (by decide)) (by decide), rm_N]
    exact ⟨rfl, rfl, fun j _ => rfl⟩
  · rw [s_11, rr_cJ ((rm_K D cy b 11).trans (by decide)), rm_N]
    exact ⟨rfl, rfl, fun j _ => rfl⟩
  · rw [s_12, rr_cI (k := 10) ((rm_K D cy b 12).trans (by decide)) (by decide), rm_N]
    exact ⟨rfl, rfl, fun j _ => rfl⟩
theorem lm_world {D : va_G} {cy : Nat → ClassId} {b n c : Nat} {f1 : Nat → va_E} {H : Heap} (hc : c = b + 341) (hh : ∀ i, i < 13 → rl_eq (f1 (341 + i)) (rr_ce (GM D cy c) (sM c) (c + i))) (hn : 354 ≤ n) (hP : rc_H D b n f1 H) : rr_P (GM D cy c) (sM c) H := by
  intro k q hk
  simp only [rr_w, va_pl, GM, List.map_map, List.getElem?_map, Option.map_eq_some_iff] at hk
  obtain ⟨i, hi, rfl⟩ := hk
  have hi2 := (List.getElem?_eq_some_iff.mp hi).1
  have hi3 := (List.getElem?_eq_some_iff.mp hi).2
  simp only [List.length_range] at hi2
  simp only [List.getElem_range] at hi3
  subst hi3
  have h9 := hP.2 (341 + k) _ (rc_at (by omega))
  rw [show b + (341 + k) = c + k by omega] at h9
  exact rl_at (hh k hi2) h9
theorem lm_T (D : va_G) (cy : Nat → ClassId) (b : Nat) : rr_T (GM D cy b) (sM b) := by
  intro a ha k t ht
  obtain ⟨i, hi, rfl⟩ := rl_mem.mp ha
  rw [rm_K, rm_N] at ht
  rw [lm_r, rm_K]
  have ck : ∀ i, i < 13 → KM i < 10 ∨ rr_rt (KM i) (NM i) = fun _ => none := by
    intro i hi
    rcases (by omega : i = 0 ∨ i = 1 ∨ i = 2 ∨ i = 3 ∨ i = 4 ∨ i = 5 ∨ i = 6 ∨ i = 7 ∨ i = 8 ∨ i = 9 ∨ i = 10 ∨ i = 11 ∨ i = 12) with hc | hc | hc | hc | hc | hc | hc | hc | hc | hc | hc | hc | hc <;> subst hc <;> first | exact Or.inl (by decide) | exact Or.inr rfl
  rcases ck i hi with h | h
  · have hi0 : i = 0 := (by decide : ∀ i, i < 13 → KM i < 10 → i = 0) i hi h
    subst hi0
    have hk : k < 18 := by
      by_cases q : k < 18
      · exact q
      · exfalso
        rw [show rr_rt (KM 0) (NM 0) k = none from rt_hi (c := KM 0) (by decide) (by omega)] at ht
        cases ht
    have key : ∀ k, k < 18 → ∀ t, t < 20 → rr_rt (KM 0) (NM 0) k = some t → RM 0 k < 13 ∧ KM (RM 0 k) = t := by decide
    have ht20 : t < 20 := (by decide : ∀ k, k < 18 → ((rr_rt (KM 0) (NM 0) k).getD 0) < 20) k hk |> fun q => by rw [ht] at q; exact q
    obtain ⟨h1, h2⟩ := key k hk t ht20 ht
    exact ⟨rl_mem.mpr ⟨_, h1, rfl⟩, h2⟩
  · rw [h] at ht
    cases ht
