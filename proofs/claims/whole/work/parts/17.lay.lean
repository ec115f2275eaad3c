/-! where everything lies: kinds, lengths, references by offset from the base -/
def lx_K : List Nat := [8, 15, 7, 12, 11, 11, 12, 13, 11, 7, 12, 11, 11, 12, 13, 11, 7, 12, 11, 11, 12, 13, 11, 7, 12, 11, 11, 12, 13, 11, 7, 12, 11, 11, 12, 13, 11, 7, 12, 11, 11, 12, 13, 11, 7, 12, 11, 11, 12, 13, 11, 7, 12, 11, 11, 12, 13, 11, 6, 11, 12, 2, 12, 5, 14, 11, 11, 14, 0, 12, 0, 12, 0, 12, 0, 12, 0, 12, 0, 12, 0, 12, 0, 12, 0, 12, 0, 12, 0, 12, 0, 12, 0, 12, 0, 12, 0, 12, 0, 12, 0, 12, 0, 12, 0, 12, 0, 12, 0, 12, 0, 12, 0, 12, 0, 12, 0, 12, 0, 12, 0, 12, 0, 12, 0, 12, 0, 12, 0, 12, 0, 12, 0, 12, 0, 12, 0, 12, 0, 12, 0, 12, 0, 12, 0, 12, 0, 12, 0, 12, 0, 12, 0, 12, 0, 12, 0, 12, 0, 12, 0, 12, 0, 12, 0, 12, 0, 12, 0, 12, 0, 12, 0, 12, 0, 12, 0, 12, 0, 12, 0, 12, 0, 12, 0, 12, 0, 12, 0, 12, 0, 12, 0, 12, 0, 12, 0, 12, 0, 12, 0, 12, 0, 12, 0, 12, 0, 12, 0, 12, 0, 12, 0, 12, 0, 12, 0, 12, 0, 12, 0, 12, 0, 12, 0, 12, 0, 12, 0, 12, 0, 12, 0, 12, 0, 12, 0, 12, 0, 12, 0, 12, 0, 12, 0, 12, 0, 12, 0, 12, 0, 12, 0, 12, 0, 12, 0, 12, 0, 12, 0, 12, 0, 12, 0, 12, 0, 12, 0, 12, 0, 12, 0, 12, 0, 12, 0, 12, 0, 12, 4, 0, 12, 14, 0, 12, 0, 12, 0, 12, 0, 12, 0, 12, 0, 12, 0, 12, 0, 12, 0, 12, 0, 12, 0, 12, 1, 16, 12, 12, 12, 12, 12, 12, 12, 12, 12, 11, 12, 3, 16, 12, 12, 12, 12, 12, 12, 12, 12, 12, 12, 12, 12, 11, 11, 0, 12, 0, 12, 0, 12]
def lx_N : List Nat := [0, 8, 0, 9, 10, 10, 8, 8, 8, 0, 9, 10, 10, 8, 8, 8, 0, 9, 10, 10, 8, 8, 8, 0, 9, 10, 10, 8, 8, 8, 0, 9, 10, 10, 8, 8, 8, 0, 9, 10, 10, 8, 8, 8, 0, 9, 10, 10, 8, 8, 8, 0, 9, 10, 10, 8, 8, 8, 0, 200, 9, 0, 17, 0, 90, 10, 10, 9, 0, 96, 0, 96, 0, 96, 0, 96, 0, 24, 0, 24, 0, 24, 0, 24, 0, 24, 0, 24, 0, 24, 0, 24, 0, 24, 0, 24, 0, 24, 0, 24, 0, 24, 0, 24, 0, 24, 0, 24, 0, 24, 0, 24, 0, 24, 0, 24, 0, 24, 0, 24, 0, 24, 0, 24, 0, 24, 0, 24, 0, 24, 0, 24, 0, 24, 0, 24, 0, 24, 0, 24, 0, 24, 0, 24, 0, 24, 0, 24, 0, 24, 0, 24, 0, 24, 0, 24, 0, 24, 0, 24, 0, 24, 0, 24, 0, 24, 0, 24, 0, 24, 0, 24, 0, 24, 0, 24, 0, 24, 0, 24, 0, 24, 0, 24, 0, 24, 0, 24, 0, 24, 0, 24, 0, 24, 0, 24, 0, 24, 0, 24, 0, 24, 0, 24, 0, 24, 0, 24, 0, 24, 0, 24, 0, 24, 0, 24, 0, 24, 0, 24, 0, 24, 0, 24, 0, 24, 0, 24, 0, 24, 0, 24, 0, 24, 0, 24, 0, 24, 0, 24, 0, 24, 0, 24, 0, 24, 0, 24, 0, 24, 0, 24, 0, 24, 0, 24, 0, 24, 0, 24, 0, 24, 0, 96, 0, 96, 0, 96, 0, 96, 0, 96, 0, 96, 0, 96, 0, 96, 0, 96, 0, 0, 20, 9, 0, 96, 0, 96, 0, 4, 0, 4, 0, 4, 0, 4, 0, 4, 0, 4, 0, 4, 0, 4, 0, 4, 0, 9, 9, 9, 9, 9, 9, 9, 9, 9, 9, 9, 9, 0, 9, 9, 9, 9, 9, 9, 9, 9, 9, 9, 9, 8, 8, 8, 8, 0, 20, 0, 20, 0, 4]
def lx_R : List (List Nat) := [[1, 58, 61, 306, 319, 63, 280], [2, 9, 16, 23, 30, 37, 44, 51], [3, 0, 0, 0, 0, 0, 0, 4, 5, 0, 6, 7, 8], [], [], [], [], [], [], [10, 0, 0, 0, 0, 0, 0, 11, 12, 0, 13, 14, 15], [], [], [], [], [], [], [17, 0, 0, 0, 0, 0, 0, 18, 19, 0, 20, 21, 22], [], [], [], [], [], [], [24, 0, 0, 0, 0, 0, 0, 25, 26, 0, 27, 28, 29], [], [], [], [], [], [], [31, 0, 0, 0, 0, 0, 0, 32, 33, 0, 34, 35, 36], [], [], [], [], [], [], [38, 0, 0, 0, 0, 0, 0, 39, 40, 0, 41, 42, 43], [], [], [], [], [], [], [45, 0, 0, 0, 0, 0, 0, 46, 47, 0, 48, 49, 50], [], [], [], [], [], [], [52, 0, 0, 0, 0, 0, 0, 53, 54, 0, 55, 56, 57], [], [], [], [], [], [], [59, 0, 0, 60, 0, 0, 0, 0], [], [], [62], [], [64, 65, 66, 0, 67, 68, 70, 72, 74, 76, 78, 80], [82, 84, 86, 88, 90, 92, 94, 96, 98, 100, 102, 104, 106, 108, 110, 112, 114, 116, 118, 120, 122, 124, 126, 128, 130, 132, 134, 136, 138, 140, 142, 144, 146, 148, 150, 152, 154, 156, 158, 160, 162, 164, 166, 168, 170, 172, 174, 176, 178, 180, 182, 184, 186, 188, 190, 192, 194, 196, 198, 200, 202, 204, 206, 208, 210, 212, 214, 216, 218, 220, 222, 224, 226, 228, 230, 232, 234, 236, 238, 240, 242, 244, 246, 248, 250, 252, 254, 256, 258, 260], [], [], [262, 264, 266, 268, 270, 272, 274, 276, 278], [69, 0], [], [71, 0], [], [73, 0], [], [75, 0], [], [77, 0], [], [79, 0], [], [81, 0], [], [83, 0], [], [85, 0], [], [87, 0], [], [89, 0], [], [91, 0], [], [93, 0], [], [95, 0], [], [97, 0], [], [99, 0], [], [101, 0], [], [103, 0], [], [105, 0], [], [107, 0], [], [109, 0], [], [111, 0], [], [113, 0], [], [115, 0], [], [117, 0], [], [119, 0], [], [121, 0], [], [123, 0], [], [125, 0], [], [127, 0], [], [129, 0], [], [131, 0], [], [133, 0], [], [135, 0], [], [137, 0], [], [139, 0], [], [141, 0], [], [143, 0], [], [145, 0], [], [147, 0], [], [149, 0], [], [151, 0], [], [153, 0], [], [155, 0], [], [157, 0], [], [159, 0], [], [161, 0], [], [163, 0], [], [165, 0], [], [167, 0], [], [169, 0], [], [171, 0], [], [173, 0], [], [175, 0], [], [177, 0], [], [179, 0], [], [181, 0], [], [183, 0], [], [185, 0], [], [187, 0], [], [189, 0], [], [191, 0], [], [193, 0], [], [195, 0], [], [197, 0], [], [199, 0], [], [201, 0], [], [203, 0], [], [205, 0], [], [207, 0], [], [209, 0], [], [211, 0], [], [213, 0], [], [215, 0], [], [217, 0], [], [219, 0], [], [221, 0], [], [223, 0], [], [225, 0], [], [227, 0], [], [229, 0], [], [231, 0], [], [233, 0], [], [235, 0], [], [237, 0], [], [239, 0], [], [241, 0], [], [243, 0], [], [245, 0], [], [247, 0], [], [249, 0], [], [251, 0], [], [253, 0], [], [255, 0], [], [257, 0], [], [259, 0], [], [261, 0], [], [263, 0], [], [265, 0], [], [267, 0], [], [269, 0], [], [271, 0], [], [273, 0], [], [275, 0], [], [277, 0], [], [279, 0], [], [281, 0, 283, 284, 286], [282, 0], [], [288, 290, 292, 294, 296, 298, 300, 302, 304], [285, 0], [], [287, 0], [], [289, 0], [], [291, 0], [], [293, 0], [], [295, 0], [], [297, 0], [], [299, 0], [], [301, 0], [], [303, 0], [], [305, 0], [], [307, 317, 0, 63, 318], [308, 309, 310, 311, 312, 313, 314, 315, 316], [], [], [], [], [], [], [], [], [], [], [], [306, 63, 280, 320, 330, 0, 0, 331, 332, 333, 334, 335, 337, 339, 0], [321, 322, 323, 324, 325, 326, 327, 328, 329], [], [], [], [], [], [], [], [], [], [], [], [], [], [], [336, 0], [], [338, 0], [], [340, 0], []]
def KX (i : Nat) : Nat := lx_K.getD i 20
def NX (i : Nat) : Nat := lx_N.getD i 0
def RX (i k : Nat) : Nat := (lx_R.getD i []).getD k 0
def GX (D : va_G) (cy : Nat → ClassId) (b : Nat) : rr_G := (D, cy, (List.range 341).map (fun i => b + i), (fun a => KX (a - b)), (fun a => NX (a - b)))
def sX (b : Nat) : rr_M := ((fun a k => if KX (a - b) = 0 ∧ k = 1 then 1 else 0), (fun a k => if a = b + 340 ∧ k = 0 then 1 else 0), (fun a k => b + RX (a - b) k))
def lm_K : List Nat := [9, 11, 11, 11, 12, 12, 11, 11, 12, 11, 11, 12, 10]
def lm_N : List Nat := [0, 92000, 460, 460, 401, 201, 48, 48, 207, 9, 9, 81, 200]
def lm_R : List Nat := [0, 1, 2, 3, 4, 5, 6, 7, 8, 9, 10, 0, 11, 12, 0, 0, 0, 0]
def KM (i : Nat) : Nat := lm_K.getD i 20
def NM (i : Nat) : Nat := lm_N.getD i 0
def RM (i k : Nat) : Nat := if i = 0 then lm_R.getD k 0 else 0
def GM (D : va_G) (cy : Nat → ClassId) (b : Nat) : rr_G := (D, cy, (List.range 13).map (fun i => b + i), (fun a => KM (a - b)), (fun a => NM (a - b)))
def sM (b : Nat) : rr_M := ((fun _ _ => 0), (fun _ _ => 0), (fun a k => b + RM (a - b) k))
theorem lx_r (b i k : Nat) : mg_r (sX b) (b + i) k = b + RX i k := by simp [mg_r, sX]
theorem lx_i (b i k : Nat) : mg_i (sX b) (b + i) k = if KX i = 0 ∧ k = 1 then 1 else 0 := by simp [mg_i, sX]
theorem lx_l (b i k : Nat) (h : i ≠ 340) : mg_l (sX b) (b + i) k = 0 := by simp [mg_l, sX]; intro h1; omega
theorem lm_r (b i k : Nat) : mg_r (sM b) (b + i) k = b + RM i k := by simp [mg_r, sM]
theorem rl_nodup (b n : Nat) : ((List.range n).map (fun i => b + i)).Nodup := by
  rw [List.nodup_iff_pairwise_ne, List.pairwise_map]
  exact List.Pairwise.imp (fun h => by omega) List.nodup_range
theorem rl_mem {b n a : Nat} : a ∈ (List.range n).map (fun i => b + i) ↔ ∃ i, i < n ∧ a = b + i := by
  simp only [List.mem_map, List.mem_range]
  constructor
  · rintro ⟨i, h1, h2⟩; exact ⟨i, h1, h2.symm⟩
  · rintro ⟨i, h1, h2⟩; exact ⟨i, h1, h2.symm⟩
/-- the same cell: objects alike, arrays alike below their length -/
def rl_eq (e e' : va_E) : Prop := match e, e' with
  | .inr x, .inr y => x = y
  | .inl (c, n, .inl f), .inl (c', n', .inl g) => c = c' ∧ n = n' ∧ ∀ j, j < n → f j = g j
  | .inl (c, n, .inr (.inl f)), .inl (c', n', .inr (.inl g)) => c = c' ∧ n = n' ∧ ∀ j, j < n → f j = g j
  | .inl (c, n, .inr (.inr (.inr (.inr f)))), .inl (c', n', .inr (.inr (.inr (.inr g)))) => c = c' ∧ n = n' ∧ ∀ j, j < n → f j = g j
  | _, _ => False
theorem rl_arrV {c : ClassId} {n : Nat} {f g : Nat → Value} (h : ∀ j, j < n → f j = g j) : arrV c n f = arrV c n g := by
  unfold arrV
  congr 2
  funext j
  exact h j.val j.isLt
theorem rl_at {D : va_G} {a : Nat} {e e' : va_E} {H : Heap} (h : rl_eq e e') (hP : va_at D rr_cls (a, e) H) : va_at D rr_cls (a, e') H := by
  unfold rl_eq at h
  split at h
  · subst h; exact hP
  · obtain ⟨rfl, rfl, h⟩ := h
    have h2 : H[a]? = some (vp_cell _ _) := hP
    show H[a]? = some (vp_cell _ _)
    rw [h2, vp_cell_i, vp_cell_i, rl_arrV (fun j hj => by rw [h j hj])]
  · obtain ⟨rfl, rfl, h⟩ := h
    have h2 : H[a]? = some (vp_cell _ _) := hP
    show H[a]? = some (vp_cell _ _)
    rw [h2, vp_cell_l, vp_cell_l, rl_arrV (fun j hj => by rw [h j hj])]
  · obtain ⟨rfl, rfl, h⟩ := h
    have h2 : H[a]? = some (vp_cell _ _) := hP
    show H[a]? = some (vp_cell _ _)
    rw [h2, vp_cell_q, vp_cell_q, rl_arrV (fun j hj => by rw [h j hj])]
  · cases h
theorem rl_K (D : va_G) (cy : Nat → ClassId) (b i : Nat) : (GX D cy b).2.2.2.1 (b + i) = KX i := by simp [GX]
theorem rl_N (D : va_G) (cy : Nat → ClassId) (b i : Nat) : (GX D cy b).2.2.2.2 (b + i) = NX i := by simp [GX]
theorem rm_K (D : va_G) (cy : Nat → ClassId) (b i : Nat) : (GM D cy b).2.2.2.1 (b + i) = KM i := by simp [GM]
theorem rm_N (D : va_G) (cy : Nat → ClassId) (b i : Nat) : (GM D cy b).2.2.2.2 (b + i) = NM i := by simp [GM]
theorem lx_ob {D : va_G} {cy : Nat → ClassId} {b i k : Nat} {fs : List Value} (hk : KX i = k) (h10 : k < 10) (hf : fs = rr_fs k (sX b) (b + i)) : rl_eq (.inr (k, fs)) (rr_ce (GX D cy b) (sX b) (b + i)) := by
  rw [rr_cO ((rl_K D cy b i).trans hk) h10, hf]
  rfl
theorem lx_ai {D : va_G} {cy : Nat → ClassId} {b i k n : Nat} (hk : KX i = k) (hk2 : k = 10 ∨ k = 11 ∨ k = 13) (hn : NX i = n) : rl_eq (.inl (cy k, n, .inl (fun _ => 0))) (rr_ce (GX D cy b) (sX b) (b + i)) := by
  rw [rr_cI ((rl_K D cy b i).trans hk) hk2, rl_N, hn]
  refine ⟨rfl, rfl, fun j _ => ?_⟩
  rw [lx_i, if_neg (by omega)]
theorem lx_al {D : va_G} {cy : Nat → ClassId} {b i n : Nat} (hk : KX i = 12) (hi : i ≠ 340) (hn : NX i = n) : rl_eq (.inl (cy 12, n, .inr (.inl (fun _ => 0)))) (rr_ce (GX D cy b) (sX b) (b + i)) := by
  rw [rr_cJ ((rl_K D cy b i).trans hk), rl_N, hn]
  refine ⟨rfl, rfl, fun j _ => ?_⟩
  rw [lx_l _ _ _ hi]
theorem lx_aq {D : va_G} {cy : Nat → ClassId} {b i k n : Nat} {g : Nat → Option Nat} (hk : KX i = k) (hk2 : k = 14 ∨ k = 15 ∨ k = 16) (hn : NX i = n) (hg : ∀ j, j < n → g j = some (b + RX i j)) : rl_eq (.inl (cy k, n, .inr (.inr (.inr (.inr g))))) (rr_ce (GX D cy b) (sX b) (b + i)) := by
  rw [rr_cR ((rl_K D cy b i).trans hk) hk2, rl_N, hn]
  refine ⟨rfl, rfl, fun j hj => ?_⟩
  show g j = some (mg_r (sX b) (b + i) j)
  rw [lx_r, hg j hj]
theorem lx_big {D : va_G} {cy : Nat → ClassId} {b i : Nat} (hk : KX i = 0) (hr : RX i 0 = i + 1) : rl_eq (.inr (0, [.ref (b + (i + 1)), .int 1])) (rr_ce (GX D cy b) (sX b) (b + i)) := by
  refine lx_ob hk (by decide) ?_
  show _ = [Value.ref (mg_r (sX b) (b + i) 0), Value.int (mg_i (sX b) (b + i) 1)]
  rw [lx_r, hr, lx_i, if_pos ⟨hk, rfl⟩]
set_option maxRecDepth 8000 in
theorem lx_cells {D : va_G} {cy : Nat → ClassId} {b : Nat} {f1 : Nat → va_E} (h : rc_roo cy b 1 0 f1) : ∀ i, i < 341 → rl_eq (f1 i) (rr_ce (GX D cy b) (sX b) (b + i)) := by
  obtain ⟨s_h, s_0, s_1, s_2, s_3, s_4, s_5, s_6, s_7, s_8, s_9, s_10, s_11, s_12, s_13, s_14, s_15, s_16, s_17, s_18, s_19, s_20, s_21, s_22, s_23, s_24, s_25, s_26, s_27, s_28, s_29, s_30, s_31, s_32, s_33, s_34, s_35, s_36, s_37, s_38, s_39, s_40, s_41, s_42, s_43, s_44, s_45, s_46, s_47, s_48, s_49, f_0, f_1, f_2, f_3, f_4, f_5⟩ := h
  intro i hi
  have hcase : (i = 0) ∨ (i = 1) ∨ (i = 58) ∨ (i = 59) ∨ (i = 60) ∨ (i = 61) ∨ (i = 62) ∨ (i = 63) ∨ (i = 64) ∨ (i = 65) ∨ (i = 66) ∨ (i = 67) ∨ (i = 68) ∨ (i = 69) ∨ (i = 70) ∨ (i = 71) ∨ (i = 72) ∨ (i = 73) ∨ (i = 74) ∨ (i = 75) ∨ (i = 76) ∨ (i = 77) ∨ (i = 78) ∨ (i = 79) ∨ (i = 80) ∨ (i = 81) ∨ (i = 280) ∨ (i = 281) ∨ (i = 282) ∨ (i = 283) ∨ (i = 284) ∨ (i = 285) ∨ (i = 286) ∨ (i = 287) ∨ (i = 306) ∨ (i = 307) ∨ (i = 317) ∨ (i = 318) ∨ (i = 319) ∨ (i = 320) ∨ (i = 330) ∨ (i = 331) ∨ (i = 332) ∨ (i = 333) ∨ (i = 334) ∨ (i = 335) ∨ (i = 336) ∨ (i = 337) ∨ (i = 338) ∨ (i = 339) ∨ (i = 340) ∨ (∃ j, j < 8 ∧ i = 1 + 1 + 7 * j) ∨ (∃ j, j < 8 ∧ i = 1 + 1 + 7 * j + 1) ∨ (∃ j, j < 8 ∧ i = 1 + 1 + 7 * j + 1 + 1) ∨ (∃ j, j < 8 ∧ i = 1 + 1 + 7 * j + 1 + 2) ∨ (∃ j, j < 8 ∧ i = 1 + 1 + 7 * j + 1 + 3) ∨ (∃ j, j < 8 ∧ i = 1 + 1 + 7 * j + 1 + 4) ∨ (∃ j, j < 8 ∧ i = 1 + 1 + 7 * j + 1 + 5) ∨ (∃ j, j < 90 ∧ i = 1 + 81 + 2 * j) ∨ (∃ j, j < 90 ∧ i = 1 + 81 + 2 * j + 1) ∨ (∃ j, j < 9 ∧ i = 1 + 261 + 2 * j) ∨ (∃ j, j < 9 ∧ i = 1 + 261 + 2 * j + 1) ∨ (∃ j, j < 9 ∧ i = 1 + 287 + 2 * j) ∨ (∃ j, j < 9 ∧ i = 1 + 287 + 2 * j + 1) ∨ (∃ j, j < 9 ∧ i = 1 + 307 + j) ∨ (∃ j, j < 9 ∧ i = 1 + 320 + j) := by
    by_cases c0 : i = 0
    · exact Or.inl (c0)
    by_cases c1 : i = 1
    · exact Or.inr (Or.inl (c1))
    by_cases c58 : i = 58
    · exact Or.inr (Or.inr (Or.inl (c58)))
    by_cases c59 : i = 59
    · exact Or.inr (Or.inr (Or.inr (Or.inl (c59))))
    by_cases c60 : i = 60
    · exact Or.inr (Or.inr (Or.inr (Or.inr (Or.inl (c60)))))
    by_cases c61 : i = 61
    · exact Or.inr (Or.inr (Or.inr (Or.inr (Or.inr (Or.inl (c61))))))
    by_cases c62 : i = 62
    · exact Or.inr (Or.inr (Or.inr (Or.inr (Or.inr (Or.inr (Or.inl (c62)))))))
    by_cases c63 : i = 63
    · exact Or.inr (Or.inr (Or.inr (Or.inr (Or.inr (Or.inr (Or.inr (Or.inl (c63))))))))
    by_cases c64 : i = 64
    · exact Or.inr (Or.inr (Or.inr (Or.inr (Or.inr (Or.inr (Or.inr (Or.inr (Or.inl (c64)))))))))
    by_cases c65 : i = 65
    · exact Or.inr (Or.inr (Or.inr (Or.inr (Or.inr (Or.inr (Or.inr (Or.inr (Or.inr (Or.inl (c65))))))))))
    by_cases c66 : i = 66
    · exact Or.inr (Or.inr (Or.inr (Or.inr (Or.inr (Or.inr (Or.inr (Or.inr (Or.inr (Or.inr (Or.inl (c66)))))))))))
    by_cases c67 : i = 67
    · exact Or.inr (Or.inr (Or.inr (Or.inr (Or.inr (Or.inr (Or.inr (Or.inr (Or.inr (Or.inr (Or.inr (Or.inl (c67))))))))))))
    by_cases c68 : i = 68
    · exact Or.inr (Or.inr (Or.inr (Or.inr (Or.inr (Or.inr (Or.inr (Or.inr (Or.inr (Or.inr (Or.inr (Or.inr (Or.inl (c68)))))))))))))
    by_cases c69 : i = 69
    · exact Or.inr (Or.inr (Or.inr (Or.inr (Or.inr (Or.inr (Or.inr (Or.inr (Or.inr (Or.inr (Or.inr (Or.inr (Or.inr (Or.inl (c69))))))))))))))
    by_cases c70 : i = 70
    · exact Or.inr (Or.inr (Or.inr (Or.inr (Or.inr (Or.inr (Or.inr (Or.inr (Or.inr (Or.inr (Or.inr (Or.inr (Or.inr (Or.inr (Or.inl (c70)))))))))))))))
    by_cases c71 : i = 71
    · exact Or.inr (Or.inr (Or.inr (Or.inr (Or.inr (Or.inr (Or.inr (Or.inr (Or.inr (Or.inr (Or.inr (Or.inr (Or.inr (Or.inr (Or.inr (Or.inl (c71))))))))))))))))
    by_cases c72 : i = 72
    · exact Or.inr (Or.inr (Or.inr (Or.inr (Or.inr (Or.inr (Or.inr (Or.inr (Or.inr (Or.inr (Or.inr (Or.inr (Or.inr (Or.inr (Or.inr (Or.inr (Or.inl (c72)))))))))))))))))
    by_cases c73 : i = 73
    · exact Or.inr (Or.inr (Or.inr (Or.inr (Or.inr (Or.inr (Or.inr (Or.inr (Or.inr (Or.inr (Or.inr (Or.inr (Or.inr (Or.inr (Or.inr (Or.inr (Or.inr (Or.inl (c73))))))))))))))))))
    by_cases c74 : i = 74
    · exact Or.inr (Or.inr (Or.inr (Or.inr (Or.inr (Or.inr (Or.inr (Or.inr (Or.inr (Or.inr (Or.inr (Or.inr (Or.inr (Or.inr (Or.inr (Or.inr (Or.inr (Or.inr (Or.inl (c74)))))))))))))))))))
    by_cases c75 : i = 75
    · exact Or.inr (Or.inr (Or.inr (Or.inr (Or.inr (Or.inr (Or.inr (Or.inr (Or.inr (Or.inr (Or.inr (Or.inr (Or.inr (Or.inr (Or.inr (Or.inr (Or.inr (Or.inr (Or.inr (Or.inl (c75))))))))))))))))))))
    by_cases c76 : i = 76
    · exact Or.inr (Or.inr (Or.inr (Or.inr (Or.inr (Or.inr (Or.inr (Or.inr (Or.inr (Or.inr (Or.inr (Or.inr (Or.inr (Or.inr (Or.inr (Or.inr (Or.inr (Or.inr (Or.inr (Or.inr (Or.inl (c76)))))))))))))))))))))
    by_cases c77 : i = 77
    · exact Or.inr (Or.inr (Or.inr (Or.inr (Or.inr (Or.inr (Or.inr (Or.inr (Or.inr (Or.inr (Or.inr (Or.inr (Or.inr (Or.inr (Or.inr (Or.inr (Or.inr (Or.inr (Or.inr (Or.inr (Or.inr (Or.inl (c77))))))))))))))))))))))
    by_cases c78 : i = 78
    · exact Or.inr (Or.inr (Or.inr (Or.inr (Or.inr (Or.inr (Or.inr (Or.inr (Or.inr (Or.inr (Or.inr (Or.inr (Or.inr (Or.inr (Or.inr (Or.inr (Or.inr (Or.inr (Or.inr (Or.inr (Or.inr (Or.inr (Or.inl (c78)))))))))))))))))))))))
    by_cases c79 : i = 79
    · exact Or.inr (Or.inr (Or.inr (Or.inr (Or.inr (Or.inr (Or.inr (Or.inr (Or.inr (Or.inr (Or.inr (Or.inr (Or.inr (Or.inr (Or.inr (Or.inr (Or.inr (Or.inr (Or.inr (Or.inr (Or.inr (Or.inr (Or.inr (Or.inl (c79))))))))))))))))))))))))
    by_cases c80 : i = 80
    · exact Or.inr (Or.inr (Or.inr (Or.inr (Or.inr (Or.inr (Or.inr (Or.inr (Or.inr (Or.inr (Or.inr (Or.inr (Or.inr (Or.inr (Or.inr (Or.inr (Or.inr (Or.inr (Or.inr (Or.inr (Or.inr (Or.inr (Or.inr (Or.inr (Or.inl (c80)))))))))))))))))))))))))
    by_cases c81 : i = 81
    · exact Or.inr (Or.inr (Or.inr (Or.inr (Or.inr (Or.inr (Or.inr (Or.inr (Or.inr (Or.inr (Or.inr (Or.inr (Or.inr (Or.inr (Or.inr (Or.inr (Or.inr (Or.inr (Or.inr (Or.inr (Or.inr (Or.inr (Or.inr (Or.inr (Or.inr (Or.inl (c81))))))))))))))))))))))))))
    by_cases c280 : i = 280
    · exact Or.inr (Or.inr (Or.inr (Or.inr (Or.inr (Or.inr (Or.inr (Or.inr (Or.inr (Or.inr (Or.inr (Or.inr (Or.inr (Or.inr (Or.inr (Or.inr (Or.inr (Or.inr (Or.inr (Or.inr (Or.inr (Or.inr (Or.inr (Or.inr (Or.inr (Or.inr (Or.inl (c280)))))))))))))))))))))))))))
    by_cases c281 : i = 281
    · exact Or.inr (Or.inr (Or.inr (Or.inr (Or.inr (Or.inr (Or.inr (Or.inr (Or.inr (Or.inr (Or.inr (Or.inr (Or.inr (Or.inr (Or.inr (Or.inr (Or.inr (Or.inr (Or.inr (Or.inr (Or.inr (Or.inr (Or.inr (Or.inr (Or.inr (Or.inr (Or.inr (Or.inl (c281))))))))))))))))))))))))))))
    by_cases c282 : i = 282
    · exact Or.inr (Or.inr (Or.inr (Or.inr (Or.inr (Or.inr (Or.inr (Or.inr (Or.inr (Or.inr (Or.inr (Or.inr (Or.inr (Or.inr (Or.inr (Or.inr (Or.inr (Or.inr (Or.inr (Or.inr (Or.inr (Or.inr (Or.inr (Or.inr (Or.inr (Or.inr (Or.inr (Or.inr (Or.inl (c282)))))))))))))))))))))))))))))
    by_cases c283 : i = 283
    · exact Or.inr (Or.inr (Or.inr (Or.inr (Or.inr (Or.inr (Or.inr (Or.inr (Or.inr (Or.inr (Or.inr (Or.inr (Or.inr (Or.inr (Or.inr (Or.inr (Or.inr (Or.inr (Or.inr (Or.inr (Or.inr (Or.inr (Or.inr (Or.inr (Or.inr (Or.inr (Or.inr (Or.inr (Or.inr (Or.inl (c283))))))))))))))))))))))))))))))
    by_cases c284 : i = 284
    · exact Or.inr (Or.inr (Or.inr (Or.inr (Or.inr (Or.inr (Or.inr (Or.inr (Or.inr (Or.inr (Or.inr (Or.inr (Or.inr (Or.inr (Or.inr (Or.inr (Or.inr (Or.inr (Or.inr (Or.inr (Or.inr (Or.inr (Or.inr (Or.inr (Or.inr (Or.inr (Or.inr (Or.inr (Or.inr (Or.inr (Or.inl (c284)))))))))))))))))))))))))))))))
    by_cases c285 : i = 285
    · exact Or.inr (Or.inr (Or.inr (Or.inr (Or.inr (Or.inr (Or.inr (Or.inr (Or.inr (Or.inr (Or.inr (Or.inr (Or.inr (Or.inr (Or.inr (Or.inr (Or.inr (Or.inr (Or.inr (Or.inr (Or.inr (Or.inr (Or.inr (Or.inr (Or.inr (Or.inr (Or.inr (Or.inr (Or.inr (Or.inr (Or.inr (Or.inl (c285))))))))))))))))))))))))))))))))
    by_cases c286 : i = 286
    · exact Or.inr (Or.inr (Or.inr (Or.inr (Or.inr (Or.inr (Or.inr (Or.inr (Or.inr (Or.inr (Or.inr (Or.inr (Or.inr (Or.inr (Or.inr (Or.inr (Or.inr (Or.inr (Or.inr (Or.inr (Or.inr (Or.inr (Or.inr (Or.inr (Or.inr (Or.inr (Or.inr (Or.inr (Or.inr (Or.inr (Or.inr (Or.inr (Or.inl (c286)))))))))))))))))))))))))))))))))
    by_cases c287 : i = 287
    · exact Or.inr (Or.inr (Or.inr (Or.inr (Or.inr (Or.inr (Or.inr (Or.inr (Or.inr (Or.inr (Or.inr (Or.inr (Or.inr (Or.inr (Or.inr (Or.inr (Or.inr (Or.inr (Or.inr (Or.inr (Or.inr (Or.inr (Or.inr (Or.inr (Or.inr (Or.inr (Or.inr (Or.inr (Or.inr (Or.inr (Or.inr (Or.inr (Or.inr (Or.inl (c287))))))))))))))))))))))))))))))))))
    by_cases c306 : i = 306
    · exact Or.inr (Or.inr (Or.inr (Or.inr (Or.inr (Or.inr (Or.inr (Or.inr (Or.inr (Or.inr (Or.inr (Or.inr (Or.inr (Or.inr (Or.inr (Or.inr (Or.inr (Or.inr (Or.inr (Or.inr (Or.inr (Or.inr (Or.inr (Or.inr (Or.inr (Or.inr (Or.inr (Or.inr (Or.inr (Or.inr (Or.inr (Or.inr (Or.inr (Or.inr (Or.inl (c306)))))))))))))))))))))))))))))))))))
    by_cases c307 : i = 307
    · exact Or.inr (Or.inr (Or.inr (Or.inr (Or.inr (Or.inr (Or.inr (Or.inr (Or.inr (Or.inr (Or.inr (Or.inr (Or.inr (Or.inr (Or.inr (Or.inr (Or.inr (Or.inr (Or.inr (Or.inr (Or.inr (Or.inr (Or.inr (Or.inr (Or.inr (Or.inr (Or.inr (Or.inr (Or.inr (Or.inr (Or.inr (Or.inr (Or.inr (Or.inr (Or.inr (Or.inl (c307))))))))))))))))))))))))))))))))))))
    by_cases c317 : i = 317
    · exact Or.inr (Or.inr (Or.inr (Or.inr (Or.inr (Or.inr (Or.inr (Or.inr (Or.inr (Or.inr (Or.inr (Or.inr (Or.inr (Or.inr (Or.inr (Or.inr (Or.inr (Or.inr (Or.inr (Or.inr (Or.inr (Or.inr (Or.inr (Or.inr (Or.inr (Or.inr (Or.inr (Or.inr (Or.inr (Or.inr (Or.inr (Or.inr (Or.inr (Or.inr (Or.inr (Or.inr (Or.inl (c317)))))))))))))))))))))))))))))))))))))
    by_cases c318 : i = 318
    · exact Or.inr (Or.inr (Or.inr (Or.inr (Or.inr (Or.inr (Or.inr (Or.inr (Or.inr (Or.inr (Or.inr (Or.inr (Or.inr (Or.inr (Or.inr (Or.inr (Or.inr (Or.inr (Or.inr (Or.inr (Or.inr (Or.inr (Or.inr (Or.inr (Or.inr (Or.inr (Or.inr (Or.inr (Or.inr (Or.inr (Or.inr (Or.inr (Or.inr (Or.inr (Or.inr (Or.inr (Or.inr (Or.inl (c318))))))))))))))))))))))))))))))))))))))
    by_cases c319 : i = 319
    · exact Or.inr (Or.inr (Or.inr (Or.inr (Or.inr (Or.inr (Or.inr (Or.inr (Or.inr (Or.inr (Or.inr (Or.inr (Or.inr (Or.inr (Or.inr (Or.inr (Or.inr (Or.inr (Or.inr (Or.inr (Or.inr (Or.inr (Or.inr (Or.inr (Or.inr (Or.inr (Or.inr (Or.inr (Or.inr (Or.inr (Or.inr (Or.inr (Or.inr (Or.inr (Or.inr (Or.inr (Or.inr (Or.inr (Or.inl (c319)))))))))))))))))))))))))))))))))))))))
    by_cases c320 : i = 320
    · exact Or.inr (Or.inr (Or.inr (Or.inr (Or.inr (Or.inr (Or.inr (Or.inr (Or.inr (Or.inr (Or.inr (Or.inr (Or.inr (Or.inr (Or.inr (Or.inr (Or.inr (Or.inr (Or.inr (Or.inr (Or.inr (Or.inr (Or.inr (Or.inr (Or.inr (Or.inr (Or.inr (Or.inr (Or.inr (Or.inr (Or.inr (Or.inr (Or.inr (Or.inr (Or.inr (Or.inr (Or.inr (Or.inr (Or.inr (Or.inl (c320))))))))))))))))))))))))))))))))))))))))
    by_cases c330 : i = 330
    · exact Or.inr (Or.inr (Or.inr (Or.inr (Or.inr (Or.inr (Or.inr (Or.inr (Or.inr (Or.inr (Or.inr (Or.inr (Or.inr (Or.inr (Or.inr (Or.inr (Or.inr (Or.inr (Or.inr (Or.inr (Or.inr (Or.inr (Or.inr (Or.inr (Or.inr (Or.inr (Or.inr (Or.inr (Or.inr (Or.inr (Or.inr (Or.inr (Or.inr (Or.inr (Or.inr (Or.inr (Or.inr (Or.inr (Or.inr (Or.inr (Or.inl (c330)))))))))))))))))))))))))))))))))))))))))
    by_cases c331 : i = 331
    · exact Or.inr (Or.inr (Or.inr (Or.inr (Or.inr (Or.inr (Or.inr (Or.inr (Or.inr (Or.inr (Or.inr (Or.inr (Or.inr (Or.inr (Or.inr (Or.inr (Or.inr (Or.inr (Or.inr (Or.inr (Or.inr (Or.inr (Or.inr (Or.inr (Or.inr (Or.inr (Or.inr (Or.inr (Or.inr (Or.inr (Or.inr (Or.inr (Or.inr (Or.inr (Or.inr (Or.inr (Or.inr (Or.inr (Or.inr (Or.inr (Or.inr (Or.inl (c331))))))))))))))))))))))))))))))))))))))))))
    by_cases c332 : i = 332
    · exact Or.inr (Or.inr (Or.inr (Or.inr (Or.inr (Or.inr (Or.inr (Or.inr (Or.inr (Or.inr (Or.inr (Or.inr (Or.inr (Or.inr (Or.inr (Or.inr (Or.inr (Or.inr (Or.inr (Or.inr (Or.inr (Or.inr (Or.inr (Or.inr (Or.inr (Or.inr (Or.inr (Or.inr (Or.inr (Or.inr (Or.inr (Or.inr (Or.inr (Or.inr (Or.inr (Or.inr (Or.inr (Or.inr (Or.inr (Or.inr (Or.inr (Or.inr (Or.inl (c332)))))))))))))))))))))))))))))))))))))))))))
    by_cases c333 : i = 333
    · exact Or.inr (Or.inr (Or.inr (Or.inr (Or.inr (Or.inr (Or.inr (Or.inr (Or.inr (Or.inr (Or.inr (Or.inr (Or.inr (Or.inr (Or.inr (Or.inr (Or.inr (Or.inr (Or.inr (Or.inr (Or.inr (Or.inr (Or.inr (Or.inr (Or.inr (Or.inr (Or.inr (Or.inr (Or.inr (Or.inr (Or.inr (Or.inr (Or.inr (Or.inr (Or.inr (Or.inr (Or.inr (Or.inr (Or.inr (Or.inr (Or.inr (Or.inr (Or.inr (Or.inl (c333))))))))))))))))))))))))))))))))))))))))))))
    by_cases c334 : i = 334
    · exact Or.inr (Or.inr (Or.inr (Or.inr (Or.inr (Or.inr (Or.inr (Or.inr (Or.inr (Or.inr (Or.inr (Or.inr (Or.inr (Or.inr (Or.inr (Or.inr (Or.inr (Or.inr (Or.inr (Or.inr (Or.inr (Or.inr (Or.inr (Or.inr (Or.inr (Or.inr (Or.inr (Or.inr (Or.inr (Or.inr (Or.inr (Or.inr (Or.inr (Or.inr (Or.inr (Or.inr (Or.inr (Or.inr (Or.inr (Or.inr (Or.inr (Or.inr (Or.inr (Or.inr (Or.inl (c334)))))))))))))))))))))))))))))))))))))))))))))
    by_cases c335 : i = 335
    · exact Or.inr (Or.inr (Or.inr (Or.inr (Or.inr (Or.inr (Or.inr (Or.inr (Or.inr (Or.inr (Or.inr (Or.inr (Or.inr (Or.inr (Or.inr (Or.inr (Or.inr (Or.inr (Or.inr (Or.inr (Or.inr (Or.inr (Or.inr (Or.inr (Or.inr (Or.inr (Or.inr (Or.inr (Or.inr (Or.inr (Or.inr (Or.inr (Or.inr (Or.inr (Or.inr (Or.inr (Or.inr (Or.inr (Or.inr (Or.inr (Or.inr (Or.inr (Or.inr (Or.inr (Or.inr (Or.inl (c335))))))))))))))))))))))))))))))))))))))))))))))
    by_cases c336 : i = 336
    · exact Or.inr (Or.inr (Or.inr (Or.inr (Or.inr (Or.inr (Or.inr (Or.inr (Or.inr (Or.inr (Or.inr (Or.inr (Or.inr (Or.inr (Or.inr (Or.inr (Or.inr (Or.inr (Or.inr (Or.inr (Or.inr (Or.inr (Or.inr (Or.inr (Or.inr (Or.inr (Or.inr (Or.inr (Or.inr (Or.inr (Or.inr (Or.inr (Or.inr (Or.inr (Or.inr (Or.inr (Or.inr (Or.inr (Or.inr (Or.inr (Or.inr (Or.inr (Or.inr (Or.inr (Or.inr (Or.inr (Or.inl (c336)))))))))))))))))))))))))))))))))))))))))))))))
    by_cases c337 : i = 337
    · exact Or.inr (Or.inr (Or.inr (Or.inr (Or.inr (Or.inr (Or.inr (Or.inr (Or.inr (Or.inr (Or.inr (Or.inr (Or.inr (Or.inr (Or.inr (Or.inr (Or.inr (Or.inr (Or.inr (Or.inr (Or.inr (Or.inr (Or.inr (Or.inr (Or.inr (Or.inr (Or.inr (Or.inr (Or.inr (Or.inr (Or.inr (Or.inr (Or.inr (Or.inr (Or.inr (Or.inr (Or.inr (Or.inr (Or.inr (Or.inr (Or.inr (Or.inr (Or.inr (Or.inr (Or.inr (Or.inr (Or.inr (Or.inl (c337))))))))))))))))))))))))))))))))))))))))))))))))
    by_cases c338 : i = 338
    · exact Or.inr (Or.inr (Or.inr (Or.inr (Or.inr (Or.inr (Or.inr (Or.inr (Or.inr (Or.inr (Or.inr (Or.inr (Or.inr (Or.inr (Or.inr (Or.inr (Or.inr (Or.inr (Or.inr (Or.inr (Or.inr (Or.inr (Or.inr (Or.inr (Or.inr (Or.inr (Or.inr (Or.inr (Or.inr (Or.inr (Or.inr (Or.inr (Or.inr (Or.inr (Or.inr (Or.inr (Or.inr (Or.inr (Or.inr (Or.inr (Or.inr (Or.inr (Or.inr (Or.inr (Or.inr (Or.inr (Or.inr (Or.inr (Or.inl (c338)))))))))))))))))))))))))))))))))))))))))))))))))
    by_cases c339 : i = 339
    · exact Or.inr (Or.inr (Or.inr (Or.inr (Or.inr (Or.inr (Or.inr (Or.inr (Or.inr (Or.inr (Or.inr (Or.inr (Or.inr (Or.inr (Or.inr (Or.inr (Or.inr (Or.inr (Or.inr (Or.inr (Or.inr (Or.inr (Or.inr (Or.inr (Or.inr (Or.inr (Or.inr (Or.inr (Or.inr (Or.inr (Or.inr (Or.inr (Or.inr (Or.inr (Or.inr (Or.inr (Or.inr (Or.inr (Or.inr (Or.inr (Or.inr (Or.inr (Or.inr (Or.inr (Or.inr (Or.inr (Or.inr (Or.inr (Or.inr (Or.inl (c339))))))))))))))))))))))))))))))))))))))))))))))))))
    by_cases c340 : i = 340
    · exact Or.inr (Or.inr (Or.inr (Or.inr (Or.inr (Or.inr (Or.inr (Or.inr (Or.inr (Or.inr (Or.inr (Or.inr (Or.inr (Or.inr (Or.inr (Or.inr (Or.inr (Or.inr (Or.inr (Or.inr (Or.inr (Or.inr (Or.inr (Or.inr (Or.inr (Or.inr (Or.inr (Or.inr (Or.inr (Or.inr (Or.inr (Or.inr (Or.inr (Or.inr (Or.inr (Or.inr (Or.inr (Or.inr (Or.inr (Or.inr (Or.inr (Or.inr (Or.inr (Or.inr (Or.inr (Or.inr (Or.inr (Or.inr (Or.inr (Or.inr (Or.inl (c340)))))))))))))))))))))))))))))))))))))))))))))))))))
    by_cases r2 : 2 ≤ i ∧ i < 58
    · have hm : (i - 2) % 7 = 0 ∨ (i - 2) % 7 = 1 ∨ (i - 2) % 7 = 2 ∨ (i - 2) % 7 = 3 ∨ (i - 2) % 7 = 4 ∨ (i - 2) % 7 = 5 ∨ (i - 2) % 7 = 6 := by omega
      rcases hm with m | m | m | m | m | m | m
      · exact Or.inr (Or.inr (Or.inr (Or.inr (Or.inr (Or.inr (Or.inr (Or.inr (Or.inr (Or.inr (Or.inr (Or.inr (Or.inr (Or.inr (Or.inr (Or.inr (Or.inr (Or.inr (Or.inr (Or.inr (Or.inr (Or.inr (Or.inr (Or.inr (Or.inr (Or.inr (Or.inr (Or.inr (Or.inr (Or.inr (Or.inr (Or.inr (Or.inr (Or.inr (Or.inr (Or.inr (Or.inr (Or.inr (Or.inr (Or.inr (Or.inr (Or.inr (Or.inr (Or.inr (Or.inr (Or.inr (Or.inr (Or.inr (Or.inr (Or.inr (Or.inr (Or.inl (⟨(i - 2) / 7, by omega, by omega⟩))))))))))))))))))))))))))))))))))))))))))))))))))))
      · exact Or.inr (Or.inr (Or.inr (Or.inr (Or.inr (Or.inr (Or.inr (Or.inr (Or.inr (Or.inr (Or.inr (Or.inr (Or.inr (Or.inr (Or.inr (Or.inr (Or.inr (Or.inr (Or.inr (Or.inr (Or.inr (Or.inr (Or.inr (Or.inr (Or.inr (Or.inr (Or.inr (Or.inr (Or.inr (Or.inr (Or.inr (Or.inr (Or.inr (Or.inr (Or.inr (Or.inr (Or.inr (Or.inr (Or.inr (Or.inr (Or.inr (Or.inr (Or.inr (Or.inr (Or.inr (Or.inr (Or.inr (Or.inr (Or.inr (Or.inr (Or.inr (Or.inr (Or.inl (⟨(i - 2) / 7, by omega, by omega⟩)))))))))))))))))))))))))))))))))))))))))))))))))))))
      · exact Or.inr (Or.inr (Or.inr (Or.inr (Or.inr (Or.inr (Or.inr (Or.inr (Or.inr (Or.inr (Or.inr (Or.inr (Or.inr (Or.inr (Or.inr (Or.inr (Or.inr (Or.inr (Or.inr (Or.inr (Or.inr (Or.inr (Or.inr (Or.inr (Or.inr (Or.inr (Or.inr (Or.inr (Or.inr (Or.inr (Or.inr (Or.inr (Or.inr (Or.inr (Or.inr (Or.inr (Or.inr (Or.inr (Or.inr (Or.inr (Or.inr (Or.inr (Or.inr (Or.inr (Or.inr (Or.inr (Or.inr (Or.inr (Or.inr (Or.inr (Or.inr (Or.inr (Or.inr (Or.inl (⟨(i - 2) / 7, by omega, by omega⟩))))))))))))))))))))))))))))))))))))))))))))))))))))))
      · exact Or.inr (Or.inr (Or.inr (Or.inr (Or.inr (Or.inr (Or.inr (Or.inr (Or.inr (Or.inr (Or.inr (Or.inr (Or.inr (Or.inr (Or.inr (Or.inr (Or.inr (Or.inr (Or.inr (Or.inr (Or.inr (Or.inr (Or.inr (Or.inr (Or.inr (Or.inr (Or.inr (Or.inr (Or.inr (Or.inr (Or.inr (Or.inr (Or.inr (Or.inr (Or.inr (Or.inr (Or.inr (Or.inr (Or.inr (Or.inr (Or.inr (Or.inr (Or.inr (Or.inr (Or.inr (Or.inr (Or.inr (Or.inr (Or.inr (Or.inr (Or.inr (Or.inr (Or.inr (Or.inr (Or.inl (⟨(i - 2) / 7, by omega, by omega⟩)))))))))))))))))))))))))))))))))))))))))))))))))))))))
      · exact Or.inr (Or.inr (Or.inr (Or.inr (Or.inr (Or.inr (Or.inr (Or.inr (Or.inr (Or.inr (Or.inr (Or.inr (Or.inr (Or.inr (Or.inr (Or.inr (Or.inr (Or.inr (Or.inr (Or.inr (Or.inr (Or.inr (Or.inr (Or.inr (Or.inr (Or.inr (Or.inr (Or.inr (Or.inr (Or.inr (Or.inr (Or.inr (Or.inr (Or.inr (Or.inr (Or.inr (Or.inr (Or.inr (Or.inr (Or.inr (Or.inr (Or.inr (Or.inr (Or.inr (Or.inr (Or.inr (Or.inr (Or.inr (Or.inr (Or.inr (Or.inr (Or.inr (Or.inr (Or.inr (Or.inr (Or.inl (⟨(i - 2) / 7, by omega, by omega⟩))))))))))))))))))))))))))))))))))))))))))))))))))))))))
      · exact Or.inr (Or.inr (Or.inr (Or.inr (Or.inr (Or.inr (Or.inr (Or.inr (Or.inr (Or.inr (Or.inr (Or.inr (Or.inr (Or.inr (Or.inr (Or.inr (Or.inr (Or.inr (Or.inr (Or.inr (Or.inr (Or.inr (Or.inr (Or.inr (Or.inr (Or.inr (Or.inr (Or.inr (Or.inr (Or.inr (Or.inr (Or.inr (Or.inr (Or.inr (Or.inr (Or.inr (Or.inr (Or.inr (Or.inr (Or.inr (Or.inr (Or.inr (Or.inr (Or.inr (Or.inr (Or.inr (Or.inr (Or.inr (Or.inr (Or.inr (Or.inr (Or.inr (Or.inr (Or.inr (Or.inr (Or.inr (Or.inl (⟨(i - 2) / 7, by omega, by omega⟩)))))))))))))))))))))))))))))))))))))))))))))))))))))))))
      · exact Or.inr (Or.inr (Or.inr (Or.inr (Or.inr (Or.inr (Or.inr (Or.inr (Or.inr (Or.inr (Or.inr (Or.inr (Or.inr (Or.inr (Or.inr (Or.inr (Or.inr (Or.inr (Or.inr (Or.inr (Or.inr (Or.inr (Or.inr (Or.inr (Or.inr (Or.inr (Or.inr (Or.inr (Or.inr (Or.inr (Or.inr (Or.inr (Or.inr (Or.inr (Or.inr (Or.inr (Or.inr (Or.inr (Or.inr (Or.inr (Or.inr (Or.inr (Or.inr (Or.inr (Or.inr (Or.inr (Or.inr (Or.inr (Or.inr (Or.inr (Or.inr (Or.inr (Or.inr (Or.inr (Or.inr (Or.inr (Or.inr (Or.inl (⟨(i - 2) / 7, by omega, by omega⟩))))))))))))))))))))))))))))))))))))))))))))))))))))))))))
    by_cases r82 : 82 ≤ i ∧ i < 262
    · have hm : (i - 82) % 2 = 0 ∨ (i - 82) % 2 = 1 := by omega
      rcases hm with m | m
      · exact Or.inr (Or.inr (Or.inr (Or.inr (Or.inr (Or.inr (Or.inr (Or.inr (Or.inr (Or.inr (Or.inr (Or.inr (Or.inr (Or.inr (Or.inr (Or.inr (Or.inr (Or.inr (Or.inr (Or.inr (Or.inr (Or.inr (Or.inr (Or.inr (Or.inr (Or.inr (Or.inr (Or.inr (Or.inr (Or.inr (Or.inr (Or.inr (Or.inr (Or.inr (Or.inr (Or.inr (Or.inr (Or.inr (Or.inr (Or.inr (Or.inr (Or.inr (Or.inr (Or.inr (Or.inr (Or.inr (Or.inr (Or.inr (Or.inr (Or.inr (Or.inr (Or.inr (Or.inr (Or.inr (Or.inr (Or.inr (Or.inr (Or.inr (Or.inl (⟨(i - 82) / 2, by omega, by omega⟩)))))))))))))))))))))))))))))))))))))))))))))))))))))))))))
      · exact Or.inr (Or.inr (Or.inr (Or.inr (Or.inr (Or.inr (Or.inr (Or.inr (Or.inr (Or.inr (Or.inr (Or.inr (Or.inr (Or.inr (Or.inr (Or.inr (Or.inr (Or.inr (Or.inr (Or.inr (Or.inr (Or.inr (Or.inr (Or.inr (Or.inr (Or.inr (Or.inr (Or.inr (Or.inr (Or.inr (Or.inr (Or.inr (Or.inr (Or.inr (Or.inr (Or.inr (Or.inr (Or.inr (Or.inr (Or.inr (Or.inr (Or.inr (Or.inr (Or.inr (Or.inr (Or.inr (Or.inr (Or.inr (Or.inr (Or.inr (Or.inr (Or.inr (Or.inr (Or.inr (Or.inr (Or.inr (Or.inr (Or.inr (Or.inr (Or.inl (⟨(i - 82) / 2, by omega, by omega⟩))))))))))))))))))))))))))))))))))))))))))))))))))))))))))))
    by_cases r262 : 262 ≤ i ∧ i < 280
    · have hm : (i - 262) % 2 = 0 ∨ (i - 262) % 2 = 1 := by omega
      rcases hm with m | m
      · exact Or.inr (Or.inr (Or.inr (Or.inr (Or.inr (Or.inr (Or.inr (Or.inr (Or.inr (Or.inr (Or.inr (Or.inr (Or.inr (Or.inr (Or.inr (Or.inr (Or.inr (Or.inr (Or.inr (Or.inr (Or.inr (Or.inr (Or.inr (Or.inr (Or.inr (Or.inr (Or.inr (Or.inr (Or.inr (Or.inr (Or.inr (Or.inr (Or.inr (Or.inr (Or.inr (Or.inr (Or.inr (Or.inr (Or.inr (Or.inr (Or.inr (Or.inr (Or.inr (Or.inr (Or.inr (Or.inr (Or.inr (Or.inr (Or.inr (Or.inr (Or.inr (Or.inr (Or.inr (Or.inr (Or.inr (Or.inr (Or.inr (Or.inr (Or.inr (Or.inr (Or.inl (⟨(i - 262) / 2, by omega, by omega⟩)))))))))))))))))))))))))))))))))))))))))))))))))))))))))))))
      · exact Or.inr (Or.inr (Or.inr (Or.inr (Or.inr (Or.inr (Or.inr (Or.inr (Or.inr (Or.inr (Or.inr (Or.inr (Or.inr (Or.inr (Or.inr (Or.inr (Or.inr (Or.inr (Or.inr (Or.inr (Or.inr (Or.inr (Or.inr (Or.inr (Or.inr (Or.inr (Or.inr (Or.inr (Or.inr (Or.inr (Or.inr (Or.inr (Or.inr (Or.inr (Or.inr (Or.inr (Or.inr (Or.inr (Or.inr (Or.inr (Or.inr (Or.inr (Or.inr (Or.inr (Or.inr (Or.inr (Or.inr (Or.inr (Or.inr (Or.inr (Or.inr (Or.inr (Or.inr (Or.inr (Or.inr (Or.inr (Or.inr (Or.inr (Or.inr (Or.inr (Or.inr (Or.inl (⟨(i - 262) / 2, by omega, by omega⟩))))))))))))))))))))))))))))))))))))))))))))))))))))))))))))))
    by_cases r288 : 288 ≤ i ∧ i < 306
    · have hm : (i - 288) % 2 = 0 ∨ (i - 288) % 2 = 1 := by omega
      rcases hm with m | m
      · exact Or.inr (Or.inr (Or.inr (Or.inr (Or.inr (Or.inr (Or.inr (Or.inr (Or.inr (Or.inr (Or.inr (Or.inr (Or.inr (Or.inr (Or.inr (Or.inr (Or.inr (Or.inr (Or.inr (Or.inr (Or.inr (Or.inr (Or.inr (Or.inr (Or.inr (Or.inr (Or.inr (Or.inr (Or.inr (Or.inr (Or.inr (Or.inr (Or.inr (Or.inr (Or.inr (Or.inr (Or.inr (Or.inr (Or.inr (Or.inr (Or.inr (Or.inr (Or.inr (Or.inr (Or.inr (Or.inr (Or.inr (Or.inr (Or.inr (Or.inr (Or.inr (Or.inr (Or.inr (Or.inr (Or.inr (Or.inr (Or.inr (Or.inr (Or.inr (Or.inr (Or.inr (Or.inr (Or.inl (⟨(i - 288) / 2, by omega, by omega⟩)))))))))))))))))))))))))))))))))))))))))))))))))))))))))))))))
      · exact Or.inr (Or.inr (Or.inr (Or.inr (Or.inr (Or.inr (Or.inr (Or.inr (Or.inr (Or.inr (Or.inr (Or.inr (Or.inr (Or.inr (Or.inr (Or.inr (Or.inr (Or.inr (Or.inr (Or.inr (Or.inr (Or.inr (Or.inr (Or.inr (Or.inr (Or.inr (Or.inr (Or.inr (Or.inr (Or.inr (Or.inr (Or.inr (Or.inr (Or.inr (Or.inr (Or.inr (Or.inr (Or.inr (Or.inr (Or.inr (Or.inr (Or.inr (Or.inr (Or.inr (Or.inr (Or.inr (Or.inr (Or.inr (Or.inr (Or.inr (Or.inr (Or.inr (Or.inr (Or.inr (Or.inr (Or.inr (Or.inr (Or.inr (Or.inr (Or.inr (Or.inr (Or.inr (Or.inr (Or.inl (⟨(i - 288) / 2, by omega, by omega⟩))))))))))))))))))))))))))))))))))))))))))))))))))))))))))))))))
    by_cases r308 : 308 ≤ i ∧ i < 317
    · exact Or.inr (Or.inr (Or.inr (Or.inr (Or.inr (Or.inr (Or.inr (Or.inr (Or.inr (Or.inr (Or.inr (Or.inr (Or.inr (Or.inr (Or.inr (Or.inr (Or.inr (Or.inr (Or.inr (Or.inr (Or.inr (Or.inr (Or.inr (Or.inr (Or.inr (Or.inr (Or.inr (Or.inr (Or.inr (Or.inr (Or.inr (Or.inr (Or.inr (Or.inr (Or.inr (Or.inr (Or.inr (Or.inr (Or.inr (Or.inr (Or.inr (Or.inr (Or.inr (Or.inr (Or.inr (Or.inr (Or.inr (Or.inr (Or.inr (Or.inr (Or.inr (Or.inr (Or.inr (Or.inr (Or.inr (Or.inr (Or.inr (Or.inr (Or.inr (Or.inr (Or.inr (Or.inr (Or.inr (Or.inr (Or.inl (⟨i - 308, by omega, by omega⟩)))))))))))))))))))))))))))))))))))))))))))))))))))))))))))))))))
    by_cases r321 : 321 ≤ i ∧ i < 330
    · exact Or.inr (Or.inr (Or.inr (Or.inr (Or.inr (Or.inr (Or.inr (Or.inr (Or.inr (Or.inr (Or.inr (Or.inr (Or.inr (Or.inr (Or.inr (Or.inr (Or.inr (Or.inr (Or.inr (Or.inr (Or.inr (Or.inr (Or.inr (Or.inr (Or.inr (Or.inr (Or.inr (Or.inr (Or.inr (Or.inr (Or.inr (Or.inr (Or.inr (Or.inr (Or.inr (Or.inr (Or.inr (Or.inr (Or.inr (Or.inr (Or.inr (Or.inr (Or.inr (Or.inr (Or.inr (Or.inr (Or.inr (Or.inr (Or.inr (Or.inr (Or.inr (Or.inr (Or.inr (Or.inr (Or.inr (Or.inr (Or.inr (Or.inr (Or.inr (Or.inr (Or.inr (Or.inr (Or.inr (Or.inr (Or.inr ((⟨i - 321, by omega, by omega⟩))))))))))))))))))))))))))))))))))))))))))))))))))))))))))))))))))
    omega
  rcases hcase with hc | hc | hc | hc | hc | hc | hc | hc | hc | hc | hc | hc | hc | hc | hc | hc | hc | hc | hc | hc | hc | hc | hc | hc | hc | hc | hc | hc | hc | hc | hc | hc | hc | hc | hc | hc | hc | hc | hc | hc | hc | hc | hc | hc | hc | hc | hc | hc | hc | hc | hc | hc | hc | hc | hc | hc | hc | hc | hc | hc | hc | hc | hc | hc | hc | hc
  · subst hc
    rw [s_h]
    exact (lx_ob (by decide) (by decide) (by show _ = [Value.ref (mg_r (sX b) (b + 0) 0), Value.ref (mg_r (sX b) (b + 0) 1), Value.ref (mg_r (sX b) (b + 0) 2), Value.ref (mg_r (sX b) (b + 0) 3), Value.ref (mg_r (sX b) (b + 0) 4), Value.ref (mg_r (sX b) (b + 0) 5), Value.ref (mg_r (sX b) (b + 0) 6)]; simp only [lx_r, lx_i]; rfl))
  · subst hc
    have q := s_0
    rw [show (1 : Nat) = 1 from rfl, q]
    exact lx_aq (k := 15) (by decide) (by decide) (by decide) (fun j hj => by rw [if_pos hj, (by decide : ∀ j, j < 8 → RX 1 j = 1 + 1 + 7 * j) j hj])
  · subst hc
    have q := s_1
    simp only [Nat.reduceAdd] at q
    rw [q]
    exact (lx_ob (by decide) (by decide) (by show _ = [Value.ref (mg_r (sX b) (b + 58) 0), Value.int (mg_i (sX b) (b + 58) 1), Value.int (mg_i (sX b) (b + 58) 2), Value.ref (mg_r (sX b) (b + 58) 3), Value.int (mg_i (sX b) (b + 58) 4), Value.int (mg_i (sX b) (b + 58) 5), Value.long (mg_l (sX b) (b + 58) 6), Value.int (mg_i (sX b) (b + 58) 7)]; simp only [lx_r, lx_i]; rw [lx_l _ _ _ (by decide)]; rfl))
  · subst hc
    have q := s_2
    simp only [Nat.reduceAdd] at q
    rw [q]
    exact lx_ai (k := 11) (by decide) (by decide) (by decide)
  · subst hc
    have q := s_3
    simp only [Nat.reduceAdd] at q
    rw [q]
    exact lx_al (by decide) (by decide) (by decide)
  · subst hc
    have q := s_4
    simp only [Nat.reduceAdd] at q
    rw [q]
    exact (lx_ob (by decide) (by decide) (by show _ = [Value.ref (mg_r (sX b) (b + 61) 0)]; simp only [lx_r, lx_i]; rfl))
  · subst hc
    have q := s_5
    simp only [Nat.reduceAdd] at q
    rw [q]
    exact lx_al (by decide) (by decide) (by decide)
  · subst hc
    have q := s_6
    simp only [Nat.reduceAdd] at q
    rw [q]
    exact (lx_ob (by decide) (by decide) (by show _ = [Value.ref (mg_r (sX b) (b + 63) 0), Value.ref (mg_r (sX b) (b + 63) 1), Value.ref (mg_r (sX b) (b + 63) 2), Value.int (mg_i (sX b) (b + 63) 3), Value.ref (mg_r (sX b) (b + 63) 4), Value.ref (mg_r (sX b) (b + 63) 5), Value.ref (mg_r (sX b) (b + 63) 6), Value.ref (mg_r (sX b) (b + 63) 7), Value.ref (mg_r (sX b) (b + 63) 8), Value.ref (mg_r (sX b) (b + 63) 9), Value.ref (mg_r (sX b) (b + 63) 10), Value.ref (mg_r (sX b) (b + 63) 11)]; simp only [lx_r, lx_i]; rfl))
  · subst hc
    have q := s_7
    rw [show (64 : Nat) = 1 + 63 from rfl, q]
    exact lx_aq (k := 14) (by decide) (by decide) (by decide) (fun j hj => by rw [if_pos hj, (by decide : ∀ j, j < 90 → RX 64 j = 1 + 81 + 2 * j) j hj])
  · subst hc
    have q := s_8
    simp only [Nat.reduceAdd] at q
    rw [q]
    exact lx_ai (k := 11) (by decide) (by decide) (by decide)
  · subst hc
    have q := s_9
    simp only [Nat.reduceAdd] at q
    rw [q]
    exact lx_ai (k := 11) (by decide) (by decide) (by decide)
  · subst hc
    have q := s_10
    rw [show (67 : Nat) = 1 + 66 from rfl, q]
    exact lx_aq (k := 14) (by decide) (by decide) (by decide) (fun j hj => by rw [if_pos hj, (by decide : ∀ j, j < 9 → RX 67 j = 1 + 261 + 2 * j) j hj])
  · subst hc
    have q := s_11
    simp only [Nat.reduceAdd] at q
    rw [q]
    exact lx_big (by decide) (by decide)
  · subst hc
    have q := s_12
    simp only [Nat.reduceAdd] at q
    rw [q]
    exact lx_al (by decide) (by decide) (by decide)
  · subst hc
    have q := s_13
    simp only [Nat.reduceAdd] at q
    rw [q]
    exact lx_big (by decide) (by decide)
  · subst hc
    have q := s_14
    simp only [Nat.reduceAdd] at q
    rw [q]
    exact lx_al (by decide) (by decide) (by decide)
  · subst hc
    have q := s_15
    simp only [Nat.reduceAdd] at q
    rw [q]
    exact lx_big (by decide) (by decide)
  · subst hc
    have q := s_16
    simp only [Nat.reduceAdd] at q
    rw [q]
    exact lx_al (by decide) (by decide) (by decide)
  · subst hc
    have q := s_17
    simp only [Nat.reduceAdd] at q
    rw [q]
    exact lx_big (by decide) (by decide)
  · subst hc
    have q := s_18
    simp only [Nat.reduceAdd] at q
    rw [q]
    exact lx_al (by decide) (by decide) (by decide)
  · subst hc
    have q := s_19
    simp only [Nat.reduceAdd] at q
    rw [q]
    exact lx_big (by decide) (by decide)
  · subst hc
    have q := s_20
    simp only [Nat.reduceAdd] at q
    rw [q]
    exact lx_al (by decide) (by decide) (by decide)
  · subst hc
    have q := s_21
    simp only [Nat.reduceAdd] at q
    rw [q]
    exact lx_big (by decide) (by decide)
  · subst hc
    have q := s_22
    simp only [Nat.reduceAdd] at q
    rw [q]
    exact lx_al (by decide) (by decide) (by decide)
  · subst hc
    have q := s_23
    simp only [Nat.reduceAdd] at q
    rw [q]
    exact lx_big (by decide) (by decide)
  · subst hc
    have q := s_24
    simp only [Nat.reduceAdd] at q
    rw [q]
    exact lx_al (by decide) (by decide) (by decide)
  · subst hc
    have q := s_25
    simp only [Nat.reduceAdd] at q
    rw [q]
    exact (lx_ob (by decide) (by decide) (by show _ = [Value.ref (mg_r (sX b) (b + 280) 0), Value.int (mg_i (sX b) (b + 280) 1), Value.ref (mg_r (sX b) (b + 280) 2), Value.ref (mg_r (sX b) (b + 280) 3), Value.ref (mg_r (sX b) (b + 280) 4)]; simp only [lx_r, lx_i]; rfl))
  · subst hc
    have q := s_26
    simp only [Nat.reduceAdd] at q
    rw [q]
    exact lx_big (by decide) (by decide)
  · subst hc
    have q := s_27
    simp only [Nat.reduceAdd] at q
    rw [q]
    exact lx_al (by decide) (by decide) (by decide)
  · subst hc
    have q := s_28
    rw [show (283 : Nat) = 1 + 282 from rfl, q]
    exact lx_aq (k := 14) (by decide) (by decide) (by decide) (fun j hj => by rw [if_pos hj, (by decide : ∀ j, j < 9 → RX 283 j = 1 + 287 + 2 * j) j hj])
  · subst hc
    have q := s_29
    simp only [Nat.reduceAdd] at q
    rw [q]
    exact lx_big (by decide) (by decide)
  · subst hc
    have q := s_30
    simp only [Nat.reduceAdd] at q
    rw [q]
    exact lx_al (by decide) (by decide) (by decide)
  · subst hc
    have q := s_31
    simp only [Nat.reduceAdd] at q
    rw [q]
    exact lx_big (by decide) (by decide)
  · subst hc
    have q := s_32
    simp only [Nat.reduceAdd] at q
    rw [q]
    exact lx_al (by decide) (by decide) (by decide)
  · subst hc
    have q := s_33
    simp only [Nat.reduceAdd] at q
    rw [q]
    exact (lx_ob (by decide) (by decide) (by show _ = [Value.ref (mg_r (sX b) (b + 306) 0), Value.ref (mg_r (sX b) (b + 306) 1), Value.int (mg_i (sX b) (b + 306) 2), Value.ref (mg_r (sX b) (b + 306) 3), Value.ref (mg_r (sX b) (b + 306) 4)]; simp only [lx_r, lx_i]; rfl))
  · subst hc
    have q := s_34
    rw [show (307 : Nat) = 1 + 306 from rfl, q]
    exact lx_aq (k := 16) (by decide) (by decide) (by decide) (fun j hj => by rw [if_pos hj, (by decide : ∀ j, j < 9 → RX 307 j = 1 + 306 + 1 + j) j hj])
  · subst hc
    have q := s_35
    simp only [Nat.reduceAdd] at q
    rw [q]
    exact lx_ai (k := 11) (by decide) (by decide) (by decide)
  · subst hc
    have q := s_36
    simp only [Nat.reduceAdd] at q
    rw [q]
    exact lx_al (by decide) (by decide) (by decide)
  · subst hc
    have q := s_37
    simp only [Nat.reduceAdd] at q
    rw [q]
    exact (lx_ob (by decide) (by decide) (by show _ = [Value.ref (mg_r (sX b) (b + 319) 0), Value.ref (mg_r (sX b) (b + 319) 1), Value.ref (mg_r (sX b) (b + 319) 2), Value.ref (mg_r (sX b) (b + 319) 3), Value.ref (mg_r (sX b) (b + 319) 4), Value.int (mg_i (sX b) (b + 319) 5), Value.int (mg_i (sX b) (b + 319) 6), Value.ref (mg_r (sX b) (b + 319) 7), Value.ref (mg_r (sX b) (b + 319) 8), Value.ref (mg_r (sX b) (b + 319) 9), Value.ref (mg_r (sX b) (b + 319) 10), Value.ref (mg_r (sX b) (b + 319) 11), Value.ref (mg_r (sX b) (b + 319) 12), Value.ref (mg_r (sX b) (b + 319) 13), Value.int (mg_i (sX b) (b + 319) 14)]; simp only [lx_r, lx_i]; rfl))
  · subst hc
    have q := s_38
    rw [show (320 : Nat) = 1 + 319 from rfl, q]
    exact lx_aq (k := 16) (by decide) (by decide) (by decide) (fun j hj => by rw [if_pos hj, (by decide : ∀ j, j < 9 → RX 320 j = 1 + 319 + 1 + j) j hj])
  · subst hc
    have q := s_39
    simp only [Nat.reduceAdd] at q
    rw [q]
    exact lx_al (by decide) (by decide) (by decide)
  · subst hc
    have q := s_40
    simp only [Nat.reduceAdd] at q
    rw [q]
    exact lx_al (by decide) (by decide) (by decide)
  · subst hc
    have q := s_41
    simp only [Nat.reduceAdd] at q
    rw [q]
    exact lx_al (by decide) (by decide) (by decide)
  · subst hc
    have q := s_42
    simp only [Nat.reduceAdd] at q
    rw [q]
    exact lx_ai (k := 11) (by decide) (by decide) (by decide)
  · subst hc
    have q := s_43
    simp only [Nat.reduceAdd] at q
    rw [q]
    exact lx_ai (k := 11) (by decide) (by decide) (by decide)
  · subst hc
    have q := s_44
    simp only [Nat.reduceAdd] at q
    rw [q]
    exact lx_big (by decide) (by decide)
  · subst hc
    have q := s_45
    simp only [Nat.reduceAdd] at q
    rw [q]
    exact lx_al (by decide) (by decide) (by decide)
  · subst hc
    have q := s_46
    simp only [Nat.reduceAdd] at q
    rw [q]
    exact lx_big (by decide) (by decide)
  · subst hc
    have q := s_47
    simp only [Nat.reduceAdd] at q
    rw [q]
    exact lx_al (by decide) (by decide) (by decide)
  · subst hc
    have q := s_48
    simp only [Nat.reduceAdd] at q
    rw [q]
    exact lx_big (by decide) (by decide)
  · subst hc
    have q := s_49
    simp only [Nat.reduceAdd] at q
    rw [q]
    exact (by rw [rr_cJ ((rl_K D cy b 340).trans (by decide)), rl_N]; exact ⟨rfl, rfl, fun j _ => by simp [mg_l, sX]⟩)
  · obtain ⟨j, hj, rfl⟩ := hc
    rw [(f_0 j hj).1]
    exact (lx_ob (k := 7) ((by decide : ∀ j, j < 8 → KX (1 + 1 + 7 * j) = 7) j hj) (by decide) (by show _ = [Value.ref (mg_r (sX b) (b + (1 + 1 + 7 * j)) 0), Value.int (mg_i (sX b) (b + (1 + 1 + 7 * j)) 1), Value.int (mg_i (sX b) (b + (1 + 1 + 7 * j)) 2), Value.int (mg_i (sX b) (b + (1 + 1 + 7 * j)) 3), Value.int (mg_i (sX b) (b + (1 + 1 + 7 * j)) 4), Value.int (mg_i (sX b) (b + (1 + 1 + 7 * j)) 5), Value.int (mg_i (sX b) (b + (1 + 1 + 7 * j)) 6), Value.ref (mg_r (sX b) (b + (1 + 1 + 7 * j)) 7), Value.ref (mg_r (sX b) (b + (1 + 1 + 7 * j)) 8), Value.int (mg_i (sX b) (b + (1 + 1 + 7 * j)) 9), Value.ref (mg_r (sX b) (b + (1 + 1 + 7 * j)) 10), Value.ref (mg_r (sX b) (b + (1 + 1 + 7 * j)) 11), Value.ref (mg_r (sX b) (b + (1 + 1 + 7 * j)) 12)]; simp only [lx_r, lx_i]; rw [(by decide : ∀ j, j < 8 → RX (1 + 1 + 7 * j) 0 = 1 + 1 + 7 * j + 1) j hj]; rw [(by decide : ∀ j, j < 8 → RX (1 + 1 + 7 * j) 7 = 1 + 1 + 7 * j + 1 + 1) j hj]; rw [(by decide : ∀ j, j < 8 → RX (1 + 1 + 7 * j) 8 = 1 + 1 + 7 * j + 1 + 2) j hj]; rw [(by decide : ∀ j, j < 8 → RX (1 + 1 + 7 * j) 10 = 1 + 1 + 7 * j + 1 + 3) j hj]; rw [(by decide : ∀ j, j < 8 → RX (1 + 1 + 7 * j) 11 = 1 + 1 + 7 * j + 1 + 4) j hj]; rw [(by decide : ∀ j, j < 8 → RX (1 + 1 + 7 * j) 12 = 1 + 1 + 7 * j + 1 + 5) j hj]; rw [(by decide : ∀ j, j < 8 → KX (1 + 1 + 7 * j) = 7) j hj]; simp))
  · obtain ⟨j, hj, rfl⟩ := hc
    rw [(f_0 j hj).2.1]
    exact lx_al ((by decide : ∀ j, j < 8 → KX (1 + 1 + 7 * j + 1) = 12) j hj) (by omega) ((by decide : ∀ j, j < 8 → NX (1 + 1 + 7 * j + 1) = 9) j hj)
  · obtain ⟨j, hj, rfl⟩ := hc
    rw [(f_0 j hj).2.2.1]
    exact lx_ai (k := 11) ((by decide : ∀ j, j < 8 → KX (1 + 1 + 7 * j + 1 + 1) = 11) j hj) (by decide) ((by decide : ∀ j, j < 8 → NX (1 + 1 + 7 * j + 1 + 1) = 10) j hj)
  · obtain ⟨j, hj, rfl⟩ := hc
    rw [(f_0 j hj).2.2.2.1]
    exact lx_ai (k := 11) ((by decide : ∀ j, j < 8 → KX (1 + 1 + 7 * j + 1 + 2) = 11) j hj) (by decide) ((by decide : ∀ j, j < 8 → NX (1 + 1 + 7 * j + 1 + 2) = 10) j hj)
  · obtain ⟨j, hj, rfl⟩ := hc
    rw [(f_0 j hj).2.2.2.2.1]
    exact lx_al ((by decide : ∀ j, j < 8 → KX (1 + 1 + 7 * j + 1 + 3) = 12) j hj) (by omega) ((by decide : ∀ j, j < 8 → NX (1 + 1 + 7 * j + 1 + 3) = 8) j hj)
  · obtain ⟨j, hj, rfl⟩ := hc
    rw [(f_0 j hj).2.2.2.2.2.1]
    exact lx_ai (k := 13) ((by decide : ∀ j, j < 8 → KX (1 + 1 + 7 * j + 1 + 4) = 13) j hj) (by decide) ((by decide : ∀ j, j < 8 → NX (1 + 1 + 7 * j + 1 + 4) = 8) j hj)
  · obtain ⟨j, hj, rfl⟩ := hc
    rw [(f_0 j hj).2.2.2.2.2.2]
    exact lx_ai (k := 11) ((by decide : ∀ j, j < 8 → KX (1 + 1 + 7 * j + 1 + 5) = 11) j hj) (by decide) ((by decide : ∀ j, j < 8 → NX (1 + 1 + 7 * j + 1 + 5) = 8) j hj)
  · obtain ⟨j, hj, rfl⟩ := hc
    rw [(f_1 j hj).1]
    exact lx_big ((by decide : ∀ j, j < 90 → KX (1 + 81 + 2 * j) = 0) j hj) ((by decide : ∀ j, j < 90 → RX (1 + 81 + 2 * j) 0 = 1 + 81 + 2 * j + 1) j hj)
  · obtain ⟨j, hj, rfl⟩ := hc
    rw [(f_1 j hj).2]
    exact lx_al ((by decide : ∀ j, j < 90 → KX (1 + 81 + 2 * j + 1) = 12) j hj) (by omega) ((by decide : ∀ j, j < 90 → NX (1 + 81 + 2 * j + 1) = 24) j hj)
  · obtain ⟨j, hj, rfl⟩ := hc
    rw [(f_2 j hj).1]
    exact lx_big ((by decide : ∀ j, j < 9 → KX (1 + 261 + 2 * j) = 0) j hj) ((by decide : ∀ j, j < 9 → RX (1 + 261 + 2 * j) 0 = 1 + 261 + 2 * j + 1) j hj)
  · obtain ⟨j, hj, rfl⟩ := hc
    rw [(f_2 j hj).2]
    exact lx_al ((by decide : ∀ j, j < 9 → KX (1 + 261 + 2 * j + 1) = 12) j hj) (by omega) ((by decide : ∀ j, j < 9 → NX (1 + 261 + 2 * j + 1) = 96) j hj)
  · obtain ⟨j, hj, rfl⟩ := hc
    rw [(f_3 j hj).1]
    exact lx_big ((by decide : ∀ j, j < 9 → KX (1 + 287 + 2 * j) = 0) j hj) ((by decide : ∀ j, j < 9 → RX (1 + 287 + 2 * j) 0 = 1 + 287 + 2 * j + 1) j hj)
  · obtain ⟨j, hj, rfl⟩ := hc
    rw [(f_3 j hj).2]
    exact lx_al ((by decide : ∀ j, j < 9 → KX (1 + 287 + 2 * j + 1) = 12) j hj) (by omega) ((by decide : ∀ j, j < 9 → NX (1 + 287 + 2 * j + 1) = 4) j hj)
  · obtain ⟨j, hj, rfl⟩ := hc
    rw [f_4 j hj]
    exact lx_al ((by decide : ∀ j, j < 9 → KX (1 + 307 + j) = 12) j hj) (by omega) ((by decide : ∀ j, j < 9 → NX (1 + 307 + j) = 9) j hj)
  · obtain ⟨j, hj, rfl⟩ := hc
    rw [f_5 j hj]
    exact lx_al ((by decide : ∀ j, j < 9 → KX (1 + 320 + j) = 12) j hj) (by omega) ((by decide : ∀ j, j < 9 → NX (1 + 320 + j) = 9) j hj)
