/-! ===== the levels ===== -/
/-- F 0, F 1, .. F m: each what the one ahead shares with its derivative; the last is 1 -/
def lvs (F : Nat → Pl) (Ml : Nat → Nat) (m : Nat) : Prop := (∀ l, l < m → 0 < dgg (F l) ∧ (∃ s, gdp (F l) (der (F l)) s) ∧ ends (F l) (der (F l)) (Ml l) ∧ F (l + 1) = ppt (mm (F l) (der (F l)) (Ml l - 1))) ∧ 0 < m ∧ dgg (F m) = 0
noncomputable def hl (F : Nat → Pl) (Ml : Nat → Nat) (l : Nat) : Pl := cof (F l) (der (F l)) (Ml l) 0
noncomputable def el (F : Nat → Pl) (Ml : Nat → Nat) (l : Nat) : Pl := cof (F l) (der (F l)) (Ml l) 1
theorem hl_ok {F : Nat → Pl} {Ml : Nat → Nat} {m l : Nat} (H : lvs F Ml m) (h : l < m) : fin (hl F Ml l) ∧ F l = pmu (F (l + 1)) (hl F Ml l) ∧ fin (el F Ml l) ∧ der (F l) = pmu (F (l + 1)) (el F Ml l) ∧ F (l + 1) ≠ pz ∧ cpr (hl F Ml l) (el F Ml l) := by
  obtain ⟨h1, ⟨s, h2⟩, h3, h4⟩ := H.1 l h
  have e2 := h3.1
  obtain ⟨a1, a2⟩ := cof_ok h2 h3 (show 0 < Ml l by omega)
  obtain ⟨b1, b2⟩ := cof_ok h2 h3 (show 1 < Ml l by omega)
  obtain ⟨l1, l2⟩ := ends_last h2 h3
  rw [← h4] at a2 b2
  refine ⟨a1, a2, b1, b2, by rw [h4]; exact ppt_nz l1 l2, ?_⟩
  have hst := cce_st h2 h3
  have hc := stch_cpr hst (Ml l - 1 - 1 - 0) 0 (by omega)
  have e0 : cce (F l) (der (F l)) (Ml l) 0 = hl F Ml l := pl_ext (fun t => by show 1 * _ = _; rw [Int.one_mul]; rfl)
  have e1 : cce (F l) (der (F l)) (Ml l) (0 + 1) = el F Ml l := pl_ext (fun t => by show 1 * _ = _; rw [Int.one_mul]; rfl)
  rw [e0, e1] at hc
  exact hc
theorem prm_one {f : Pl} (h9 : pbd 1 f) (hp : prm f) (h0 : 0 < f 0) : f = pcn 1 := by
  have h1 := hp (f 0).natAbs (fun k => by
    by_cases hk : k = 0
    · subst hk; exact Int.natAbs_dvd.mpr (Int.dvd_refl _)
    · rw [h9 k (by omega)]; exact Int.dvd_zero _)
  refine pl_ext (fun n => ?_)
  show f n = if n = 0 then 1 else 0
  by_cases hn : n = 0
  · subst hn; rw [if_pos rfl]; omega
  · rw [if_neg hn]; exact h9 n (by omega)
theorem lvs_last {F : Nat → Pl} {Ml : Nat → Nat} {m : Nat} (H : lvs F Ml m) : F m = pcn 1 := by
  obtain ⟨h1, ⟨s, h2⟩, h3, h4⟩ := H.1 (m - 1) (by have := H.2.1; omega)
  have hm := H.2.1
  rw [show m - 1 + 1 = m by omega] at h4
  obtain ⟨l1, l2⟩ := ends_last h2 h3
  obtain ⟨g1, g2, g3, g4, g5, g6⟩ := ppt_ok l1 l2
  have hd : dgg (mm (F (m - 1)) (der (F (m - 1))) (Ml (m - 1) - 1)) = 0 := by
    have e := dln_dgr g5 (by have := dgg_lt (mm (F (m - 1)) (der (F (m - 1))) (Ml (m - 1) - 1)); omega)
    have hz := H.2.2
    rw [h4] at hz
    unfold dgg at hz
    rw [e] at hz
    omega
  rw [hd] at g5 g6
  rw [h4]
  exact prm_one g5.2 g1 g6
/-- each h has no root in common with its derivative; where it turns the two derivatives have one sign -/
theorem lvs_A {F : Nat → Pl} {Ml : Nat → Nat} {m : Nat} (H : lvs F Ml m) : ∀ j, j < m → cpr (hl F Ml (m - 1 - j)) (der (hl F Ml (m - 1 - j))) ∧ (∀ M, 0 ≤ M → nr M (fun x y => ¬ kp (vl (hl F Ml (m - 1 - j))) x y → sgq (vl (el F Ml (m - 1 - j)) x) = sgq (vl (der (hl F Ml (m - 1 - j))) x)))
  | 0, hj => by
    obtain ⟨a1, a2, a3, a4, a5, a6⟩ := hl_ok H (show m - 1 - 0 < m by omega)
    rw [show m - 1 - 0 + 1 = m by omega, lvs_last H, pmu_one] at a2 a4
    have e : el F Ml (m - 1 - 0) = der (hl F Ml (m - 1 - 0)) := by rw [← a4, a2]
    rw [e] at a6
    exact ⟨a6, fun M _ => nr_tt (fun x y _ _ _ _ => by rw [e])⟩
  | j + 1, hj => by
    obtain ⟨c1, c2⟩ := lvs_A H j (by omega)
    obtain ⟨l, hl9⟩ : ∃ l, l = m - 1 - (j + 1) := ⟨_, rfl⟩
    rw [show m - 1 - j = l + 1 by omega] at c1 c2
    rw [← hl9]
    obtain ⟨a1, a2, a3, a4, a5, a6⟩ := hl_ok H (show l < m by omega)
    obtain ⟨b1, b2, b3, b4, b5, b6⟩ := hl_ok H (show l + 1 < m by omega)
    have hA := lev_a a2 a4 b2 b4 b5
    obtain ⟨K, w, hK, fw, e1, e2⟩ := lev_b a1 a3 hA b6
    have d0 := lev_c hK a1 b1 b3 fw e1 e2 a6 c1
    have d1 := lev_d hK b1 fw e1 d0
    exact ⟨d0, fun M hM => lev_e hM hK a1 b1 a3 b3 fw e1 e2 d0 d1 (c2 M hM)⟩
theorem lvs_B {F : Nat → Pl} {Ml : Nat → Nat} {m l : Nat} (H : lvs F Ml m) (h : l < m) : cpr (hl F Ml l) (der (hl F Ml l)) ∧ (∀ M, 0 ≤ M → drc M (hl F Ml l) (el F Ml l)) ∧ (∀ M, 0 ≤ M → drc M (hl F Ml l) (der (hl F Ml l))) := by
  have := lvs_A H (m - 1 - l) (by omega)
  rw [show m - 1 - (m - 1 - l) = l by omega] at this
  obtain ⟨c1, c2⟩ := this
  have f1 := (hl_ok H h).1
  exact ⟨c1, fun M hM => drc_sgn (drc_der hM f1 c1) (c2 M hM), fun M hM => drc_der hM f1 c1⟩
theorem lvs_jmp {F : Nat → Pl} {Ml : Nat → Nat} {m l : Nat} (H : lvs F Ml m) (h : l + 1 < m) {M : Rat} (hM : 0 ≤ M) : nr M (fun x y => jmp (hl F Ml (l + 1)) x y ≤ jmp (hl F Ml l) x y) := by
  obtain ⟨a1, a2, a3, a4, a5, a6⟩ := hl_ok H (show l < m by omega)
  obtain ⟨b1, b2, b3, b4, b5, b6⟩ := hl_ok H h
  have hA := lev_a a2 a4 b2 b4 b5
  obtain ⟨K, w, hK, fw, e1, e2⟩ := lev_b a1 a3 hA b6
  have d1 := lev_d hK b1 fw e1 (lvs_B H (show l < m by omega)).1
  exact lev_jmp hM hK a1 b1 fw e1 d1
/-- the sequence of a level counts where h turns -/
theorem lvs_stv {F : Nat → Pl} {Ml : Nat → Nat} {m l : Nat} (H : lvs F Ml m) (h : l < m) : stv (hl F Ml l) (vcs (cce (F l) (der (F l)) (Ml l)) (Ml l - 1)) := by
  obtain ⟨h1, ⟨s, h2⟩, h3, h4⟩ := H.1 l h
  have e2 := h3.1
  have hst := cce_st h2 h3
  have e0 : cce (F l) (der (F l)) (Ml l) 0 = hl F Ml l := pl_ext (fun t => by show 1 * _ = _; rw [Int.one_mul]; rfl)
  have e1 : cce (F l) (der (F l)) (Ml l) 1 = el F Ml l := pl_ext (fun t => by show 1 * _ = _; rw [Int.one_mul]; rfl)
  intro M hM
  have hd := (lvs_B H h).2.1 M hM
  rw [← e0, ← e1] at hd
  have := stu_near hM hst (by omega) hd
  rw [e0] at this
  exact this
