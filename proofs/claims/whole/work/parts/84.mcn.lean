/-! ===== the model: changes at a place, whole ===== -/
theorem scv_le : ∀ (l : List Int) (b : Int), scv b l ≤ l.length
  | [], _ => Nat.le_refl _
  | s :: t, b => by
    simp only [scv, List.length_cons]
    split
    · have := scv_le t b; omega
    · have := scv_le t s
      split <;> omega
theorem srw_len (e : Nat → Rat → Rat) (x : Rat) : ∀ (m i : Nat), (srw e x i m).length = m + 1
  | 0, _ => rfl
  | m + 1, i => by simp only [srw, List.length_cons, srw_len e x m]
theorem vcs_le (e : Nat → Pl) (n : Nat) (x : Rat) : vcs e n x ≤ n + 1 := by
  have := scv_le (srw (fun k => vl (e k)) x 0 n) 0
  rw [srw_len] at this
  exact this
theorem chg_ok {fu C first s' M e s : Nat} {σ : rr_M} {Y : Nat → Int} {p q : Pl} {x : Int} (hfu : 70000 < fu) (hY : LM C σ Y) (h : gdp p q s') (he : ends p q M) (hM : M ≤ 10) (hf : first + 11 ≤ 48) (h15 : Y 15 = x) (sx : szb e x) (hse : s ≤ e) (hee : 600 + dgg p * (e + 1) ≤ 3000) (hs : s < 3000) (hR : mrs C first (M - 1) σ Y p q) :
    wq (f_Mod_changes fu (nm C) C (nI first) (nI M) (nI s) σ) (fun y => y.1 = nI (vcs (cc p q) (M - 1) ((x : Rat) / (2 : Rat) ^ s)) ∧ frm C σ y.2 ∧ ∃ Y', LM C y.2 Y' ∧ (∀ t, t ≠ 16 → t ≠ 17 → t ≠ 18 → t ≠ 19 → Y' t = Y t)) := by
  have h2 := he.1
  have hv := vcs_le (cc p q) (M - 1) ((x : Rat) / (2 : Rat) ^ s)
  unfold f_Mod_changes
  refine chg_l (V := vcs (cc p q) (M - 1) ((x : Rat) / (2 : Rat) ^ s)) hfu h he hM hf h15 sx hse hee hs hR (by omega) ?_ M fu 0 0 0 σ Y (by omega) (by omega) hY (frm_rfl _ _) (fun _ _ _ _ _ => rfl) (Or.inr (Or.inr rfl)) ?_
  · intro σ1 Y1 L1 F1 O1
    exact wq_some ⟨rfl, F1, Y1, L1, O1⟩
  · rw [if_neg (by omega), Nat.zero_add]
    rfl
