/-! ===== the model: frames, layers ===== -/
def mfr (C : Nat) (σ σ' : rr_M) : Prop := mg_r σ' = mg_r σ ∧ (∀ a, a ≠ C + 4 → a ≠ C + 5 → a ≠ C + 8 → mg_l σ' a = mg_l σ a) ∧ (∀ i, i < 72 → mg_l σ' (C + 8) i = mg_l σ (C + 8) i) ∧ (∀ a, a ≠ C → a ≠ C + 1 → a ≠ C + 2 → a ≠ C + 3 → a ≠ C + 6 → a ≠ C + 7 → a ≠ C + 9 → a ≠ C + 10 → mg_i σ' a = mg_i σ a) ∧ (∀ k, k ≠ 0 → k ≠ 11 → mg_i σ' C k = mg_i σ C k)
theorem mfr_rf {C : Nat} {σ : rr_M} : mfr C σ σ := ⟨rfl, fun _ _ _ _ => rfl, fun _ _ => rfl, fun _ _ _ _ _ _ _ _ _ => rfl, fun _ _ _ => rfl⟩
theorem mfr_tr {C : Nat} {σ σ' σ'' : rr_M} (h : mfr C σ σ') (h' : mfr C σ' σ'') : mfr C σ σ'' := ⟨h'.1.trans h.1, fun a x y z => (h'.2.1 a x y z).trans (h.2.1 a x y z), fun i x => (h'.2.2.1 i x).trans (h.2.2.1 i x), fun a x1 x2 x3 x4 x5 x6 x7 x8 => (h'.2.2.2.1 a x1 x2 x3 x4 x5 x6 x7 x8).trans (h.2.2.2.1 a x1 x2 x3 x4 x5 x6 x7 x8), fun k x y => (h'.2.2.2.2 k x y).trans (h.2.2.2.2 k x y)⟩
theorem frq_mfr {C a b : Nat} {σ σ' : rr_M} (h : frq C a b σ σ') : mfr C σ σ' := ⟨h.1, fun x h1 h2 _ => h.2.1 x h1 h2, fun i _ => by rw [h.2.1 (C + 8) (by omega) (by omega)], fun x _ h1 h2 h3 h4 h5 _ _ => h.2.2.1 x h1 h2 h3 h4 h5, fun k _ _ => by rw [h.2.2.1 C (by omega) (by omega) (by omega) (by omega) (by omega)]⟩
theorem frm_mfr {C : Nat} {σ σ' : rr_M} (h : frm C σ σ') : mfr C σ σ' := frq_mfr (frm_frq h 0 0)
theorem frl_mfr {C rp : Nat} {σ σ' : rr_M} (h : frl C rp σ σ') (hr : 8 ≤ rp) : mfr C σ σ' := ⟨h.1, fun x h1 h2 h3 => h.2.2.1 x h1 h2 h3, fun i hi => h.2.2.2 i (by omega), fun x _ h1 h2 h3 _ _ _ _ => h.2.1 x h1 h2 h3, fun k _ _ => by rw [h.2.1 C (by omega) (by omega) (by omega)]⟩
theorem mw_mfr {C : Nat} {σ : rr_M} {g : Nat → Int64} (h : ∀ i, i < 72 → g i = mg_l σ (C + 8) i) : mfr C σ (mw_l σ (C + 8) g) := ⟨rfl, fun x _ _ h3 => mw_gn _ h3, fun i hi => by rw [mw_gsk]; exact h i hi, fun _ _ _ _ _ _ _ _ _ => rfl, fun _ _ _ => rfl⟩
theorem mi_mfr {C k : Nat} {σ : rr_M} {v : Int32} (h : k = 0 ∨ k = 11) : mfr C σ (ms_i σ C k v) := ⟨rfl, fun _ _ _ _ => rfl, fun _ _ => rfl, fun x h0 _ _ _ _ _ _ _ => si_row h0, fun j _ _ => si_n (by omega)⟩
theorem mr_mfr {C k o : Nat} {σ : rr_M} {v : Int32} (h : o = 9 ∨ o = 10) : mfr C σ (ms_i σ (C + o) k v) := ⟨rfl, fun _ _ _ _ => rfl, fun _ _ => rfl, fun x _ _ _ _ _ _ h9 h10 => si_row (by omega), fun j _ _ => si_n (by omega)⟩
theorem mpo_mfr {C t : Nat} {σ σ' : rr_M} {f : Pl} (h : mfr C σ σ') (ht : t < 8) (hf : mpo C σ t f) : mpo C σ' t f := fun k hk => by rw [h.2.2.1 _ (by omega)]; exact hf k hk
noncomputable def us (P : Pl) (l : Nat) : Nat := smn l (fun k => MH P k + 1)
theorem MH_le {P : Pl} {l : Nat} (hP : pok P) (hd : 0 < dgg P) (h : l < dep P) : MH P l ≤ dgg (HL P l) + 1 ∧ 2 ≤ MH P l ∧ MH P l ≤ 9 := by
  obtain ⟨v1, v2, ⟨s, v3⟩, v4, v5, v6, v7⟩ := HL_ok hP hd h
  have a := ends_le v3.1 v3.2.1 v3.2.2.2.2.1 v4
  have b := dgg_lt (HL P l)
  have c := (dgg_der v1.1 v2).2.1
  exact ⟨by omega, v4.1, by omega⟩
theorem us_le {P : Pl} (hP : pok P) (hd : 0 < dgg P) : ∀ l, l ≤ dep P → us P l + dgg (FF P l) ≤ dgg P + 2 * l
  | 0, _ => by
    show 0 + dgg P ≤ dgg P + 2 * 0
    omega
  | l + 1, h => by
    have a := us_le hP hd l (by omega)
    have b := MH_le hP hd (show l < dep P by omega)
    have v7 := (HL_ok hP hd (show l < dep P by omega)).2.2.2.2.2.2
    have : us P (l + 1) = us P l + (MH P l + 1) := rfl
    omega
theorem us_22 {P : Pl} {l : Nat} (hP : pok P) (hd : 0 < dgg P) (h : l < dep P) : us P l ≤ 21 := by
  have a := us_le hP hd l (by omega)
  have b := (dep_ok hP (dg_dln hd)).1 l h
  have c := (dep_ok hP (dg_dln hd)).2.2.1
  have d := dgg_lt P
  omega
theorem us_mono {P : Pl} {i : Nat} : ∀ l, i < l → us P i + (MH P i + 1) ≤ us P l
  | 0, h => absurd h (by omega)
  | l + 1, h => by
    have e : us P (l + 1) = us P l + (MH P l + 1) := rfl
    by_cases hi : i = l
    · subst hi; omega
    · have := us_mono (P := P) (i := i) l (by omega)
      omega
/-- the model's layers -/
def lyd (C l : Nat) (σ : rr_M) (Y : Nat → Int) (P : Pl) : Prop := LM C σ Y ∧ mg_i σ C 11 = nI l ∧ ∀ i, i < l → mg_i σ (C + 9) i = nI (us P i) ∧ mg_i σ (C + 10) i = nI (MH P i) ∧ mrs C (us P i) (MH P i - 1) σ Y (HL P i) (der (HL P i))
theorem mrs_mv {C first k a b : Nat} {σ σ' : rr_M} {Y Y' : Nat → Int} {p q : Pl} (h : mrs C first k σ Y p q) (F : frq C a b σ σ') (hk : first + k < a) (hY : ∀ s, 15 ≤ s → s < slt a 0 → Y' s = Y s) : mrs C first k σ' Y' p q := fun i hi => by
  obtain ⟨x1, x2, x3⟩ := h i hi
  refine ⟨fun j hj => ?_, ?_, ?_⟩
  · rw [hY _ (by unfold slt; omega) (by unfold slt; omega)]
    exact x1 j hj
  · rw [(F.2.2.2 _ (by omega)).1]; exact x2
  · rw [(F.2.2.2 _ (by omega)).2]; exact x3
theorem mrs_eq {C first k : Nat} {σ σ' : rr_M} {Y Y' : Nat → Int} {p q : Pl} (h : mrs C first k σ Y p q) (h6 : mg_i σ' (C + 6) = mg_i σ (C + 6)) (h7 : mg_i σ' (C + 7) = mg_i σ (C + 7)) (hY : ∀ s, 20 ≤ s → s < 452 → Y' s = Y s) (hk : first + k < 48) : mrs C first k σ' Y' p q := fun i hi => by
  obtain ⟨x1, x2, x3⟩ := h i hi
  refine ⟨fun j hj => ?_, by rw [h6]; exact x2, by rw [h7]; exact x3⟩
  rw [hY _ (by unfold slt; omega) (by unfold slt; omega)]
  exact x1 j hj
theorem lcp_a {fu C t : Nat} {σ : rr_M} {g0 : Nat → Int64} (hm : mrf C σ) (ht : t < 22) (h8 : t ≠ 8) {kk : rr_M → Option (Unit × rr_M)} {Q : Unit × rr_M → Prop} (hk : ∀ g, (∀ i, i < 207 → (i < 72 ∨ 81 ≤ i) → g i = g0 i) → (∀ j, j < 9 → g (72 + j) = g0 (9 * t + j)) → wq (kk (mw_l σ (C + 8) g)) Q) :
    ∀ (fl k : Nat) (g : Nat → Int64), k ≤ 9 → 10 - k ≤ fl → (∀ i, i < 207 → (i < 72 ∨ 81 ≤ i) → g i = g0 i) → (∀ j, j < k → g (72 + j) = g0 (9 * t + j)) → wq (l_Mod_lays_9 fu (nm C) C (nI t) fl (nI k) (mw_l σ (C + 8) g) kk) Q
  | 0, k, g, h1, h2, _, _ => by omega
  | fl + 1, k, g, h1, h2, hg, hr => by
    have hmw : mrf C (mw_l σ (C + 8) g) := hm
    rw [l_Mod_lays_9]
    by_cases hk9 : k = 9
    · subst hk9
      exact wq_ip (by decide) (hk g hg hr)
    · have c0 : ¬ (9 : Int32) ≤ nI k := nI_ge (b := 9) (by omega) (by omega)
      rw [if_neg c0, mat_ok hmw (by omega) (by omega)]
      refine wq_ob (wq_some ?_)
      rw [show (8 : Int32) = nI 8 from rfl, mput_ok hmw (by omega) (by omega)]
      refine wq_bd (wq_some ?_)
      dsimp only [rr_lt]
      rw [mw_ms, mw_gsk, nI_1]
      refine lcp_a hm ht h8 hk fl (k + 1) _ (by omega) (by omega) (fun i hi hi2 => ?_) (fun j hj => ?_)
      · rw [upL_n (by omega)]; exact hg i hi hi2
      · by_cases hjk : j = k
        · subst hjk; rw [show 9 * 8 + j = 72 + j by omega, upL_s]; exact hg _ (by omega) (by omega)
        · rw [upL_n (by omega)]; exact hr j (by omega)
theorem lcp_b {fu C : Nat} {σ : rr_M} {g0 : Nat → Int64} (hm : mrf C σ) {kk : rr_M → Option (Unit × rr_M)} {Q : Unit × rr_M → Prop} (hk : ∀ g, (∀ i, i < 207 → (i < 72 ∨ 81 ≤ i) → g i = g0 i) → (∀ j, j < 9 → g (72 + j) = g0 (81 + j)) → wq (kk (mw_l σ (C + 8) g)) Q) :
    ∀ (fl k : Nat) (g : Nat → Int64), k ≤ 9 → 10 - k ≤ fl → (∀ i, i < 207 → (i < 72 ∨ 81 ≤ i) → g i = g0 i) → (∀ j, j < k → g (72 + j) = g0 (81 + j)) → wq (l_Mod_lays_117 fu (nm C) C fl (nI k) (mw_l σ (C + 8) g) kk) Q
  | 0, k, g, h1, h2, _, _ => by omega
  | fl + 1, k, g, h1, h2, hg, hr => by
    have hmw : mrf C (mw_l σ (C + 8) g) := hm
    rw [l_Mod_lays_117]
    by_cases hk9 : k = 9
    · subst hk9
      exact wq_ip (by decide) (hk g hg hr)
    · have c0 : ¬ (9 : Int32) ≤ nI k := nI_ge (b := 9) (by omega) (by omega)
      rw [if_neg c0, show (9 : Int32) = nI 9 from rfl, mat_ok hmw (by omega) (by omega)]
      refine wq_ob (wq_some ?_)
      rw [show (8 : Int32) = nI 8 from rfl, mput_ok hmw (by omega) (by omega)]
      refine wq_bd (wq_some ?_)
      dsimp only [rr_lt]
      rw [mw_ms, mw_gsk, nI_1]
      refine lcp_b hm hk fl (k + 1) _ (by omega) (by omega) (fun i hi hi2 => ?_) (fun j hj => ?_)
      · rw [upL_n (by omega)]; exact hg i hi hi2
      · by_cases hjk : j = k
        · subst hjk; rw [show 9 * 8 + j = 72 + j by omega, upL_s]; exact hg _ (by omega) (by omega)
        · rw [upL_n (by omega)]; exact hr j (by omega)
