/-! ===== the placer makes the simple polynomials and their sequence ===== -/
theorem rx_pla : RX 319 0 = 306 ∧ RX 319 1 = 63 ∧ RX 319 2 = 280 ∧ RX 319 3 = 320 ∧ RX 319 4 = 330 ∧ RX 319 7 = 331 ∧ RX 319 8 = 332 ∧ RX 319 9 = 333 ∧ RX 319 10 = 334 ∧ RX 319 11 = 335 ∧ RX 319 12 = 337 ∧ RX 319 13 = 339 := by decide +kernel
theorem rx_sim : (∀ j, j < 9 → RX 320 j = 321 + j) ∧ (∀ j, j < 9 → NX (321 + j) = 9) ∧ NX 320 = 9 ∧ NX 330 = 9 ∧ NX 331 = 8 ∧ NX 332 = 8 ∧ NX 333 = 8 ∧ NX 334 = 8 := by decide +kernel
def LSm (o : Nat) : Prop := (321 ≤ o ∧ o ≤ 329) ∨ o = 330
/-- the levels as build leaves them -/
def lvh (B : Nat) (σ : rr_M) (P : Pl) : Prop := mg_i σ (B + 306) 2 = nI (dep P) ∧ (∀ i, i ≤ dep P → ∀ j, j < 9 → (mg_l σ (B + (308 + i)) j).toInt = CM P i j) ∧ (∀ i, i < dep P → mg_i σ (B + 317) i = nI (rn P i))
theorem lvh_fra {B : Nat} {I L : Nat → Prop} {σ σ' : rr_M} {P : Pl} (h : lvh B σ P) (h8 : dep P ≤ 8) (F : fra B I L σ σ') (i1 : ¬ I 306) (i2 : ¬ I 317) (hl : ∀ i, i ≤ 8 → ¬ L (308 + i)) : lvh B σ' P :=
  ⟨by rw [F.2.1 306 (by decide) i1]; exact h.1, fun i hi j hj => by rw [F.2.2 (308 + i) (isB_hi (by omega) (by omega) (by omega) (by omega)) (hl i (by omega))]; exact h.2.1 i hi j hj, fun i hi => by rw [F.2.1 317 (by decide) i2]; exact h.2.2 i hi⟩
theorem mks_l {fu B : Nat} {σ0 : rr_M} {Z : Nat → Option Int} {P : Pl} (hfu : 400 < fu) (hP : pok P) (hd : 0 < dgg P) (hc0 : crf B σ0) (hL0 : lvh B σ0 P) {kk : rr_M → Option (Unit × rr_M)} {Q : Unit × rr_M → Prop} (hk : ∀ σ, fra B (fun _ => False) LSm σ0 σ → bgs B σ Z → (∀ i, i < dep P → ∀ j, j < 9 → (mg_l σ (B + (321 + i)) j).toInt = SM P i j) → wq (kk σ) Q) :
    ∀ (fl k : Nat) (σ : rr_M), k ≤ dep P → 10 - k ≤ fl → fra B (fun _ => False) LSm σ0 σ → bgs B σ Z → (∀ i, i < k → ∀ j, j < 9 → (mg_l σ (B + (321 + i)) j).toInt = SM P i j) → wq (l_Pla_makeSimple_2 fu (nx B) (B + 319) fl (nI k) σ kk) Q
  | 0, k, σ, h1, h2, _, _, _ => by
    have := (dep_ok hP (dg_dln hd)).2.2.1
    have := dgg_lt P
    omega
  | fl + 1, k, σ, h1, h2, F, L, hS => by
    have h8 := (dep_ok hP (dg_dln hd)).2.2.1
    have h88 := dgg_lt P
    have hc := crf_fra hc0 F
    obtain ⟨l1, l2, l3⟩ := lvh_fra hL0 (by omega) F (fun h => h) (fun h => h) (fun i hi => by unfold LSm; omega)
    obtain ⟨r0, r1, r3, r4, r7, n8, n7, n17, n18⟩ := rx_lvl
    obtain ⟨p0, p1, p2, p3, p4, p7, p8, p9, p10, p11, p12, p13⟩ := rx_pla
    obtain ⟨s1, s2, s3, s4, s5, s6, s7, s8⟩ := rx_sim
    have m0 : ∀ {σ' : rr_M}, crf B σ' → mg_r σ' (B + 319) 0 = B + 306 ∧ mg_r σ' (B + 319) 3 = B + 320 ∧ mg_r σ' (B + 319) 4 = B + 330 ∧ mg_r σ' (B + 306) 0 = B + 307 := fun hh => ⟨by rw [hh 319 0 (by omega), p0], by rw [hh 319 3 (by omega), p3], by rw [hh 319 4 (by omega), p4], by rw [hh 306 0 (by omega), r0]⟩
    obtain ⟨a1, a2, a3, a4⟩ := m0 hc
    rw [l_Pla_makeSimple_2]
    dsimp only [rr_lt]
    rw [a1, l1]
    by_cases hke : k = dep P
    · subst hke
      exact wq_ip (nI_le (Nat.le_refl _) (by omega)) (hk σ F L hS)
    have ml : rr_n (nI k) = k := n_nI (by omega)
    have ml1 : rr_n (nI k + 1) = k + 1 := by rw [nI_1]; exact n_nI (by omega)
    have ix7 : rr_ix (nI k) (nx B (B + 307)) = true := by rw [nx_at, n7]; exact ix_nI (by omega) (by omega)
    have ix7' : rr_ix (nI k + 1) (nx B (B + 307)) = true := by rw [nx_at, n7, nI_1]; exact ix_nI (by omega) (by omega)
    have ix20 : rr_ix (nI k) (nx B (B + 320)) = true := by rw [nx_at, s3]; exact ix_nI (by omega) (by omega)
    refine wq_in (nI_ge (by omega) (by omega)) (wq_in (show ¬ (8 : Int32) ≤ nI k from nI_ge (a := k) (b := 8) (by omega) (by omega)) ?_)
    rw [a4, ml, hc 307 k (by omega), r7 k (by omega), a3, show rr_n 0 = 0 from rfl, show rr_n 9 = 9 from rfl, mc_mw]
    refine wq_ip ix7 (wq_ip (by rw [nx_at, nx_at, n8 k (by omega), s4]; decide) ?_)
    obtain ⟨σ8, h8e⟩ : ∃ σ8, σ8 = mw_l σ (B + 330) (va_cpy (mg_l σ (B + (308 + k))) (mg_l σ (B + 330)) 0 0 9) := ⟨_, rfl⟩
    rw [← h8e]
    have hc8 : crf B σ8 := by rw [h8e]; exact hc
    obtain ⟨b1, b2, b3, b4⟩ := m0 hc8
    rw [b2, hc8 320 k (by omega), s1 k (by omega), b3, b1, b4, ml1, hc8 307 (k + 1) (by omega), r7 (k + 1) (by omega)]
    refine wq_ip ix20 (wq_ip ix7' ?_)
    obtain ⟨t1, t2, t3, t4, t5, t6, t7⟩ := SM_ok hP hd (show k < dep P by omega)
    have wk : ∀ j, j < 9 → (mg_l σ8 (B + 330) j).toInt = pmu (CM P (k + 1)) (SM P k) j := fun j hj => by
      rw [h8e, mw_gsk, ← t1, ← l2 k h1 j hj]
      simp [va_cpy, hj]
    have by8 : ∀ j, j < 9 → (mg_l σ8 (B + (308 + (k + 1))) j).toInt = CM P (k + 1) j := fun j hj => by
      rw [h8e, mw_gn _ (by omega)]
      exact l2 (k + 1) (by omega) j hj
    refine wq_bd (wq_mo (cqo_ok (o0 := 321 + k) (o1 := 330) (o2 := 308 + (k + 1)) hfu (by omega) (by omega) (by omega) (by rw [nx_at]; exact s2 k (by omega)) (by rw [nx_at]; exact s4) (by rw [nx_at]; exact n8 (k + 1) (by omega)) t4 t2 t3 by8 wk t5) ?_)
    rintro ⟨w1, σ9⟩ ⟨u, r, e9, hu⟩
    dsimp only at e9 ⊢
    rw [nI_1]
    refine mks_l hfu hP hd hc0 hL0 hk fl (k + 1) σ9 (by omega) (by omega) ?_ ?_ ?_
    · rw [e9]
      refine fra_tr F (fra_tr (show fra B (fun _ => False) LSm σ σ8 by rw [h8e]; exact fra_mw (by unfold LSm; omega)) ?_)
      exact fra_tr (fra_mw (by unfold LSm; omega)) (fra_mw (by unfold LSm; omega))
    · rw [e9, h8e]
      exact bgs_mw (bgs_mw (bgs_mw L (by decide)) (isB_hi (by omega) (by omega) (by omega) (by omega))) (by decide)
    · intro i hi j hj
      by_cases hik : i = k
      · subst hik
        rw [e9, mw2_a (by omega)]
        exact hu j hj
      · rw [e9, mw2_n (by omega) (by omega), h8e, mw_gn _ (by omega)]
        exact hS i (by omega) j hj
