/-! ===== the class: a proof is kept ===== -/
theorem rx_tr : ∀ t, t < 8 → RX (2 + 7 * t) 0 = 3 + 7 * t ∧ RX (2 + 7 * t) 7 = 4 + 7 * t ∧ RX (2 + 7 * t) 8 = 5 + 7 * t ∧ RX (2 + 7 * t) 10 = 6 + 7 * t ∧ RX (2 + 7 * t) 11 = 7 + 7 * t ∧ RX (2 + 7 * t) 12 = 8 + 7 * t := by decide +kernel
theorem nx_tr : ∀ t, t < 8 → NX (3 + 7 * t) = 9 ∧ NX (4 + 7 * t) = 10 ∧ NX (5 + 7 * t) = 10 ∧ NX (6 + 7 * t) = 8 ∧ NX (7 + 7 * t) = 8 ∧ NX (8 + 7 * t) = 8 := by decide +kernel
theorem isB_lo {o : Nat} (h : o < 68) : isB o = false := by
  simp only [isB, Bool.or_eq_false_iff, Bool.and_eq_false_iff, decide_eq_false_iff_not]
  omega
theorem isB_hi {o : Nat} (h : 305 ≤ o) (h2 : o ≠ 335) (h3 : o ≠ 337) (h4 : o ≠ 339) : isB o = false := by
  simp only [isB, Bool.or_eq_false_iff, Bool.and_eq_false_iff, decide_eq_false_iff_not]
  omega
theorem kpf_l {fu B t M : Nat} {σ0 : rr_M} {Z : Nat → Option Int} (ht : t < 8) (hc0 : crf B σ0) (hM : M ≤ 10) (h3 : mg_i σ0 (B + 63) 3 = nI M) {kk : rr_M → Option (Unit × rr_M)} {Q : Unit × rr_M → Prop}
    (hk : ∀ σ, fra B (fun o => o = 4 + 7 * t ∨ o = 5 + 7 * t) (fun _ => False) σ0 σ → bgs B σ Z → (mg_l σ = mg_l σ0) → (∀ j, j < M → mg_i σ (B + (4 + 7 * t)) j = mg_i σ0 (B + 65) j ∧ mg_i σ (B + (5 + 7 * t)) j = mg_i σ0 (B + 66) j) → wq (kk σ) Q) :
    ∀ (fl k : Nat) (σ : rr_M), k ≤ M → 11 - k ≤ fl → fra B (fun o => o = 4 + 7 * t ∨ o = 5 + 7 * t) (fun _ => False) σ0 σ → bgs B σ Z → (mg_l σ = mg_l σ0) → (∀ j, j < k → mg_i σ (B + (4 + 7 * t)) j = mg_i σ0 (B + 65) j ∧ mg_i σ (B + (5 + 7 * t)) j = mg_i σ0 (B + 66) j) →
      wq (l_Lev_keepProof_13 fu (nx B) (B + 306) (B + (2 + 7 * t)) fl (nI k) σ kk) Q
  | 0, k, σ, h1, h2, _, _, _, _ => by omega
  | fl + 1, k, σ, h1, h2, hF, hZ, hL, hN => by
    have hc := crf_fra hc0 hF
    obtain ⟨r0, r7, r8, _⟩ := rx_tr t ht
    obtain ⟨n3, n4, n5, _⟩ := nx_tr t ht
    have e306 : mg_r σ (B + 306) 3 = B + 63 := hc 306 3 (by omega)
    have e7 : mg_r σ (B + (2 + 7 * t)) 7 = B + (4 + 7 * t) := by rw [hc _ _ (by omega), r7]
    have e8 : mg_r σ (B + (2 + 7 * t)) 8 = B + (5 + 7 * t) := by rw [hc _ _ (by omega), r8]
    have e63 : mg_i σ (B + 63) = mg_i σ0 (B + 63) := hF.2.1 63 (by decide) (by omega)
    have e65 : mg_i σ (B + 65) = mg_i σ0 (B + 65) := hF.2.1 65 (by decide) (by omega)
    have e66 : mg_i σ (B + 66) = mg_i σ0 (B + 66) := hF.2.1 66 (by decide) (by omega)
    rw [l_Lev_keepProof_13]
    dsimp only [rr_lt]
    rw [e306, e63, h3]
    by_cases hkM : k = M
    · subst hkM
      exact wq_ip (nI_le (Nat.le_refl _) (by omega)) (hk σ hF hZ hL hN)
    · have mk : rr_n (nI k) = k := n_nI (by omega)
      have x1 : rr_ix (nI k) (nx B (B + 65)) = true := by rw [nx_65]; exact ix_nI (by omega) (by omega)
      have x2 : rr_ix (nI k) (nx B (B + (4 + 7 * t))) = true := by rw [nx_at, n4]; exact ix_nI (by omega) (by omega)
      have x3 : rr_ix (nI k) (nx B (B + 66)) = true := by rw [nx_66]; exact ix_nI (by omega) (by omega)
      have x4 : rr_ix (nI k) (nx B (B + (5 + 7 * t))) = true := by rw [nx_at, n5]; exact ix_nI (by omega) (by omega)
      rw [if_neg (nI_ge (by omega) (by omega)), if_neg (show ¬ (10 : Int32) ≤ nI k from nI_ge (a := k) (b := 10) (by omega) (by omega)), sq_1 hc, e7, if_pos x1, if_pos x2, mk]
      have hcs : crf B (ms_i σ (B + (4 + 7 * t)) k (mg_i σ (B + 65) k)) := hc
      have q306 : mg_r (ms_i σ (B + (4 + 7 * t)) k (mg_i σ (B + 65) k)) (B + 306) 3 = B + 63 := e306
      have q8 : mg_r (ms_i σ (B + (4 + 7 * t)) k (mg_i σ (B + 65) k)) (B + (2 + 7 * t)) 8 = B + (5 + 7 * t) := e8
      rw [q306, q8, sq_2 hcs, if_pos x3, if_pos x4, nI_1]
      refine kpf_l ht hc0 hM h3 hk fl (k + 1) _ (by omega) (by omega) (fra_tr hF (fra_tr (fra_mi (Or.inl rfl)) (fra_mi (Or.inr rfl)))) (bgs_ms (bgs_ms hZ (isB_lo (by omega))) (isB_lo (by omega))) hL (fun j hj => ?_)
      by_cases hjk : j = k
      · subst hjk
        constructor
        · rw [si_row (by omega), si_s, e65]
        · rw [si_s, si_row (by omega), e66]
      · have := hN j (by omega)
        constructor
        · rw [si_row (by omega), si_n (Or.inr hjk)]; exact this.1
        · rw [si_n (Or.inr hjk), si_row (by omega)]; exact this.2
theorem kpf_ok {fu B t M : Nat} {σ : rr_M} {Z : Nat → Option Int} (hZ : bgs B σ Z) (hfu : 400 < fu) (ht : t < 8) (hc : crf B σ) (hM : M ≤ 10) (h3 : mg_i σ (B + 63) 3 = nI M) :
    wq (f_Lev_keepProof fu (nx B) (B + 306) (B + (2 + 7 * t)) σ) (fun r => fra B (fun o => o = 2 + 7 * t ∨ o = 4 + 7 * t ∨ o = 5 + 7 * t) (fun _ => False) σ r.2 ∧ bgs B r.2 Z ∧ mg_l r.2 = mg_l σ ∧ mg_i r.2 (B + (2 + 7 * t)) 6 = nI M ∧ (∀ k, k ≠ 6 → mg_i r.2 (B + (2 + 7 * t)) k = mg_i σ (B + (2 + 7 * t)) k) ∧ ∀ j, j < M → mg_i r.2 (B + (4 + 7 * t)) j = mg_i σ (B + 65) j ∧ mg_i r.2 (B + (5 + 7 * t)) j = mg_i σ (B + 66) j) := by
  unfold f_Lev_keepProof
  have e306 : mg_r σ (B + 306) 3 = B + 63 := hc 306 3 (by omega)
  dsimp only [rr_lt]
  rw [e306, h3]
  have hc1 : crf B (ms_i σ (B + (2 + 7 * t)) 6 (nI M)) := hc
  have z : (0 : Int32) = nI 0 := rfl
  rw [z]
  refine kpf_l ht hc1 hM (by rw [si_row (by omega)]; exact h3) (fun σ' F' Z' L' N' => ?_) fu 0 _ (by omega) (by omega) fra_rf (bgs_ms hZ (isB_lo (by omega))) rfl (fun j hj => by omega)
  have e2 : mg_i σ' (B + (2 + 7 * t)) = mg_i (ms_i σ (B + (2 + 7 * t)) 6 (nI M)) (B + (2 + 7 * t)) := F'.2.1 _ (isB_lo (by omega)) (by omega)
  refine wq_some ⟨fra_tr (fra_mi (Or.inl rfl)) (fra_mo F' (fun o h => Or.inr h) (fun _ h => h)), Z', L', ?_, fun k hk => ?_, fun j hj => ?_⟩
  · show mg_i σ' (B + (2 + 7 * t)) 6 = nI M
    rw [e2, si_s]
  · show mg_i σ' (B + (2 + 7 * t)) k = _
    rw [e2, si_n (Or.inr hk)]
  · obtain ⟨a, b⟩ := N' j hj
    rw [si_row (by omega)] at a b
    exact ⟨a, b⟩
