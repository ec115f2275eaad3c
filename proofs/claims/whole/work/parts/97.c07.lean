/-! ===== the class proves a tray ===== -/
theorem prv_c {fu B t : Nat} {σ : rr_M} {Z : Nat → Option Int} {P : Pl} (hfu : 400 < fu) (ht : t < 8) (hP : pok P) (hc : crf B σ) (hZ : bgs B σ Z) (hp : ∀ j, j < 9 → (mg_l σ (B + (3 + 7 * t)) j).toInt = P j) (hT : mg_i σ (B + (2 + 7 * t)) 1 = 0 ∨ prvd B t σ P) :
    wq (f_Lev_prove fu (nx B) (B + 306) (B + (2 + 7 * t)) σ) (fun r => ∃ Z', bgs B r.2 Z' ∧ (∀ s, 280 ≤ s → Z' s = Z s) ∧ fra B (IB t) LB σ r.2 ∧ prvd B t r.2 P ∧ ∀ k, 7 ≤ k → mg_i r.2 (B + (2 + 7 * t)) k = mg_i σ (B + (2 + 7 * t)) k) := by
  unfold f_Lev_prove
  by_cases h1 : mg_i σ (B + (2 + 7 * t)) 1 = 0
  rotate_left
  · have hT : prvd B t σ P := by
      rcases hT with h | h
      · exact absurd h h1
      · exact h
    exact wq_in h1 (wq_some ⟨Z, hZ, fun _ _ => rfl, fra_rf, hT, fun _ _ => rfl⟩)
  refine wq_ip h1 ?_
  dsimp only [rr_lt]
  obtain ⟨σ5, h5⟩ : ∃ σ5, σ5 = ms_i (ms_i (ms_i (ms_i σ (B + (2 + 7 * t)) 6 0) (B + (2 + 7 * t)) 3 0) (B + (2 + 7 * t)) 4 0) (B + (2 + 7 * t)) 5 0 := ⟨_, rfl⟩
  rw [← h5]
  have hI : IB t (2 + 7 * t) := by unfold IB; omega
  have hB : isB (2 + 7 * t) = false := isB_lo (by omega)
  have F5 : fra B (IB t) LB σ σ5 := by rw [h5]; exact fra_tr (fra_mi hI) (fra_tr (fra_mi hI) (fra_tr (fra_mi hI) (fra_mi hI)))
  have Z5 : bgs B σ5 Z := by rw [h5]; exact bgs_ms (bgs_ms (bgs_ms (bgs_ms hZ hB) hB) hB) hB
  have s6 : mg_i σ5 (B + (2 + 7 * t)) 6 = 0 := by rw [h5, si_n (by omega), si_n (by omega), si_n (by omega), si_s]
  have s3 : mg_i σ5 (B + (2 + 7 * t)) 3 = 0 := by rw [h5, si_n (by omega), si_n (by omega), si_s]
  have s5 : mg_i σ5 (B + (2 + 7 * t)) 5 = 0 := by rw [h5, si_s]
  have sn : ∀ k, 7 ≤ k → mg_i σ5 (B + (2 + 7 * t)) k = mg_i σ (B + (2 + 7 * t)) k := fun k hk => by rw [h5, si_n (by omega), si_n (by omega), si_n (by omega), si_n (by omega)]
  have p5 : ∀ j, j < 9 → (mg_l σ5 (B + (3 + 7 * t)) j).toInt = P j := fun j hj => by rw [h5]; exact hp j hj
  have hc5 := crf_fra hc F5
  have m0 : mg_r σ5 (B + (2 + 7 * t)) 0 = B + (3 + 7 * t) := by rw [hc5 _ 0 (by omega), (rx_tr t ht).1]
  rw [m0]
  refine wq_bd (wq_mo (bld_ok hfu ht hP hc5 Z5 p5) ?_)
  rintro ⟨w1, σ7⟩ ⟨Z1, L1, O1, F1, V2, V3, V4, V5, V6⟩
  dsimp only at L1 F1 V2 V3 V4 V5 V6 ⊢
  have hc7 := crf_fra hc5 F1
  obtain ⟨r0, r1, r3, r4, r7, n8, n7, n17, n18⟩ := rx_lvl
  obtain ⟨b1, b2, b3⟩ := NR_le hP
  have h8 := DP_8 hP
  refine prl (σ0 := σ7) (Z := Z1) ht hP hc7 V2 V4 (fun σ17 hS => ?_) fu 0 σ7 (Nat.zero_le _) (by omega) ⟨fra_rf, L1, ?_, ?_, fun _ _ _ => rfl⟩
  rotate_left
  · rw [V6 3 (by omega), s3]; rfl
  · rw [V6 5 (by omega), s5]; rfl
  obtain ⟨G, GL, G3, G5, Gn⟩ := hS
  have hc17 := crf_fra hc7 G
  have i306 : mg_i σ17 (B + 306) = mg_i σ7 (B + 306) := G.2.1 306 (by decide) (by omega)
  have i317 : mg_i σ17 (B + 317) = mg_i σ7 (B + 317) := G.2.1 317 (by decide) (by omega)
  refine wq_jj (fun v => v = nI (UN P)) ?_ ?_
  · intro k' hk'
    rw [i306, V2]
    by_cases h0 : 0 < DP P
    · rw [if_neg (nI_nle h0 (by omega)), hc17 306 1 (by omega), r1, nx_at, n17, show rr_n 0 = 0 from rfl, i317, V4 0 h0]
      refine wq_ip (by decide) (hk' _ ?_)
      unfold UN; rw [if_pos h0]
    · rw [show DP P = 0 by omega, if_pos (by decide)]
      refine hk' _ ?_
      unfold UN; rw [if_neg h0]; rfl
  · intro v hv
    rw [hv]
    obtain ⟨σ19, h19⟩ : ∃ σ19, σ19 = ms_i σ17 (B + (2 + 7 * t)) 4 (nI (UN P)) := ⟨_, rfl⟩
    rw [← h19]
    have F19 : fra B (fun o => o = 2 + 7 * t) (fun _ => False) σ7 σ19 := by rw [h19]; exact fra_tr G (fra_mi rfl)
    have hc19 := crf_fra hc7 F19
    have l19 : ∀ j, j < 9 → (mg_l σ19 (B + (3 + 7 * t)) j).toInt = P j := fun j hj => by
      rw [F19.2.2 (3 + 7 * t) (isB_lo (by omega)) (fun h => h), F1.2.2 (3 + 7 * t) (isB_lo (by omega)) (by unfold LB; omega)]
      exact p5 j hj
    have g3 : mg_i σ19 (B + (2 + 7 * t)) 3 = nI (NR P) := by rw [h19, si_n (by omega)]; exact G3
    rw [hc19 _ 0 (by omega), (rx_tr t ht).1, num_deg (fu := fu) (o := 3 + 7 * t) (B := B) (σ := σ19) (f := P) hfu (by rw [nx_at]; exact (nx_tr t ht).1) l19, g3]
    refine wq_ob (wq_some (wq_jj (fun v => v = WI P) ?_ ?_))
    · intro k' hk'
      refine wq_jj (fun _ => WI P = 0) ?_ (fun _ h => hk' _ h.symm)
      intro k'' hk''
      have d9 : dln P ≤ 9 := lnn_le 9 _
      by_cases hz : dln P = 0
      · rw [hz, if_pos (by decide)]
        exact hk'' _ (by unfold WI; rw [if_neg (by omega)])
      · obtain ⟨e, he⟩ : ∃ e, dln P = e + 1 := ⟨dln P - 1, by omega⟩
        have hg : dgg P = e := by unfold dgg; omega
        rw [he, nI_pred, if_neg (nI_pos (by omega))]
        by_cases hw : NR P = e
        · rw [if_pos (by rw [hw])]
          exact hk' _ (by unfold WI; rw [if_pos ⟨by omega, by omega⟩])
        · rw [if_neg (fun hh => hw ((nI_eq (by omega) (by omega)).mp hh))]
          exact hk'' _ (by unfold WI; rw [if_neg (by omega)])
    · intro v hv
      rw [hv]
      have bW : rr_b1 (WI P) = true := by
        unfold WI
        by_cases hw : 0 < dln P ∧ NR P = dgg P
        · rw [if_pos hw]; decide
        · rw [if_neg hw]; decide
      refine wq_ip bW (wq_ip (by decide) (wq_some ⟨Z1, ?_, fun s hs => O1 s hs, ?_, ⟨?_, ?_, ?_, ?_, ?_, ?_, ?_⟩, ?_⟩))
      · dsimp only
        rw [h19]
        exact bgs_ms (bgs_ms (bgs_ms GL hB) hB) hB
      · refine fra_tr F5 (fra_tr F1 (fra_tr (fra_mo F19 (fun o h => by rw [h]; exact hI) (fun o h => h.elim)) (fra_tr (fra_mi hI) (fra_mi hI))))
      · exact si_s _ _ _ _
      · dsimp only
        rw [si_n (by omega), si_s]
      · dsimp only
        rw [si_n (by omega), si_n (by omega)]; exact g3
      · dsimp only
        rw [si_n (by omega), si_n (by omega), h19, si_s]
      · dsimp only
        rw [si_n (by omega), si_n (by omega), h19, si_n (by omega)]; exact G5
      · dsimp only
        rw [si_n (by omega), si_n (by omega), h19, si_n (by omega), Gn 6 (by omega) (by omega)]
        unfold MB
        by_cases hd : 0 < dgg P
        · have h0 : 0 < DP P := by unfold DP; rw [if_pos hd]; exact dep_pos hP hd
          rw [if_pos hd]; exact (V5 h0).1
        · have h0 : DP P = 0 := by unfold DP; rw [if_neg hd]
          rw [if_neg hd, V6 6 (Or.inl h0), s6]; rfl
      · intro j hj
        dsimp only
        unfold MB at hj
        by_cases hd : 0 < dgg P
        · have h0 : 0 < DP P := by unfold DP; rw [if_pos hd]; exact dep_pos hP hd
          rw [if_pos hd] at hj
          rw [si_row (by omega), si_row (by omega), si_row (by omega), si_row (by omega), F19.2.1 (4 + 7 * t) (isB_lo (by omega)) (by omega), F19.2.1 (5 + 7 * t) (isB_lo (by omega)) (by omega)]
          exact (V5 h0).2 j hj
        · rw [if_neg hd] at hj; omega
      · intro k hk
        dsimp only
        rw [si_n (by omega), si_n (by omega), h19, si_n (by omega), Gn k (by omega) (by omega), V6 k (by omega), sn k hk]
