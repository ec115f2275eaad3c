/-! ===== feed ===== -/
def by4 (w : Int32) (r : Nat) : Int32 := (w >>> (nI (24 - 8 * r) &&& 31)) &&& 255
def bm4 (w : Int32) (r : Nat) : Int32 := vp_nar .byte ((w >>> (nI (24 - 8 * r) &&& 31)).toInt8.toInt32)
theorem by_bm (w : Int32) (r : Nat) : byt (by4 w r) (bm4 w r) := by
  obtain ⟨u, hu⟩ : ∃ u, u = w >>> (nI (24 - 8 * r) &&& 31) := ⟨_, rfl⟩
  unfold byt by4 bm4
  rw [← hu, pk_vb, pk_and u 8 (by decide), nI_toInt (by omega), Int8.toInt_toInt32, Int32.toInt_toInt8]
  have h1 : u.toInt = if 2 * u.toBitVec.toNat < 2 ^ 32 then (u.toBitVec.toNat : Int) else (u.toBitVec.toNat : Int) - ((2 ^ 32 : Nat) : Int) := by
    rw [← Int32.toInt_toBitVec, BitVec.toInt_eq_toNat_cond]
  have h2 : u.toInt % 256 = (u.toBitVec.toNat : Int) % 256 := by
    rw [h1]
    split <;> omega
  refine ⟨by omega, by omega, ?_⟩
  unfold Int.bmod
  dsimp only
  rw [show ((2 ^ 8 : Nat) : Int) = 256 from rfl, h2]
  split <;> split <;> omega
/-- the class has taken j words behind n bytes -/
def fdx (B n : Nat) (ws : Nat → Int32) (j : Nat) (σ σ' : rr_M) : Prop := mg_r σ' = mg_r σ ∧ mg_l σ' = mg_l σ ∧ (∀ a, a ≠ B + 58 → a ≠ B + 59 → mg_i σ' a = mg_i σ a) ∧ (∀ k, k ≠ 1 → mg_i σ' (B + 58) k = mg_i σ (B + 58) k) ∧ mg_i σ' (B + 58) 1 = nI (n + 4 * j) ∧ (∀ i, i < n → mg_i σ' (B + 59) i = mg_i σ (B + 59) i) ∧ ∀ p, p < j → ∀ r, r < 4 → mg_i σ' (B + 59) (n + 4 * p + r) = by4 (ws p) r
theorem nx_59 (B : Nat) : nx B (B + 59) = 200 := by
  rw [nx_at]
  decide +kernel
theorem rx_58 : RX 58 0 = 59 ∧ RX 58 3 = 60 := by decide +kernel
theorem aps_x {fu B n fl : Nat} {σ : rr_M} {w v2 : Int32} {kk : rr_M → Option (Unit × rr_M)} (hn : n < 200) (hr : mg_r σ (B + 58) 0 = B + 59) (h1 : mg_i σ (B + 58) 1 = nI n) (hs : ¬ v2 < 0) : l_Tap_append_3 fu (nx B) (B + 58) w (fl + 1) v2 σ kk = l_Tap_append_3 fu (nx B) (B + 58) w fl (v2 + (-8)) (ms_i (ms_i σ (B + 59) n ((w >>> (v2 &&& 31)) &&& 255)) (B + 58) 1 (nI (n + 1))) kk := by
  rw [l_Tap_append_3, if_neg hs, h1, if_neg (show ¬ (200 : Int32) ≤ nI n from nI_ge (b := 200) hn (by omega))]
  dsimp only [rr_lt]
  rw [hr, nx_59, ix_nI hn (by omega), if_pos rfl, n_nI (by omega), si_row (by omega), h1, nI_1]
theorem app_x {fu B n j : Nat} {ws : Nat → Int32} {σ0 σ : rr_M} (hfu : 400 < fu) (hn : n + 4 * j + 4 ≤ 200) (hr : mg_r σ0 (B + 58) 0 = B + 59) (h : fdx B n ws j σ0 σ) : wq (f_Tap_append fu (nx B) (B + 58) (ws j) σ) (fun x => fdx B n ws (j + 1) σ0 x.2) := by
  obtain ⟨a1, a2, a3, a4, a5, a6, a7⟩ := h
  obtain ⟨f, rfl⟩ : ∃ f, fu = f + 5 := ⟨fu - 5, by omega⟩
  unfold f_Tap_append
  have hr0 : mg_r σ (B + 58) 0 = B + 59 := by rw [a1]; exact hr
  rw [aps_x (n := n + 4 * j) (by omega) hr0 a5 (by decide)]
  rw [aps_x (σ := ms_i (ms_i σ (B + 59) _ _) (B + 58) 1 (nI (n + 4 * j + 1))) (n := n + 4 * j + 1) (by omega) hr0 (si_s _ _ _ _) (by decide)]
  rw [aps_x (σ := ms_i (ms_i (ms_i (ms_i σ (B + 59) _ _) (B + 58) 1 (nI (n + 4 * j + 1))) (B + 59) _ _) (B + 58) 1 (nI (n + 4 * j + 2))) (n := n + 4 * j + 2) (by omega) hr0 (si_s _ _ _ _) (by decide)]
  rw [aps_x (σ := ms_i (ms_i (ms_i (ms_i (ms_i (ms_i σ (B + 59) _ _) (B + 58) 1 (nI (n + 4 * j + 1))) (B + 59) _ _) (B + 58) 1 (nI (n + 4 * j + 2))) (B + 59) _ _) (B + 58) 1 (nI (n + 4 * j + 3))) (n := n + 4 * j + 3) (by omega) hr0 (si_s _ _ _ _) (by decide)]
  rw [l_Tap_append_3, if_pos (by decide)]
  have e24 : (24 : Int32) = nI (24 - 8 * 0) := by decide
  have e16 : (24 : Int32) + (-8) = nI (24 - 8 * 1) := by decide
  have e8 : (24 : Int32) + (-8) + (-8) = nI (24 - 8 * 2) := by decide
  have e0 : (24 : Int32) + (-8) + (-8) + (-8) = nI (24 - 8 * 3) := by decide
  refine wq_some ⟨a1, a2, fun a h1 h2 => ?_, fun k hk => ?_, si_s _ _ _ _, fun i hi => ?_, fun p hp r hr4 => ?_⟩
  · dsimp only
    rw [si_row h1, si_row h2, si_row h1, si_row h2, si_row h1, si_row h2, si_row h1, si_row h2]
    exact a3 a h1 h2
  · dsimp only
    rw [si_n (Or.inr hk), si_row (by omega), si_n (Or.inr hk), si_row (by omega), si_n (Or.inr hk), si_row (by omega), si_n (Or.inr hk), si_row (by omega)]
    exact a4 k hk
  · dsimp only
    rw [si_row (by omega), si_n (Or.inr (by omega)), si_row (by omega), si_n (Or.inr (by omega)), si_row (by omega), si_n (Or.inr (by omega)), si_row (by omega), si_n (Or.inr (by omega))]
    exact a6 i hi
  · dsimp only
    by_cases hpj : p = j
    · subst hpj
      have hr4' : r = 0 ∨ r = 1 ∨ r = 2 ∨ r = 3 := by omega
      rcases hr4' with rfl | rfl | rfl | rfl
      · rw [si_row (by omega), si_n (Or.inr (by omega)), si_row (by omega), si_n (Or.inr (by omega)), si_row (by omega), si_n (Or.inr (by omega)), si_row (by omega)]
        rw [show n + 4 * p + 0 = n + 4 * p from rfl, si_s, e24]
        rfl
      · rw [si_row (by omega), si_n (Or.inr (by omega)), si_row (by omega), si_n (Or.inr (by omega)), si_row (by omega), si_s, e16]
        rfl
      · rw [si_row (by omega), si_n (Or.inr (by omega)), si_row (by omega), si_s, e8]
        rfl
      · rw [si_row (by omega), si_s, e0]
        rfl
    · rw [si_row (by omega), si_n (Or.inr (by omega)), si_row (by omega), si_n (Or.inr (by omega)), si_row (by omega), si_n (Or.inr (by omega)), si_row (by omega), si_n (Or.inr (by omega))]
      exact a7 p (by omega) r hr4
def fdm (C n : Nat) (ws : Nat → Int32) (j : Nat) (σ σ' : rr_M) : Prop := mg_r σ' = mg_r σ ∧ mg_l σ' = mg_l σ ∧ (∀ a, a ≠ C → a ≠ C + 12 → mg_i σ' a = mg_i σ a) ∧ (∀ k, k ≠ 14 → mg_i σ' C k = mg_i σ C k) ∧ mg_i σ' C 14 = nI (n + 4 * j) ∧ (∀ i, i < n → mg_i σ' (C + 12) i = mg_i σ (C + 12) i) ∧ ∀ p, p < j → ∀ r, r < 4 → mg_i σ' (C + 12) (n + 4 * p + r) = bm4 (ws p) r
theorem aps_m {fu C n fl : Nat} {σ : rr_M} {w v2 : Int32} {kk : rr_M → Option (Unit × rr_M)} (hn : n < 200) (hr : mg_r σ C 13 = C + 12) (h1 : mg_i σ C 14 = nI n) (hs : ¬ v2 < 0) : l_Mod_put_3 fu (nm C) C w (fl + 1) v2 σ kk = l_Mod_put_3 fu (nm C) C w fl (v2 + (-8)) (ms_i (ms_i σ (C + 12) n (vp_nar .byte ((w >>> (v2 &&& 31)).toInt8.toInt32))) C 14 (nI (n + 1))) kk := by
  rw [l_Mod_put_3, if_neg hs, h1]
  dsimp only [rr_lt]
  rw [hr, nm_12, ix_nI hn (by omega), if_pos rfl, n_nI (by omega), si_row (by omega), h1, nI_1]
theorem app_m {fu C n j : Nat} {ws : Nat → Int32} {σ0 σ : rr_M} (hfu : 400 < fu) (hn : n + 4 * j + 4 ≤ 200) (hr : mg_r σ0 C 13 = C + 12) (h : fdm C n ws j σ0 σ) : wq (f_Mod_put fu (nm C) C (ws j) σ) (fun x => fdm C n ws (j + 1) σ0 x.2) := by
  obtain ⟨a1, a2, a3, a4, a5, a6, a7⟩ := h
  obtain ⟨f, rfl⟩ : ∃ f, fu = f + 5 := ⟨fu - 5, by omega⟩
  unfold f_Mod_put
  have hr0 : mg_r σ C 13 = C + 12 := by rw [a1]; exact hr
  rw [aps_m (n := n + 4 * j) (by omega) hr0 a5 (by decide)]
  rw [aps_m (σ := ms_i (ms_i σ (C + 12) _ _) C 14 (nI (n + 4 * j + 1))) (n := n + 4 * j + 1) (by omega) hr0 (si_s _ _ _ _) (by decide)]
  rw [aps_m (σ := ms_i (ms_i (ms_i (ms_i σ (C + 12) _ _) C 14 (nI (n + 4 * j + 1))) (C + 12) _ _) C 14 (nI (n + 4 * j + 2))) (n := n + 4 * j + 2) (by omega) hr0 (si_s _ _ _ _) (by decide)]
  rw [aps_m (σ := ms_i (ms_i (ms_i (ms_i (ms_i (ms_i σ (C + 12) _ _) C 14 (nI (n + 4 * j + 1))) (C + 12) _ _) C 14 (nI (n + 4 * j + 2))) (C + 12) _ _) C 14 (nI (n + 4 * j + 3))) (n := n + 4 * j + 3) (by omega) hr0 (si_s _ _ _ _) (by decide)]
  rw [l_Mod_put_3, if_pos (by decide)]
  have e24 : (24 : Int32) = nI (24 - 8 * 0) := by decide
  have e16 : (24 : Int32) + (-8) = nI (24 - 8 * 1) := by decide
  have e8 : (24 : Int32) + (-8) + (-8) = nI (24 - 8 * 2) := by decide
  have e0 : (24 : Int32) + (-8) + (-8) + (-8) = nI (24 - 8 * 3) := by decide
  refine wq_some ⟨a1, a2, fun a h1 h2 => ?_, fun k hk => ?_, si_s _ _ _ _, fun i hi => ?_, fun p hp r hr4 => ?_⟩
  · dsimp only
    rw [si_row h1, si_row h2, si_row h1, si_row h2, si_row h1, si_row h2, si_row h1, si_row h2]
    exact a3 a h1 h2
  · dsimp only
    rw [si_n (Or.inr hk), si_row (by omega), si_n (Or.inr hk), si_row (by omega), si_n (Or.inr hk), si_row (by omega), si_n (Or.inr hk), si_row (by omega)]
    exact a4 k hk
  · dsimp only
    rw [si_row (by omega), si_n (Or.inr (by omega)), si_row (by omega), si_n (Or.inr (by omega)), si_row (by omega), si_n (Or.inr (by omega)), si_row (by omega), si_n (Or.inr (by omega))]
    exact a6 i hi
  · dsimp only
    by_cases hpj : p = j
    · subst hpj
      have hr4' : r = 0 ∨ r = 1 ∨ r = 2 ∨ r = 3 := by omega
      rcases hr4' with rfl | rfl | rfl | rfl
      · rw [si_row (by omega), si_n (Or.inr (by omega)), si_row (by omega), si_n (Or.inr (by omega)), si_row (by omega), si_n (Or.inr (by omega)), si_row (by omega)]
        rw [show n + 4 * p + 0 = n + 4 * p from rfl, si_s, e24]
        rfl
      · rw [si_row (by omega), si_n (Or.inr (by omega)), si_row (by omega), si_n (Or.inr (by omega)), si_row (by omega), si_s, e16]
        rfl
      · rw [si_row (by omega), si_n (Or.inr (by omega)), si_row (by omega), si_s, e8]
        rfl
      · rw [si_row (by omega), si_s, e0]
        rfl
    · rw [si_row (by omega), si_n (Or.inr (by omega)), si_row (by omega), si_n (Or.inr (by omega)), si_row (by omega), si_n (Or.inr (by omega)), si_row (by omega), si_n (Or.inr (by omega))]
      exact a7 p (by omega) r hr4
def fdw (a b c d e : Int32) : Nat → Int32
  | 0 => a
  | 1 => b
  | 2 => c
  | 3 => d
  | _ => e
theorem op_feed_ok {fu B C : Nat} (hfu : 400 < fu) : op_feed fu B C (Inv B C) := by
  rintro b1 b2 b3 b4 b5 σx σm ⟨T, hX, hM, hT⟩
  obtain ⟨hM1, FM1⟩ := imc_0 (v := 0) hM
  obtain ⟨Y1, L1⟩ := hM1.1
  obtain ⟨q0, q1, q2, q3, q4, q5, q6, q7, q8⟩ := roo_t hX.1
  have hT' := hT
  obtain ⟨n, n1, n2, n3, n4, n5⟩ := hT
  have e14 : mg_i (ms_i σm C 0 0) C 14 = nI n := by rw [si_n (Or.inr (by omega)), n3]
  have ad : nI n + 20 = nI (n + 20) := nI_add n 20
  by_cases hn : n + 20 ≤ 200
  rotate_left
  · refine op_cb (T := T) (-1) hT' ?_ ?_
    · unfold f_Roo_feed f_Tap_hasRoom
      dsimp only [rr_lt]
      rw [q1, n2, ad, if_pos (show (200 : Int32) < nI (n + 20) from nI_lt (a := 200) (by omega) (by omega))]
      exact wq_ob (wq_ip (by decide) (wq_some (wq_ip rfl (wq_some ⟨rfl, xok_rf hX⟩))))
    · unfold f_Mod_feed
      dsimp only [rr_lt]
      rw [e14, ad]
      exact wq_in (show ¬ nI (n + 20) ≤ (200 : Int32) from nI_ge (a := 200) (by omega) (by omega)) (wq_some ⟨rfl, hM1, FM1⟩)
  have hr58 : mg_r σx (B + 58) 0 = B + 59 := by rw [hX.1 58 0 (by omega), rx_58.1]
  have hr13 : mg_r (ms_i σm C 0 0) C 13 = C + 12 := by
    exact mrf_13 L1.1
  refine op_of ?_
  unfold f_Roo_feed f_Tap_hasRoom
  dsimp only [rr_lt]
  rw [q1, n2, ad, if_neg (show ¬ (200 : Int32) < nI (n + 20) from nI_nlt (a := 200) (by omega) (by omega))]
  refine wq_ob (wq_ip (by decide) (wq_some (wq_in (by decide) ?_)))
  refine wq_bd (wq_mo (app_x (ws := fdw b1 b2 b3 b4 b5) (j := 0) (n := n) hfu (by omega) hr58 ⟨rfl, rfl, fun _ _ _ => rfl, fun _ _ => rfl, n2, fun _ _ => rfl, fun p hp => absurd hp (by omega)⟩) ?_)
  rintro ⟨u1, σ1⟩ g1
  dsimp only at g1 ⊢
  rw [show mg_r σ1 B 1 = B + 58 by rw [g1.1]; exact q1]
  refine wq_bd (wq_mo (app_x (j := 1) hfu (by omega) hr58 g1) ?_)
  rintro ⟨u2, σ2⟩ g2
  dsimp only at g2 ⊢
  rw [show mg_r σ2 B 1 = B + 58 by rw [g2.1]; exact q1]
  refine wq_bd (wq_mo (app_x (j := 2) hfu (by omega) hr58 g2) ?_)
  rintro ⟨u3, σ3⟩ g3
  dsimp only at g3 ⊢
  rw [show mg_r σ3 B 1 = B + 58 by rw [g3.1]; exact q1]
  refine wq_bd (wq_mo (app_x (j := 3) hfu (by omega) hr58 g3) ?_)
  rintro ⟨u4, σ4⟩ g4
  dsimp only at g4 ⊢
  rw [show mg_r σ4 B 1 = B + 58 by rw [g4.1]; exact q1]
  refine wq_bd (wq_mo (app_x (j := 4) hfu (by omega) hr58 g4) ?_)
  rintro ⟨u5, σ5⟩ g5
  dsimp only at g5 ⊢
  rw [show mg_r σ5 B 1 = B + 58 by rw [g5.1]; exact q1]
  refine wq_some ?_
  unfold f_Mod_feed
  dsimp only [rr_lt]
  rw [e14, ad]
  refine wq_ip (show nI (n + 20) ≤ (200 : Int32) from nI_le (b := 200) hn (by omega)) ?_
  refine wq_bd (wq_mo (app_m (ws := fdw b1 b2 b3 b4 b5) (j := 0) (n := n) hfu (by omega) hr13 ⟨rfl, rfl, fun _ _ _ => rfl, fun _ _ => rfl, e14, fun _ _ => rfl, fun p hp => absurd hp (by omega)⟩) ?_)
  rintro ⟨w1, τ1⟩ k1
  dsimp only at k1 ⊢
  refine wq_bd (wq_mo (app_m (j := 1) hfu (by omega) hr13 k1) ?_)
  rintro ⟨w2, τ2⟩ k2
  dsimp only at k2 ⊢
  refine wq_bd (wq_mo (app_m (j := 2) hfu (by omega) hr13 k2) ?_)
  rintro ⟨w3, τ3⟩ k3
  dsimp only at k3 ⊢
  refine wq_bd (wq_mo (app_m (j := 3) hfu (by omega) hr13 k3) ?_)
  rintro ⟨w4, τ4⟩ k4
  dsimp only at k4 ⊢
  refine wq_bd (wq_mo (app_m (j := 4) hfu (by omega) hr13 k4) ?_)
  rintro ⟨w5, τ5⟩ k5
  dsimp only at k5 ⊢
  obtain ⟨x1, x2, x3, x4, x5, x6, x7⟩ := g5
  obtain ⟨y1, y2, y3, y4, y5, y6, y7⟩ := k5
  refine wq_some ⟨by rw [x5, y5], T, ?_, ?_, ?_⟩
  · exact icx_tp hX x1 (fun o h1 h2 => x3 _ (by omega) (by omega)) (fun o _ _ _ => by rw [x2])
  · exact ⟨⟨Y1, LM_frm L1 y1 (y3 _ (by omega) (by omega)) (y3 _ (by omega) (by omega)) (y3 _ (by omega) (by omega))⟩, fun t ht k hk => by rw [y2]; exact hM1.2 t ht k hk⟩
  · refine ⟨n + 20, hn, x5, y5, ?_, fun i hi => ?_⟩
    · rw [x4 2 (by omega), y4 15 (by omega), si_n (Or.inr (by omega))]
      exact n4
    · by_cases hin : i < n
      · rw [x6 i hin, y6 i hin, si_row (by omega)]
        exact n5 i hin
      · have e : i = n + 4 * ((i - n) / 4) + (i - n) % 4 := by omega
        rw [e, x7 _ (by omega) _ (by omega), y7 _ (by omega) _ (by omega)]
        exact by_bm _ _
