/-! ===== what is made: clear, addNumbers, addSlope, fits, take ===== -/
def b8 (z : Int) : Prop := -100000000 ≤ z ∧ z ≤ 100000000
def cut (G : Nat → Int) : Pl := fun j => if j < 9 then G j else 0
theorem cut_ok {G : Nat → Int} (h : ∀ j, j < 9 → b8 (G j)) : pok (cut G) := by
  refine ⟨fun k hk => if_neg (by omega), fun k => ?_⟩
  unfold cut
  by_cases hk : k < 9
  · rw [if_pos hk]; exact h k hk
  · rw [if_neg hk]; decide
def mkf (B : Nat) (σ σ' : rr_M) : Prop := mg_r σ' = mg_r σ ∧ mg_i σ' = mg_i σ ∧ ∀ a, a ≠ B + 62 → mg_l σ' a = mg_l σ a
def mkr (B : Nat) (σ σ' : rr_M) (G : Nat → Int) : Prop := mkf B σ σ' ∧ ∀ j, j < 17 → (mg_l σ' (B + 62) j).toInt = G j
theorem mkf_s {B k : Nat} {σ σ' : rr_M} {v : Int64} (h : mkf B σ σ') : mkf B σ (ms_l σ' (B + 62) k v) := ⟨h.1, h.2.1, fun a ha => (rr_oL ha).trans (h.2.2 a ha)⟩
theorem nx_62 (B : Nat) : nx B (B + 62) = 17 := by
  rw [nx_at]
  decide +kernel
theorem rx_61 : RX 61 0 = 62 := by decide +kernel
theorem mk_r {B : Nat} {σ σ' : rr_M} (hc : crf B σ) (h : mkf B σ σ') : mg_r σ' (B + 61) 0 = B + 62 := by rw [h.1, hc 61 0 (by omega), rx_61]
theorem mkr_e {B : Nat} {σ σ' : rr_M} {G G' : Nat → Int} (h : mkr B σ σ' G) (e : ∀ j, j < 17 → G j = G' j) : mkr B σ σ' G' := ⟨h.1, fun j hj => by rw [h.2 j hj, e j hj]⟩
theorem clr_l {fu B : Nat} {σ0 : rr_M} (hc : crf B σ0) {kk : rr_M → Option (Unit × rr_M)} {Q : Unit × rr_M → Prop} (hk : ∀ σ, mkr B σ0 σ (fun _ => 0) → wq (kk σ) Q) :
    ∀ (fl k : Nat) (σ : rr_M), k ≤ 17 → 18 - k ≤ fl → mkf B σ0 σ → (∀ j, j < k → (mg_l σ (B + 62) j).toInt = 0) → wq (l_Mak_clear_2 fu (nx B) (B + 61) fl (nI k) σ kk) Q
  | 0, k, σ, h1, h2, _, _ => by omega
  | fl + 1, k, σ, h1, h2, hF, hV => by
    rw [l_Mak_clear_2]
    by_cases h17 : k = 17
    · subst h17
      exact wq_ip (by decide) (hk σ ⟨hF, hV⟩)
    refine wq_in (show ¬ (17 : Int32) ≤ nI k from nI_ge (b := 17) (by omega) (by omega)) ?_
    dsimp only [rr_lt]
    rw [mk_r hc hF, n_nI (show k < 2 ^ 31 by omega), nI_1]
    refine wq_ip (by rw [nx_62]; exact ix_nI (by omega) (by omega)) (clr_l hc hk fl (k + 1) _ (by omega) (by omega) (mkf_s hF) (fun j hj => ?_))
    by_cases hjk : j = k
    · subst hjk; rw [sl_s]; rfl
    · rw [sl_n (Or.inr hjk)]; exact hV j (by omega)
theorem clr_ok {fu B : Nat} {σ : rr_M} (hfu : 400 < fu) (hc : crf B σ) : wq (f_Mak_clear fu (nx B) (B + 61) σ) (fun y => mkr B σ y.2 (fun _ => 0)) := by
  unfold f_Mak_clear
  exact clr_l hc (fun σ' h => wq_some h) fu 0 σ (by omega) (by omega) ⟨rfl, rfl, fun _ _ => rfl⟩ (fun j hj => absurd hj (by omega))
theorem adn_l {fu B o up : Nat} {σ0 : rr_M} {P : Pl} {G : Nat → Int} {F : Int64} {f : Int} (hc : crf B σ0) (ho : o ≠ 62) (hn : nx B (B + o) = 9) (hup : up ≤ 8) (hP : ∀ j, j < 9 → (mg_l σ0 (B + o) j).toInt = P j) (hf : F.toInt = f) (hfP : ∀ j, j < 9 → -100000000000000000 ≤ f * P j ∧ f * P j ≤ 100000000000000000) (hG : ∀ j, j < 17 → -1000000000000000000 ≤ G j ∧ G j ≤ 1000000000000000000) {kk : rr_M → Option (Unit × rr_M)} {Q : Unit × rr_M → Prop} (hk : ∀ σ, mkr B σ0 σ (fun j => G j + if up ≤ j ∧ j < up + 9 then f * P (j - up) else 0) → wq (kk σ) Q) :
    ∀ (fl k : Nat) (σ : rr_M), k ≤ 9 → 10 - k ≤ fl → mkr B σ0 σ (fun j => G j + if up ≤ j ∧ j < up + k then f * P (j - up) else 0) → wq (l_Mak_addNumbers_3 fu (nx B) (B + 61) (B + o) (nI up) F fl (nI k) σ kk) Q
  | 0, k, σ, h1, h2, _ => by omega
  | fl + 1, k, σ, h1, h2, hR => by
    rw [l_Mak_addNumbers_3, hn]
    by_cases h9 : k = 9
    · subst h9
      exact wq_ip (by decide) (hk σ hR)
    refine wq_in (nI_ge (by omega) (by omega)) ?_
    rw [nI_add]
    refine wq_in (show ¬ (17 : Int32) ≤ nI (k + up) from nI_ge (b := 17) (by omega) (by omega)) ?_
    dsimp only [rr_lt]
    have v1 := hR.2 (k + up) (by omega)
    have v2 := hP k (by omega)
    rw [← hR.1.2.2 (B + o) (by omega)] at v2
    have v3 := hG (k + up) (by omega)
    have v4 := hfP k (by omega)
    dsimp only at v1
    rw [if_neg (by omega), Int.add_zero] at v1
    have e1 : (F * mg_l σ (B + o) k).toInt = f * P k := by
      rw [j_mul, hf, v2] <;> rw [hf, v2] <;> omega
    have e2 : (mg_l σ (B + 62) (k + up) + F * mg_l σ (B + o) k).toInt = G (k + up) + f * P k := by
      rw [j_add, v1, e1] <;> rw [v1, e1] <;> omega
    rw [mk_r hc hR.1, n_nI (show k + up < 2 ^ 31 by omega), n_nI (show k < 2 ^ 31 by omega), nI_1, nx_62]
    refine wq_ip (ix_nI (by omega) (by omega)) (wq_ip (ix_nI (by omega) (by omega)) (wq_ip (ix_nI (by omega) (by omega)) ?_))
    refine adn_l hc ho hn hup hP hf hfP hG hk fl (k + 1) _ (by omega) (by omega) ⟨mkf_s hR.1, fun j hj => ?_⟩
    by_cases hjk : j = k + up
    · subst hjk
      rw [sl_s, e2]
      dsimp only
      rw [if_pos (by omega), show k + up - up = k by omega]
    · rw [sl_n (Or.inr hjk), hR.2 j hj]
      dsimp only
      by_cases hc2 : up ≤ j ∧ j < up + k
      · rw [if_pos hc2, if_pos (by omega)]
      · rw [if_neg hc2, if_neg (by omega)]
theorem adn_ok {fu B o up : Nat} {σ0 σ : rr_M} {P : Pl} {G : Nat → Int} {F : Int64} {f : Int} (hfu : 400 < fu) (hc : crf B σ0) (ho : o ≠ 62) (hn : nx B (B + o) = 9) (hup : up ≤ 8) (hP : ∀ j, j < 9 → (mg_l σ0 (B + o) j).toInt = P j) (hf : F.toInt = f) (hfP : ∀ j, j < 9 → -100000000000000000 ≤ f * P j ∧ f * P j ≤ 100000000000000000) (hG : ∀ j, j < 17 → -1000000000000000000 ≤ G j ∧ G j ≤ 1000000000000000000) (hR : mkr B σ0 σ G) : wq (f_Mak_addNumbers fu (nx B) (B + 61) (B + o) (nI up) F σ) (fun y => mkr B σ0 y.2 (fun j => G j + if up ≤ j ∧ j < up + 9 then f * P (j - up) else 0)) := by
  unfold f_Mak_addNumbers
  exact adn_l hc ho hn hup hP hf hfP hG (fun σ' h => wq_some h) fu 0 σ (by omega) (by omega) (mkr_e hR (fun j hj => by rw [if_neg (by omega), Int.add_zero]))
theorem ads_l {fu B o up : Nat} {σ0 : rr_M} {P : Pl} {G : Nat → Int} {F : Int64} {f : Int} (hc : crf B σ0) (ho : o ≠ 62) (hn : nx B (B + o) = 9) (hup : up ≤ 8) (hP : ∀ j, j < 9 → (mg_l σ0 (B + o) j).toInt = P j) (hPb : ∀ j, j < 9 → b8 (P j)) (hf : F.toInt = f) (hfb : -1000 ≤ f ∧ f ≤ 1000) (hG : ∀ j, j < 17 → -1000000000000000000 ≤ G j ∧ G j ≤ 1000000000000000000) {kk : rr_M → Option (Unit × rr_M)} {Q : Unit × rr_M → Prop} (hk : ∀ σ, mkr B σ0 σ (fun j => G j + if up ≤ j ∧ j < up + 8 then f * ((j : Int) - up + 1) * P (j - up + 1) else 0) → wq (kk σ) Q) :
    ∀ (fl k : Nat) (σ : rr_M), 1 ≤ k → k ≤ 9 → 10 - k ≤ fl → mkr B σ0 σ (fun j => G j + if up ≤ j ∧ j < up + (k - 1) then f * ((j : Int) - up + 1) * P (j - up + 1) else 0) → wq (l_Mak_addSlope_3 fu (nx B) (B + 61) (B + o) (nI up) F fl (nI k) σ kk) Q
  | 0, k, σ, h0, h1, h2, _ => by omega
  | fl + 1, k, σ, h0, h1, h2, hR => by
    rw [l_Mak_addSlope_3, hn]
    by_cases h9 : k = 9
    · subst h9
      exact wq_ip (by decide) (hk σ hR)
    refine wq_in (nI_ge (by omega) (by omega)) ?_
    rw [nI_pr (show 0 < k by omega), nI_add]
    refine wq_in (show ¬ (17 : Int32) ≤ nI (k - 1 + up) from nI_ge (b := 17) (by omega) (by omega)) ?_
    dsimp only [rr_lt]
    have v1 := hR.2 (k - 1 + up) (by omega)
    have v2 := hP k (by omega)
    rw [← hR.1.2.2 (B + o) (by omega)] at v2
    have v3 := hG (k - 1 + up) (by omega)
    have v4 := hPb k (by omega)
    unfold b8 at v4
    dsimp only at v1
    rw [if_neg (by omega), Int.add_zero] at v1
    have tk : (nI k).toInt64.toInt = (k : Int) := by rw [Int32.toInt_toInt64, nI_toInt (by omega)]
    have hfk : -8000 ≤ f * (k : Int) ∧ f * (k : Int) ≤ 8000 := by
      have hk8 : k = 1 ∨ k = 2 ∨ k = 3 ∨ k = 4 ∨ k = 5 ∨ k = 6 ∨ k = 7 ∨ k = 8 := by omega
      rcases hk8 with e | e | e | e | e | e | e | e <;> subst e <;> omega
    have e0 : (F * (nI k).toInt64).toInt = f * (k : Int) := by
      rw [j_mul, hf, tk] <;> rw [hf, tk] <;> omega
    have hfp : -800000000000 ≤ f * (k : Int) * P k ∧ f * (k : Int) * P k ≤ 800000000000 := by
      generalize f * (k : Int) = x at *
      generalize P k = y at *
      have hx : x.natAbs ≤ 8000 := by omega
      have hy : y.natAbs ≤ 100000000 := by omega
      have := Nat.mul_le_mul hx hy
      rw [← Int.natAbs_mul] at this
      omega
    have e1 : (F * (nI k).toInt64 * mg_l σ (B + o) k).toInt = f * (k : Int) * P k := by
      rw [j_mul, e0, v2] <;> rw [e0, v2] <;> omega
    have e2 : (mg_l σ (B + 62) (k - 1 + up) + F * (nI k).toInt64 * mg_l σ (B + o) k).toInt = G (k - 1 + up) + f * (k : Int) * P k := by
      rw [j_add, v1, e1] <;> rw [v1, e1] <;> omega
    rw [mk_r hc hR.1, n_nI (show k - 1 + up < 2 ^ 31 by omega), n_nI (show k < 2 ^ 31 by omega), nI_1, nx_62]
    refine wq_ip (ix_nI (by omega) (by omega)) (wq_ip (ix_nI (by omega) (by omega)) (wq_ip (ix_nI (by omega) (by omega)) ?_))
    refine ads_l hc ho hn hup hP hPb hf hfb hG hk fl (k + 1) _ (by omega) (by omega) (by omega) ⟨mkf_s hR.1, fun j hj => ?_⟩
    by_cases hjk : j = k - 1 + up
    · subst hjk
      rw [sl_s, e2]
      dsimp only
      rw [if_pos (by omega), show k - 1 + up - up + 1 = k by omega, show ((k - 1 + up : Nat) : Int) - up + 1 = (k : Int) by omega]
    · rw [sl_n (Or.inr hjk), hR.2 j hj]
      dsimp only
      by_cases hc2 : up ≤ j ∧ j < up + (k - 1)
      · rw [if_pos hc2, if_pos (by omega)]
      · rw [if_neg hc2, if_neg (by omega)]
theorem ads_ok {fu B o up : Nat} {σ0 σ : rr_M} {P : Pl} {G : Nat → Int} {F : Int64} {f : Int} (hfu : 400 < fu) (hc : crf B σ0) (ho : o ≠ 62) (hn : nx B (B + o) = 9) (hup : up ≤ 8) (hP : ∀ j, j < 9 → (mg_l σ0 (B + o) j).toInt = P j) (hPb : ∀ j, j < 9 → b8 (P j)) (hf : F.toInt = f) (hfb : -1000 ≤ f ∧ f ≤ 1000) (hG : ∀ j, j < 17 → -1000000000000000000 ≤ G j ∧ G j ≤ 1000000000000000000) (hR : mkr B σ0 σ G) : wq (f_Mak_addSlope fu (nx B) (B + 61) (B + o) (nI up) F σ) (fun y => mkr B σ0 y.2 (fun j => G j + if up ≤ j ∧ j < up + 8 then f * ((j : Int) - up + 1) * P (j - up + 1) else 0)) := by
  unfold f_Mak_addSlope
  exact ads_l hc ho hn hup hP hPb hf hfb hG (fun σ' h => wq_some h) fu 1 σ (by omega) (by omega) (by omega) (mkr_e hR (fun j hj => by rw [if_neg (by omega), Int.add_zero]))
/-- a number of a row fits -/
def fl1 (G : Nat → Int) (j : Nat) : Prop := if 8 < j then G j = 0 else b8 (G j)
theorem fit_ok {fu B o n : Nat} {σ : rr_M} {G : Nat → Int} (hfu : 400 < fu) (hn : nx B (B + o) = n) (h17 : n ≤ 17) (hv : ∀ j, j < n → (mg_l σ (B + o) j).toInt = G j) : wq (f_Num_fits fu (nx B) (B + o) σ) (fun r => (r = 1 ∧ ∀ j, j < n → fl1 G j) ∨ (r = 0 ∧ ¬ ∀ j, j < n → fl1 G j)) := by
  have z8 : (100000000 : Int64).toInt = 100000000 := by decide
  have z8n : (-(100000000 : Int64)).toInt = -100000000 := by decide
  have z0 : (0 : Int64).toInt = 0 := rfl
  have z0n : (-(0 : Int64)).toInt = 0 := by decide
  have key : ∀ (fl k : Nat), k ≤ n → 18 - k ≤ fl → (∀ j, j < k → fl1 G j) → wq (l_Num_fits_2 fu (nx B) (B + o) σ fl (nI k) (if rr_b1 1 = true then some 1 else none)) (fun r => (r = 1 ∧ ∀ j, j < n → fl1 G j) ∨ (r = 0 ∧ ¬ ∀ j, j < n → fl1 G j)) := by
    intro fl
    induction fl with
    | zero => intro k h1 h2; omega
    | succ fl ih =>
      intro k h1 h2 hL
      rw [l_Num_fits_2, hn]
      by_cases hk : k = n
      · subst hk
        exact wq_ip (nI_le (Nat.le_refl _) (by omega)) (wq_ip (by decide) (wq_some (Or.inl ⟨rfl, hL⟩)))
      refine wq_in (nI_ge (by omega) (by omega)) ?_
      dsimp only [rr_lt, rr_jn]
      have v := hv k (by omega)
      have ix := ix_nI (show k < n by omega) (by omega)
      rw [n_nI (show k < 2 ^ 31 by omega), nI_1]
      have go : fl1 G k → wq (l_Num_fits_2 fu (nx B) (B + o) σ fl (nI (k + 1)) (if rr_b1 1 = true then some 1 else none)) (fun r => (r = 1 ∧ ∀ j, j < n → fl1 G j) ∨ (r = 0 ∧ ¬ ∀ j, j < n → fl1 G j)) := fun hf => ih (k + 1) (by omega) (by omega) (fun j hj => by
        by_cases hjk : j = k
        · subst hjk; exact hf
        · exact hL j (by omega))
      have no : ¬ fl1 G k → wq (if rr_b1 0 = true then some (0 : Int32) else none) (fun r => (r = 1 ∧ ∀ j, j < n → fl1 G j) ∨ (r = 0 ∧ ¬ ∀ j, j < n → fl1 G j)) := fun hf => wq_ip (by decide) (wq_some (Or.inr ⟨rfl, fun hh => hf (hh k (by omega))⟩))
      unfold fl1 b8 at go no
      by_cases h8 : 8 < k
      · rw [if_pos h8] at go no
        refine wq_ip (show (8 : Int32) < nI k from nI_lt (a := 8) h8 (by omega)) (wq_ip ix ?_)
        by_cases c1 : (0 : Int64) < mg_l σ (B + o) k
        · refine wq_ip c1 (no ?_)
          rw [j_lt, v, z0] at c1
          omega
        · refine wq_in c1 (wq_ip ix ?_)
          rw [j_lt, v, z0] at c1
          by_cases c2 : (-(0 : Int64)) ≤ mg_l σ (B + o) k
          · refine wq_ip c2 (go ?_)
            rw [j_le, v, z0n] at c2
            omega
          · refine wq_in c2 (no ?_)
            rw [j_le, v, z0n] at c2
            omega
      · rw [if_neg h8] at go no
        refine wq_in (show ¬ (8 : Int32) < nI k from nI_nlt (a := 8) (by omega) (by omega)) (wq_ip ix ?_)
        by_cases c1 : (100000000 : Int64) < mg_l σ (B + o) k
        · refine wq_ip c1 (no ?_)
          rw [j_lt, v, z8] at c1
          omega
        · refine wq_in c1 (wq_ip ix ?_)
          rw [j_lt, v, z8] at c1
          by_cases c2 : (-(100000000 : Int64)) ≤ mg_l σ (B + o) k
          · refine wq_ip c2 (go ?_)
            rw [j_le, v, z8n] at c2
            omega
          · refine wq_in c2 (no ?_)
            rw [j_le, v, z8n] at c2
            omega
  unfold f_Num_fits
  exact key fu 0 (by omega) (by omega) (fun j hj => absurd hj (by omega))
theorem tak_l {fu B t o n : Nat} {σ1 : rr_M} (ht : t < 8) (ho : o = 60 ∨ o = 62) (hn : nx B (B + o) = n) (hn9 : 9 ≤ n) (hn17 : n ≤ 17) (hr : mg_r σ1 (B + (2 + 7 * t)) 0 = B + (3 + 7 * t)) {kk : rr_M → Option (Unit × rr_M)} {Q : Unit × rr_M → Prop}
    (hk : ∀ σ, mg_r σ = mg_r σ1 → mg_i σ = mg_i σ1 → (∀ a, a ≠ B + (3 + 7 * t) → mg_l σ a = mg_l σ1 a) → (∀ j, j < 9 → mg_l σ (B + (3 + 7 * t)) j = mg_l σ1 (B + o) j) → wq (kk σ) Q) :
    ∀ (fl k : Nat) (σ : rr_M), k ≤ 9 → 10 - k ≤ fl → mg_r σ = mg_r σ1 → mg_i σ = mg_i σ1 → (∀ a, a ≠ B + (3 + 7 * t) → mg_l σ a = mg_l σ1 a) → (∀ j, j < k → mg_l σ (B + (3 + 7 * t)) j = mg_l σ1 (B + o) j) → wq (l_Tra_take_2 fu (nx B) (B + (2 + 7 * t)) (B + o) fl (nI k) σ kk) Q
  | 0, k, σ, h1, h2, _, _, _, _ => by omega
  | fl + 1, k, σ, h1, h2, e1, e2, e3, e4 => by
    rw [l_Tra_take_2, hn]
    by_cases h9 : k = 9
    · subst h9
      exact wq_ip (by decide) (hk σ e1 e2 e3 e4)
    refine wq_in (show ¬ (9 : Int32) ≤ nI k from nI_ge (b := 9) (by omega) (by omega)) (wq_in (nI_ge (by omega) (by omega)) ?_)
    dsimp only [rr_lt]
    rw [e1, hr, n_nI (show k < 2 ^ 31 by omega), nI_1]
    refine wq_ip (ix_nI (by omega) (by omega)) (wq_ip (by rw [nx_at, (nx_tr t ht).1]; exact ix_nI (by omega) (by omega)) ?_)
    refine tak_l ht ho hn hn9 hn17 hr hk fl (k + 1) _ (by omega) (by omega) e1 e2 (fun a ha => (rr_oL ha).trans (e3 a ha)) (fun j hj => ?_)
    by_cases hjk : j = k
    · subst hjk
      rw [sl_s, e3 (B + o) (by omega)]
    · rw [sl_n (Or.inr hjk)]
      exact e4 j (by omega)
theorem tak_ok {fu B t o n : Nat} {σ σ1 : rr_M} {T : Nat → Pl} {G : Nat → Int} (hfu : 400 < fu) (ht : t < 8) (hX : IXc B σ T) (hr : mg_r σ1 = mg_r σ) (hi : ∀ o, o ≠ 58 → o ≠ 59 → mg_i σ1 (B + o) = mg_i σ (B + o)) (hl : ∀ o, o ≠ 58 → o ≠ 60 → o ≠ 62 → mg_l σ1 (B + o) = mg_l σ (B + o)) (ho : o = 60 ∨ o = 62) (hn : nx B (B + o) = n) (hn9 : 9 ≤ n) (hn17 : n ≤ 17) (hv : ∀ j, j < 9 → (mg_l σ1 (B + o) j).toInt = G j) (hG : ∀ j, j < 9 → b8 (G j)) : wq (f_Tra_take fu (nx B) (B + (2 + 7 * t)) (B + o) σ1) (fun y => IXc B y.2 (upT T t (cut G)) ∧ mg_i y.2 (B + 58) = mg_i σ1 (B + 58) ∧ mg_i y.2 (B + 59) = mg_i σ1 (B + 59)) := by
  have hrt : mg_r σ1 (B + (2 + 7 * t)) 0 = B + (3 + 7 * t) := by rw [hr, hX.1 _ 0 (by omega), (rx_tr t ht).1]
  unfold f_Tra_take f_Tra_forget
  refine tak_l ht ho hn hn9 hn17 hrt ?_ fu 0 σ1 (by omega) (by omega) rfl rfl (fun _ _ => rfl) (fun j hj => absurd hj (by omega))
  intro σ2 e1 e2 e3 e4
  dsimp only [rr_lt]
  refine wq_bd (wq_ip (by decide) (wq_ip (by decide) (wq_some (wq_some ⟨?_, ?_, ?_⟩))))
  · refine icx_new ht hX (e1.trans hr) (fun o' h1 h2 h3 => ?_) (fun o' h1 h2 h3 h4 => ?_) ?_ ?_ (cut_ok hG) (fun j hj => ?_)
    · dsimp only
      rw [si_row (by omega), si_row (by omega), e2]
      exact hi o' h1 h2
    · show mg_l σ2 (B + o') = _
      rw [e3 (B + o') (by omega)]
      exact hl o' h1 h2 h3
    · dsimp only
      rw [si_n (Or.inr (by omega)), si_s]
    · exact si_s _ _ _ _
    · show (mg_l σ2 (B + (3 + 7 * t)) j).toInt = _
      rw [e4 j hj, hv j hj]
      exact (if_pos hj).symm
  · dsimp only
    rw [si_row (by omega), si_row (by omega), e2]
  · dsimp only
    rw [si_row (by omega), si_row (by omega), e2]
/-- a call that makes: what the class does -/
def mkX (B : Nat) (T : Nat → Pl) (t : Nat) (OK : Prop) (R : Pl) (σ : rr_M) (x : Int32 × rr_M) : Prop := ((x.1 = 1 ∧ OK ∧ IXc B x.2 (upT T t R)) ∨ (x.1 = 0 ∧ ¬ OK ∧ IXc B x.2 T)) ∧ mg_i x.2 (B + 58) = mg_i σ (B + 58) ∧ mg_i x.2 (B + 59) = mg_i σ (B + 59)
def mkM (C : Nat) (T : Nat → Pl) (t : Nat) (OK : Prop) (R : Pl) (σ : rr_M) (y : Int32 × rr_M) : Prop := ((y.1 = 1 ∧ OK ∧ IMc C y.2 (upT T t R)) ∨ (y.1 = 0 ∧ ¬ OK ∧ IMc C y.2 T)) ∧ mg_i y.2 C 14 = mg_i σ C 14 ∧ mg_i y.2 C 15 = mg_i σ C 15 ∧ mg_i y.2 (C + 12) = mg_i σ (C + 12)
theorem op_mk {B C t : Nat} {T : Nat → Pl} {σx σm : rr_M} {f g : Option (Int32 × rr_M)} {OK : Prop} {R : Pl} (hT : ITp B C σx σm) (hx : wq f (mkX B T t OK R σx)) (hm : wq g (mkM C T t OK R σm)) : ∃ (r : Int32) (σ1 σ2 : rr_M), f = some (r, σ1) ∧ g = some (r, σ2) ∧ Inv B C σ1 σ2 := by
  obtain ⟨x, e1, e2, e3, e4⟩ := hx
  obtain ⟨y, d1, d2, d3, d4, d5⟩ := hm
  have hT' : ITp B C x.2 y.2 := by
    obtain ⟨n, n1, n2, n3, n4, n5⟩ := hT
    exact ⟨n, n1, by rw [e3]; exact n2, by rw [d3]; exact n3, by rw [e3, d4]; exact n4, fun i hi => by rw [e4, d5]; exact n5 i hi⟩
  rcases e2 with ⟨a1, a2, a3⟩ | ⟨a1, a2, a3⟩ <;> rcases d2 with ⟨b1, b2, b3⟩ | ⟨b1, b2, b3⟩
  · exact ⟨1, x.2, y.2, by rw [e1, ← a1], by rw [d1, ← b1], _, a3, b3, hT'⟩
  · exact absurd a2 b2
  · exact absurd b2 a2
  · exact ⟨0, x.2, y.2, by rw [e1, ← a1], by rw [d1, ← b1], _, a3, b3, hT'⟩
theorem mkx_0 {B t : Nat} {T : Nat → Pl} {σ σ' : rr_M} {R : Pl} {OK : Prop} (h : ¬ OK) (hX : IXc B σ T) (hF : mkf B σ σ') : wq (if rr_b1 0 = true then some ((0 : Int32), σ') else none) (mkX B T t OK R σ) := by
  refine wq_ip (by decide) (wq_some ⟨Or.inr ⟨rfl, h, ?_⟩, ?_, ?_⟩)
  · exact icx_tp hX hF.1 (fun o _ _ => by rw [hF.2.1]) (fun o _ _ h3 => hF.2.2 _ (by omega))
  · show mg_i σ' _ = _; rw [hF.2.1]
  · show mg_i σ' _ = _; rw [hF.2.1]
theorem mkx_t {fu B t : Nat} {T : Nat → Pl} {σ σ' : rr_M} {G : Nat → Int} {OK : Prop} {r : Int32} (hfu : 400 < fu) (ht : t < 8) (hX : IXc B σ T) (hF : mkf B σ σ') (hr : (r = 1 ∧ OK) ∨ (r = 0 ∧ ¬ OK)) (hOK : OK → ∀ j, j < 9 → b8 (G j) ∧ (mg_l σ' (B + 62) j).toInt = G j) :
    wq (if r = 0 then (if rr_b1 0 = true then some ((0 : Int32), σ') else none) else if rr_ix (nI t) (nx B (mg_r σ' B 0)) = true then rr_bd (f_Tra_take fu (nx B) (mg_r σ' (mg_r σ' B 0) (rr_n (nI t))) (mg_r σ' (mg_r σ' B 2) 0) σ') fun _ σ_31 => if rr_b1 1 = true then some ((1 : Int32), σ_31) else none else none) (mkX B T t OK (cut G) σ) := by
  rcases hr with ⟨e, h⟩ | ⟨e, h⟩
  · subst e
    have c1 := crf_of hX.1 hF.1
    obtain ⟨q0, q1, q2, q3, q4, q5, q6, q7, q8⟩ := roo_t c1
    rw [q0, q2, n_nI (show t < 2 ^ 31 by omega), (q7 t ht).1, show mg_r σ' (B + 61) 0 = B + 62 from mk_r hX.1 hF]
    refine wq_in (by decide) (wq_ip (q8 t ht) (wq_bd (wq_mo (tak_ok (o := 62) (G := G) hfu ht hX hF.1 (fun o _ _ => by rw [hF.2.1]) (fun o _ _ h3 => hF.2.2 _ (by omega)) (Or.inr rfl) (nx_62 B) (by omega) (by omega) (fun j hj => (hOK h j hj).2) (fun j hj => (hOK h j hj).1)) ?_)))
    rintro ⟨u, σ2⟩ ⟨k1, k2, k3⟩
    refine wq_ip (by decide) (wq_some ⟨Or.inl ⟨rfl, h, k1⟩, ?_, ?_⟩)
    · show mg_i σ2 _ = _
      rw [k2, hF.2.1]
    · show mg_i σ2 _ = _
      rw [k3, hF.2.1]
  · subst e
    exact wq_ip rfl (mkx_0 h hX hF)
