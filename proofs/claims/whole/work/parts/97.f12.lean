/-! ===== operators of the class, but for those by powers ===== -/
def ahd (P : Pl) (j : Nat) : Int := if j = 0 then 0 else P (j - 1)
/-- |x| is at most n -/
def abd (n : Nat) (x : Int) : Prop := x.natAbs ≤ n
theorem abd_m {n m : Nat} {x y : Int} (hx : abd n x) (hy : abd m y) : abd (n * m) (x * y) := by
  unfold abd
  rw [Int.natAbs_mul]
  exact Nat.mul_le_mul hx hy
theorem abd_a {n m : Nat} {x y : Int} (hx : abd n x) (hy : abd m y) : abd (n + m) (x + y) := by
  unfold abd at *
  omega
theorem abd_w {n m : Nat} {x : Int} (hx : abd n x) (h : n ≤ m) : abd m x := Nat.le_trans hx h
theorem abd_8 {x : Int} (h : b8 x) : abd 100000000 x := by
  unfold b8 at h
  unfold abd
  omega
theorem abd_n {n : Nat} {x : Int} (h1 : -(n : Int) ≤ x) (h2 : x ≤ n) : abd n x := by
  unfold abd
  omega
theorem ahd_b {P : Pl} (hP : ∀ j, b8 (P j)) (j : Nat) : b8 (ahd P j) := by
  unfold ahd
  split
  · unfold b8; omega
  · exact hP _
def mkb (B : Nat) (σ σ' : rr_M) (G : Nat → Int) (N : Nat) : Prop := mkr B σ σ' G ∧ ∀ j, j < 17 → abd (N * 10000000000000) (G j)
theorem mkb_r {B N : Nat} {σ σ' : rr_M} {G : Nat → Int} (h : mkb B σ σ' G N) (hN : N ≤ 50) : ∀ j, j < 17 → -1000000000000000000 ≤ G j ∧ G j ≤ 1000000000000000000 := fun j hj => by
  have := h.2 j hj
  unfold abd at this
  omega
theorem mkb_e {B N : Nat} {σ σ' : rr_M} {G G' : Nat → Int} (h : mkr B σ σ' G') (e : ∀ j, j < 17 → G' j = G j) (hb : ∀ j, j < 17 → abd (N * 10000000000000) (G j)) : mkb B σ σ' G N := ⟨mkr_e h e, hb⟩
section APB
variable {fu B o N : Nat} {σ0 σ : rr_M} {P : Pl} {G : Nat → Int} {F : Int64} {f : Int}
theorem ab_fp (hPb : ∀ j, b8 (P j)) (hf : -1000 ≤ f ∧ f ≤ 1000) (j : Nat) : abd 100000000000 (f * P j) := abd_m (n := 1000) (abd_n hf.1 hf.2) (abd_8 (hPb j))
theorem adn0 (hfu : 400 < fu) (hc : crf B σ0) (ho : o ≠ 62) (hn : nx B (B + o) = 9) (hP : ∀ j, j < 9 → (mg_l σ0 (B + o) j).toInt = P j) (h9 : pbd 9 P) (hPb : ∀ j, b8 (P j)) (hF : F.toInt = f) (hf : -1000 ≤ f ∧ f ≤ 1000) (hN : N ≤ 50) (hR : mkb B σ0 σ G N) : wq (f_Mak_addNumbers fu (nx B) (B + 61) (B + o) 0 F σ) (fun y => mkb B σ0 y.2 (fun j => G j + f * P j) (N + 1)) := by
  refine wq_mo (adn_ok (up := 0) hfu hc ho hn (by omega) hP hF (fun j _ => by have := ab_fp hPb hf j; unfold abd at this; omega) (mkb_r hR hN) hR.1) (fun y hy => mkb_e hy (fun j hj => ?_) (fun j hj => ?_))
  · show G j + _ = G j + _
    by_cases h : j < 9
    · rw [if_pos (by omega)]; rfl
    · rw [if_neg (by omega), h9 j (by omega), Int.mul_zero]
  · exact abd_w (abd_a (hR.2 j hj) (ab_fp hPb hf j)) (by omega)
theorem adn1 (hfu : 400 < fu) (hc : crf B σ0) (ho : o ≠ 62) (hn : nx B (B + o) = 9) (hP : ∀ j, j < 9 → (mg_l σ0 (B + o) j).toInt = P j) (h9 : pbd 9 P) (hPb : ∀ j, b8 (P j)) (hF : F.toInt = f) (hf : -1000 ≤ f ∧ f ≤ 1000) (hN : N ≤ 50) (hR : mkb B σ0 σ G N) : wq (f_Mak_addNumbers fu (nx B) (B + 61) (B + o) 1 F σ) (fun y => mkb B σ0 y.2 (fun j => G j + f * ahd P j) (N + 1)) := by
  refine wq_mo (adn_ok (up := 1) hfu hc ho hn (by omega) hP hF (fun j _ => by have := ab_fp hPb hf j; unfold abd at this; omega) (mkb_r hR hN) hR.1) (fun y hy => mkb_e hy (fun j hj => ?_) (fun j hj => ?_))
  · show G j + _ = G j + _
    unfold ahd
    by_cases h0 : j = 0
    · rw [if_neg (by omega), if_pos h0, Int.mul_zero]
    · rw [if_neg h0]
      by_cases h : j < 10
      · rw [if_pos (by omega)]
      · rw [if_neg (by omega), h9 (j - 1) (by omega), Int.mul_zero]
  · exact abd_w (abd_a (hR.2 j hj) (abd_m (n := 1000) (abd_n hf.1 hf.2) (abd_8 (ahd_b hPb j)))) (by omega)
theorem ab_fcp (hPb : ∀ j, b8 (P j)) (hf : -1000 ≤ f ∧ f ≤ 1000) {c : Int} (hc : -17 ≤ c ∧ c ≤ 17) {x : Int} (hx : b8 x) : abd 1700000000000 (f * c * x) := abd_m (n := 17000) (abd_m (n := 1000) (m := 17) (abd_n hf.1 hf.2) (abd_n hc.1 hc.2)) (abd_8 hx)
theorem ads0 (hfu : 400 < fu) (hc : crf B σ0) (ho : o ≠ 62) (hn : nx B (B + o) = 9) (hP : ∀ j, j < 9 → (mg_l σ0 (B + o) j).toInt = P j) (h9 : pbd 9 P) (hPb : ∀ j, b8 (P j)) (hF : F.toInt = f) (hf : -1000 ≤ f ∧ f ≤ 1000) (hN : N ≤ 50) (hR : mkb B σ0 σ G N) : wq (f_Mak_addSlope fu (nx B) (B + 61) (B + o) 0 F σ) (fun y => mkb B σ0 y.2 (fun j => G j + f * ((j : Int) + 1) * P (j + 1)) (N + 1)) := by
  refine wq_mo (ads_ok (up := 0) hfu hc ho hn (by omega) hP (fun j _ => hPb j) hF hf (mkb_r hR hN) hR.1) (fun y hy => mkb_e hy (fun j hj => ?_) (fun j hj => ?_))
  · show G j + _ = G j + _
    by_cases h : j < 8
    · rw [if_pos (by omega), show (j : Int) - ((0 : Nat) : Int) + 1 = (j : Int) + 1 by omega]; rfl
    · rw [if_neg (by omega), h9 (j + 1) (by omega), Int.mul_zero]
  · exact abd_w (abd_a (hR.2 j hj) (ab_fcp hPb hf (by omega) (hPb (j + 1)))) (by omega)
theorem ads1 (hfu : 400 < fu) (hc : crf B σ0) (ho : o ≠ 62) (hn : nx B (B + o) = 9) (hP : ∀ j, j < 9 → (mg_l σ0 (B + o) j).toInt = P j) (h9 : pbd 9 P) (hPb : ∀ j, b8 (P j)) (hF : F.toInt = f) (hf : -1000 ≤ f ∧ f ≤ 1000) (hN : N ≤ 50) (hR : mkb B σ0 σ G N) : wq (f_Mak_addSlope fu (nx B) (B + 61) (B + o) 1 F σ) (fun y => mkb B σ0 y.2 (fun j => G j + f * (j : Int) * P j) (N + 1)) := by
  refine wq_mo (ads_ok (up := 1) hfu hc ho hn (by omega) hP (fun j _ => hPb j) hF hf (mkb_r hR hN) hR.1) (fun y hy => mkb_e hy (fun j hj => ?_) (fun j hj => ?_))
  · show G j + _ = G j + _
    by_cases h0 : j = 0
    · subst h0
      rw [if_neg (by omega)]
      simp
    · by_cases h : j < 9
      · rw [if_pos (by omega), show (j : Int) - ((1 : Nat) : Int) + 1 = (j : Int) by omega, show j - 1 + 1 = j by omega]
      · rw [if_neg (by omega), h9 j (by omega), Int.mul_zero]
  · exact abd_w (abd_a (hR.2 j hj) (ab_fcp hPb hf (by omega) (hPb j))) (by omega)
theorem ads2 (hfu : 400 < fu) (hc : crf B σ0) (ho : o ≠ 62) (hn : nx B (B + o) = 9) (hP : ∀ j, j < 9 → (mg_l σ0 (B + o) j).toInt = P j) (h9 : pbd 9 P) (hPb : ∀ j, b8 (P j)) (hF : F.toInt = f) (hf : -1000 ≤ f ∧ f ≤ 1000) (hN : N ≤ 50) (hR : mkb B σ0 σ G N) : wq (f_Mak_addSlope fu (nx B) (B + 61) (B + o) 2 F σ) (fun y => mkb B σ0 y.2 (fun j => G j + f * ((j : Int) - 1) * ahd P j) (N + 1)) := by
  refine wq_mo (ads_ok (up := 2) hfu hc ho hn (by omega) hP (fun j _ => hPb j) hF hf (mkb_r hR hN) hR.1) (fun y hy => mkb_e hy (fun j hj => ?_) (fun j hj => ?_))
  · show G j + _ = G j + _
    unfold ahd
    by_cases h0 : j = 0
    · rw [if_neg (by omega), if_pos h0, Int.mul_zero]
    · rw [if_neg h0]
      by_cases h1 : j = 1
      · subst h1
        rw [if_neg (by omega)]
        simp
      · by_cases h : j < 10
        · rw [if_pos (by omega), show (j : Int) - ((2 : Nat) : Int) + 1 = (j : Int) - 1 by omega, show j - 2 + 1 = j - 1 by omega]
        · rw [if_neg (by omega), h9 (j - 1) (by omega), Int.mul_zero]
  · exact abd_w (abd_a (hR.2 j hj) (ab_fcp hPb hf (by omega) (ahd_b hPb j))) (by omega)
end APB
def fcz : Nat → Int
  | 0 => 1
  | n + 1 => fcz n * ((n : Int) + 1)
/-- what an operator makes -/
noncomputable def oG (P : Pl) (a : Int) (op : Nat) (j : Nat) : Int :=
  if op = 0 then 1 * ((j : Int) + 1) * P (j + 1) else
  if op = 1 then 1 * (j : Int) * P j else
  if op = 2 then 1 * P j + a * ((j : Int) + 1) * P (j + 1) else
  if op = 3 then 1 * ahd P j + a * P j else
  if op = 5 then (if j < dln P then P (dgg P - j) else 0) else
  if op = 7 then 1 * P j + a * ahd P j + 1 * (j : Int) * P j + -1 * ((j : Int) - 1) * ahd P j else
  if op = 8 then 1 * ahd P j + 1 * (j : Int) * P j else
  P j * fcz j
def apS (B : Nat) (σ : rr_M) (OK : Prop) (G : Nat → Int) (y : Int32 × rr_M) : Prop := mkf B σ y.2 ∧ ((y.1 = 1 ∧ OK) ∨ (y.1 = 0 ∧ ¬ OK)) ∧ (OK → ∀ j, j < 9 → b8 (G j) ∧ (mg_l y.2 (B + 62) j).toInt = G j)
theorem j199 {fu B : Nat} {σ σ' : rr_M} {G : Nat → Int} (hfu : 400 < fu) (hc : crf B σ) (h : mkr B σ σ' G) : wq (Option.bind (f_Num_fits fu (nx B) (mg_r σ' (B + 61) 0) σ') fun r_5 => if rr_b1 r_5 = true then some (r_5, σ') else none) (apS B σ (∀ j, j < 17 → fl1 G j) G) := by
  rw [mk_r hc h.1]
  refine wq_ob (wq_mo (fit_ok hfu (nx_62 B) (by omega) h.2) ?_)
  rintro r hr
  refine wq_ip (by rcases hr with ⟨e, _⟩ | ⟨e, _⟩ <;> rw [e] <;> decide) (wq_some ⟨h.1, hr, fun hh j hj => ⟨?_, h.2 j (by omega)⟩⟩)
  have := hh j (by omega)
  unfold fl1 at this
  rw [if_neg (by omega)] at this
  exact this
theorem trn_l {fu B o d : Nat} {σ0 : rr_M} {P : Pl} (hc : crf B σ0) (ho : o ≠ 62) (hn : nx B (B + o) = 9) (hP : ∀ j, j < 9 → (mg_l σ0 (B + o) j).toInt = P j) (hd : d ≤ 8) {kk : rr_M → Option (Unit × rr_M)} {Q : Unit × rr_M → Prop} (hk : ∀ σ, mkr B σ0 σ (fun j => if j ≤ d then P (d - j) else 0) → wq (kk σ) Q) :
    ∀ (fl k : Nat) (σ : rr_M), k ≤ d + 1 → d + 2 - k ≤ fl → mkr B σ0 σ (fun j => if j ≤ d ∧ d < j + k then P (d - j) else 0) → wq (l_Mak_turn_7 fu (nx B) (B + 61) (B + o) (nI d) fl (nI k) σ kk) Q
  | 0, k, σ, h1, h2, _ => by omega
  | fl + 1, k, σ, h1, h2, hR => by
    rw [l_Mak_turn_7, hn]
    by_cases hkd : k = d + 1
    · subst hkd
      refine wq_ip (nI_lt (by omega) (by omega)) (hk σ (mkr_e hR (fun j hj => ?_)))
      by_cases h : j ≤ d
      · rw [if_pos (by omega), if_pos h]
      · rw [if_neg (by omega), if_neg h]
    refine wq_in (nI_nlt (by omega) (by omega)) ?_
    dsimp only [rr_lt]
    have v2 := hP k (by omega)
    rw [← hR.1.2.2 (B + o) (by omega)] at v2
    rw [mk_r hc hR.1, nI_sub (show k ≤ d by omega), n_nI (show k < 2 ^ 31 by omega), n_nI (show d - k < 2 ^ 31 by omega), nI_1, nx_62]
    refine wq_ip (ix_nI (by omega) (by omega)) (wq_ip (ix_nI (by omega) (by omega)) ?_)
    refine trn_l hc ho hn hP hd hk fl (k + 1) _ (by omega) (by omega) ⟨mkf_s hR.1, fun j hj => ?_⟩
    by_cases hjk : j = d - k
    · subst hjk
      rw [sl_s, v2]
      dsimp only
      rw [if_pos (by omega), show d - (d - k) = k by omega]
    · rw [sl_n (Or.inr hjk), hR.2 j hj]
      dsimp only
      by_cases hc2 : j ≤ d ∧ d < j + k
      · rw [if_pos hc2, if_pos (by omega)]
      · rw [if_neg hc2, if_neg (by omega)]
theorem fcz_b : ∀ k, k < 9 → 1 ≤ fcz k ∧ fcz k ≤ 40320 := by decide
theorem fcz_s (k : Nat) (hk : 0 < k) : fcz k = fcz (k - 1) * (k : Int) := by
  obtain ⟨m, rfl⟩ : ∃ m, k = m + 1 := ⟨k - 1, by omega⟩
  rfl
theorem wgh_l {fu B o : Nat} {σ0 : rr_M} {P : Pl} (hc : crf B σ0) (ho : o ≠ 62) (hn : nx B (B + o) = 9) (hP : ∀ j, j < 9 → (mg_l σ0 (B + o) j).toInt = P j) (hPb : ∀ j, b8 (P j)) {kk : rr_M → Option (Unit × rr_M)} {Q : Unit × rr_M → Prop} (hk : ∀ σ, mkr B σ0 σ (fun j => if j < 9 then P j * fcz j else 0) → wq (kk σ) Q) :
    ∀ (fl k : Nat) (v : Int64) (σ : rr_M), k ≤ 9 → 10 - k ≤ fl → v.toInt = fcz (k - 1) → mkr B σ0 σ (fun j => if j < k then P j * fcz j else 0) → wq (l_Mak_weigh_5 fu (nx B) (B + 61) (B + o) fl v (nI k) σ kk) Q
  | 0, k, v, σ, h1, h2, _, _ => by omega
  | fl + 1, k, v, σ, h1, h2, hv, hR => by
    rw [l_Mak_weigh_5, hn]
    by_cases hk9 : k = 9
    · subst hk9
      exact wq_ip (by decide) (hk σ hR)
    refine wq_in (nI_ge (by omega) (by omega)) (wq_in (show ¬ (17 : Int32) ≤ nI k from nI_ge (b := 17) (by omega) (by omega)) ?_)
    dsimp only [rr_lt]
    have v2 := hP k (by omega)
    rw [← hR.1.2.2 (B + o) (by omega)] at v2
    have fb := fcz_b (k - 1) (by omega)
    have fk := fcz_b k (by omega)
    have hmx : (rr_mx (nI k) 1).toInt64.toInt = ((max k 1 : Nat) : Int) := by
      have : rr_mx (nI k) 1 = nI (max k 1) := by
        unfold rr_mx
        have hk8 : k = 0 ∨ k = 1 ∨ k = 2 ∨ k = 3 ∨ k = 4 ∨ k = 5 ∨ k = 6 ∨ k = 7 ∨ k = 8 := by omega
        rcases hk8 with e | e | e | e | e | e | e | e | e <;> subst e <;> decide
      rw [this, Int32.toInt_toInt64, nI_toInt (by omega)]
    have hw : (v * (rr_mx (nI k) 1).toInt64).toInt = fcz k := by
      have e : v.toInt * ((max k 1 : Nat) : Int) = fcz k := by
        rw [hv]
        by_cases h0 : k = 0
        · subst h0; rfl
        · rw [fcz_s k (by omega), show max k 1 = k by omega]
      rw [j_mul, hmx, e] <;> rw [hmx, e] <;> omega
    have hp : (mg_l σ (B + o) k * (v * (rr_mx (nI k) 1).toInt64)).toInt = P k * fcz k := by
      have := abd_m (n := 100000000) (m := 40320) (abd_8 (hPb k)) (show abd 40320 (fcz k) by unfold abd; omega)
      unfold abd at this
      rw [j_mul, v2, hw] <;> rw [v2, hw] <;> omega
    rw [mk_r hc hR.1, n_nI (show k < 2 ^ 31 by omega), nI_1, nx_62]
    refine wq_ip (ix_nI (by omega) (by omega)) (wq_ip (ix_nI (by omega) (by omega)) ?_)
    refine wgh_l hc ho hn hP hPb hk fl (k + 1) _ _ (by omega) (by omega) hw ⟨mkf_s hR.1, fun j hj => ?_⟩
    by_cases hjk : j = k
    · subst hjk
      rw [sl_s, hp]
      exact (if_pos (by omega)).symm
    · rw [sl_n (Or.inr hjk), hR.2 j hj]
      dsimp only
      by_cases hc2 : j < k
      · rw [if_pos hc2, if_pos (by omega)]
      · rw [if_neg hc2, if_neg (by omega)]
