/-! ===== times ===== -/
def pS (P Q : Pl) (j : Nat) : Nat → Int
  | 0 => 0
  | m + 1 => pS P Q j m + (if m ≤ j then P m * Q (j - m) else 0)
theorem b8_mul {x y : Int} (hx : b8 x) (hy : b8 y) : -10000000000000000 ≤ x * y ∧ x * y ≤ 10000000000000000 := by
  unfold b8 at hx hy
  have hx : x.natAbs ≤ 100000000 := by omega
  have hy : y.natAbs ≤ 100000000 := by omega
  have := Nat.mul_le_mul hx hy
  rw [← Int.natAbs_mul] at this
  omega
theorem pS_b {P Q : Pl} (hP : ∀ j, b8 (P j)) (hQ : ∀ j, b8 (Q j)) (j : Nat) : ∀ m : Nat, -10000000000000000 * (m : Int) ≤ pS P Q j m ∧ pS P Q j m ≤ 10000000000000000 * (m : Int)
  | 0 => by
    show _ ≤ (0 : Int) ∧ (0 : Int) ≤ _
    omega
  | m + 1 => by
    have ih := pS_b hP hQ j m
    have := b8_mul (hP m) (hQ (j - m))
    show _ ≤ pS P Q j m + (if m ≤ j then P m * Q (j - m) else 0) ∧ pS P Q j m + (if m ≤ j then P m * Q (j - m) else 0) ≤ _
    split <;> omega
theorem pS_k {P Q : Pl} {j : Nat} : ∀ m, j + 1 ≤ m → pS P Q j m = pS P Q j (j + 1) := by
  intro m hm
  induction m with
  | zero => omega
  | succ m ih =>
    by_cases h : m = j
    · subst h; rfl
    · show pS P Q j m + (if m ≤ j then P m * Q (j - m) else 0) = _
      rw [if_neg (by omega), Int.add_zero]
      exact ih (by omega)
theorem pS_top {P Q : Pl} {a b : Nat} (hP : dgr P a) (hQ : dgr Q b) : ∀ m, pS P Q (a + b) m = if a < m then P a * Q b else 0
  | 0 => by rw [if_neg (by omega)]; rfl
  | m + 1 => by
    show pS P Q (a + b) m + (if m ≤ a + b then P m * Q (a + b - m) else 0) = _
    rw [pS_top hP hQ m]
    by_cases h : m = a
    · subst h
      rw [if_neg (by omega), if_pos (by omega), if_pos (by omega), show m + b - m = b by omega, Int.zero_add]
    · by_cases h2 : m ≤ a + b
      · rw [if_pos h2]
        have : P m * Q (a + b - m) = 0 := by
          by_cases h3 : m < a
          · rw [hQ.2 (a + b - m) (by omega), Int.mul_zero]
          · rw [hP.2 m (by omega), Int.zero_mul]
        rw [this, Int.add_zero]
        by_cases h4 : a < m
        · rw [if_pos h4, if_pos (by omega)]
        · rw [if_neg h4, if_neg (by omega)]
      · rw [if_neg h2, Int.add_zero, if_pos (by omega), if_pos (by omega)]
theorem pS_0 {P Q : Pl} {j : Nat} (h : ∀ m, m ≤ j → P m * Q (j - m) = 0) : ∀ m, pS P Q j m = 0
  | 0 => rfl
  | m + 1 => by
    show pS P Q j m + (if m ≤ j then P m * Q (j - m) else 0) = 0
    rw [pS_0 h m]
    split
    · rename_i h1; rw [h m h1]; rfl
    · rfl
theorem prd_l {fu B o o' : Nat} {σ0 : rr_M} {P Q : Pl} (hfu : 400 < fu) (hc : crf B σ0) (ho : o ≠ 62) (ho' : o' ≠ 62) (hn : nx B (B + o) = 9) (hn' : nx B (B + o') = 9) (hP : ∀ j, j < 9 → (mg_l σ0 (B + o) j).toInt = P j) (hQ : ∀ j, j < 9 → (mg_l σ0 (B + o') j).toInt = Q j) (hPb : ∀ j, b8 (P j)) (hQb : ∀ j, b8 (Q j)) (hQ9 : pbd 9 Q) {kk : rr_M → Option (Int32 × rr_M)} {R : Int32 × rr_M → Prop} (hk : ∀ σ, mkr B σ0 σ (fun j => pS P Q j 9) → wq (kk σ) R) :
    ∀ (fl k : Nat) (σ : rr_M), k ≤ 9 → 10 - k ≤ fl → mkr B σ0 σ (fun j => pS P Q j k) → wq (l_Mak_product_6 fu (nx B) (B + 61) (B + o) (B + o') fl (nI k) σ kk) R
  | 0, k, σ, h1, h2, _ => by omega
  | fl + 1, k, σ, h1, h2, hR => by
    rw [l_Mak_product_6, hn]
    by_cases h9 : k = 9
    · subst h9
      exact wq_ip (by decide) (hk σ hR)
    have v2 := hP k (by omega)
    rw [← hR.1.2.2 (B + o) (by omega)] at v2
    refine wq_in (nI_ge (by omega) (by omega)) (wq_ip (ix_nI (by omega) (by omega)) ?_)
    rw [n_nI (show k < 2 ^ 31 by omega), nI_1]
    refine wq_bd (wq_mo (adn_ok (o := o') (up := k) (P := Q) (f := P k) hfu hc ho' hn' (by omega) hQ v2 (fun j _ => by have := b8_mul (hPb k) (hQb j); omega) (fun j _ => by
      have := pS_b hPb hQb j k
      omega) hR) ?_)
    rintro ⟨u, σ1⟩ h3
    dsimp only [rr_lt] at h3 ⊢
    refine prd_l hfu hc ho ho' hn hn' hP hQ hPb hQb hQ9 hk fl (k + 1) σ1 (by omega) (by omega) (mkr_e h3 (fun j hj => ?_))
    show pS P Q j k + _ = pS P Q j k + (if k ≤ j then P k * Q (j - k) else 0)
    by_cases c1 : k ≤ j
    · by_cases c2 : j < k + 9
      · rw [if_pos ⟨c1, c2⟩, if_pos c1]
      · rw [if_neg (by omega), if_pos c1, hQ9 (j - k) (by omega), Int.mul_zero]
    · rw [if_neg (by omega), if_neg c1]
theorem tmi_m {fu C u w k : Nat} {σ : rr_M} {P Q : Pl} (hm : mrf C σ) (hu : u < 8) (hw : w < 8) (hk9 : k < 9) (hP : mpo C σ u P) (hQ : mpo C σ w Q) (hPb : ∀ j, b8 (P j)) (hQb : ∀ j, b8 (Q j)) {kk : Int64 → Option (Int32 × rr_M)} {R : Int32 × rr_M → Prop} (hk : ∀ v : Int64, v.toInt = pS P Q k (k + 1) → wq (kk v) R) :
    ∀ (fl i : Nat) (v : Int64), i ≤ k + 1 → k + 2 - i ≤ fl → v.toInt = pS P Q k i → wq (l_Mod_times_81 fu (nm C) C (nI u) (nI w) (nI k) σ fl v (nI i) kk) R
  | 0, i, v, h1, h2, _ => by omega
  | fl + 1, i, v, h1, h2, hv => by
    rw [l_Mod_times_81]
    by_cases hi : i = k + 1
    · subst hi
      exact wq_ip (nI_lt (by omega) (by omega)) (hk v hv)
    refine wq_in (nI_nlt (by omega) (by omega)) ?_
    have e1 := hP i (by omega)
    have e2 := hQ (k - i) (by omega)
    rw [nI_sub (show i ≤ k by omega), mat_ok hm (show u < 23 by omega) (show i < 9 by omega), mat_ok hm (show w < 23 by omega) (show k - i < 9 by omega), nI_1]
    refine wq_ob (wq_some (wq_ob (wq_some ?_)))
    dsimp only [rr_lt]
    have m1 := b8_mul (hPb i) (hQb (k - i))
    have m2 := pS_b hPb hQb k i
    have e3 : (mg_l σ (C + 8) (9 * u + i) * mg_l σ (C + 8) (9 * w + (k - i))).toInt = P i * Q (k - i) := by
      rw [j_mul, e1, e2] <;> rw [e1, e2] <;> omega
    refine tmi_m hm hu hw hk9 hP hQ hPb hQb hk fl (i + 1) _ (by omega) (by omega) ?_
    rw [j_add, hv, e3]
    · show _ = pS P Q k i + (if i ≤ k then P i * Q (k - i) else 0)
      rw [if_pos (by omega)]
    · rw [hv, e3]; omega
    · rw [hv, e3]; omega
theorem tmo_m {fu C u w : Nat} {σ0 : rr_M} {P Q : Pl} (hfu : 400 < fu) (hm : mrf C σ0) (hu : u < 8) (hw : w < 8) (hP : mpo C σ0 u P) (hQ : mpo C σ0 w Q) (hPb : ∀ j, b8 (P j)) (hQb : ∀ j, b8 (Q j)) {kk : rr_M → Option (Int32 × rr_M)} {R : Int32 × rr_M → Prop}
    (hk : ∀ σ, mlf C σ0 σ → (∀ j, j < 9 → (mg_l σ (C + 8) (189 + j)).toInt = pS P Q j 9) → wq (kk σ) R) :
    ∀ (fl k : Nat) (σ : rr_M), k ≤ 9 → 10 - k ≤ fl → mlf C σ0 σ → (∀ j, j < k → (mg_l σ (C + 8) (189 + j)).toInt = pS P Q j 9) → wq (l_Mod_times_68 fu (nm C) C (nI u) (nI w) fl (nI k) σ kk) R
  | 0, k, σ, h1, h2, _, _ => by omega
  | fl + 1, k, σ, h1, h2, hF, hV => by
    rw [l_Mod_times_68]
    by_cases h9 : k = 9
    · subst h9
      exact wq_ip (by decide) (hk σ hF hV)
    have hm' : mrf C σ := mrf_of hm hF.1
    have hP' : mpo C σ u P := fun j hj => by rw [hF.2.2 _ (by omega)]; exact hP j hj
    have hQ' : mpo C σ w Q := fun j hj => by rw [hF.2.2 _ (by omega)]; exact hQ j hj
    refine wq_in (show ¬ (9 : Int32) ≤ nI k from nI_ge (b := 9) (by omega) (by omega)) ?_
    refine tmi_m hm' hu hw (show k < 9 by omega) hP' hQ' hPb hQb ?_ fu 0 0 (by omega) (by omega) rfl
    intro v hv
    rw [p21 hm' (show k < 9 by omega), nI_1]
    refine wq_bd (wq_some ?_)
    dsimp only [rr_lt]
    refine tmo_m hfu hm hu hw hP hQ hPb hQb hk fl (k + 1) _ (by omega) (by omega) (mlf_s hF) (fun j hj => ?_)
    by_cases hjk : j = k
    · subst hjk
      rw [sl_s, hv, pS_k 9 (by omega)]
    · rw [sl_n (Or.inr (by omega))]
      exact hV j (by omega)
theorem op_times_ok {fu B C : Nat} (hfu : 70000 < fu) : op_times fu B C (Inv B C) := by
  rintro a1 a2 a3 σx σm ⟨T, hX, hM, hT⟩
  obtain ⟨hM1, FM1⟩ := imc_0 (v := 0) hM
  obtain ⟨Y1, L1⟩ := hM1.1
  have rx : mkf B σx σx := ⟨rfl, rfl, fun _ _ => rfl⟩
  rcases try_c a1 with ⟨e1, e2⟩ | ⟨t, ht, rfl, e1, e2⟩
  · refine op_mk (T := T) (t := 0) (OK := False) (R := pz) hT ?_ ?_
    · unfold f_Roo_times
      rw [e1]
      exact wq_ob (wq_some (wq_ip rfl (mkx_0 id hX rx)))
    · unfold f_Mod_times
      dsimp only [rr_lt]
      rw [e2 C]
      exact wq_ob (wq_some (wq_ip rfl (mkm_00 id hM1)))
  rcases try_c a2 with ⟨f1, f2⟩ | ⟨u, hu, rfl, f1, f2⟩
  · refine op_mk (T := T) (t := 0) (OK := False) (R := pz) hT ?_ ?_
    · unfold f_Roo_times
      rw [e1, f1]
      exact wq_ob (wq_some (wq_in (by decide) (wq_ob (wq_some (wq_ip rfl (mkx_0 id hX rx))))))
    · unfold f_Mod_times
      dsimp only [rr_lt]
      rw [e2 C, f2 C]
      exact wq_ob (wq_some (wq_in (by decide) (wq_ob (wq_some (wq_ip rfl (mkm_00 id hM1))))))
  rcases try_c a3 with ⟨g1, g2⟩ | ⟨w, hw, rfl, g1, g2⟩
  · refine op_mk (T := T) (t := 0) (OK := False) (R := pz) hT ?_ ?_
    · unfold f_Roo_times
      rw [e1, f1, g1]
      exact wq_ob (wq_some (wq_in (by decide) (wq_ob (wq_some (wq_in (by decide) (wq_ob (wq_some (wq_ip rfl (mkx_0 id hX rx)))))))))
    · unfold f_Mod_times
      dsimp only [rr_lt]
      rw [e2 C, f2 C, g2 C]
      exact wq_ob (wq_some (wq_in (by decide) (wq_ob (wq_some (wq_in (by decide) (wq_ob (wq_some (wq_ip rfl (mkm_00 id hM1)))))))))
  obtain ⟨q0, q1, q2, q3, q4, q5, q6, q7, q8⟩ := roo_t hX.1
  obtain ⟨b1, b2, _⟩ := hX.2.2.2 u hu
  obtain ⟨d1, d2, _⟩ := hX.2.2.2 w hw
  have hPb : ∀ j, b8 (T u j) := fun j => b1.2 j
  have hQb : ∀ j, b8 (T w j) := fun j => d1.2 j
  refine op_mk (T := T) (t := t) (OK := ∀ j, j < 17 → fl1 (fun j => pS (T u) (T w) j 9) j) (R := cut (fun j => pS (T u) (T w) j 9)) hT ?_ ?_
  · unfold f_Roo_times f_Mak_product
    dsimp only [rr_lt]
    rw [e1, f1, g1, q2, q0, n_nI (show u < 2 ^ 31 by omega), n_nI (show w < 2 ^ 31 by omega), (q7 u hu).1, (q7 w hw).1, (q7 u hu).2, (q7 w hw).2]
    have n9 : nx B (B + (3 + 7 * u)) = 9 := by rw [nx_at]; exact (nx_tr u hu).1
    have n9' : nx B (B + (3 + 7 * w)) = 9 := by rw [nx_at]; exact (nx_tr w hw).1
    refine wq_ob (wq_some (wq_in (by decide) (wq_ob (wq_some (wq_in (by decide) (wq_ob (wq_some (wq_in (by decide) (wq_ip (q8 u hu) (wq_ip (q8 w hw) ?_))))))))))
    refine wq_bd (wq_bd (wq_mo (clr_ok (by omega) hX.1) ?_))
    rintro ⟨x1, σ1⟩ h1
    dsimp only at h1 ⊢
    refine prd_l (o := 3 + 7 * u) (o' := 3 + 7 * w) (P := T u) (Q := T w) (by omega) hX.1 (by omega) (by omega) n9 n9' b2 d2 hPb hQb d1.1 ?_ fu 0 σ1 (by omega) (by omega) (mkr_e h1 (fun j hj => rfl))
    intro σ2 h2
    rw [mk_r hX.1 h2.1]
    refine wq_ob (wq_mo (fit_ok (by omega) (nx_62 B) (by omega) h2.2) ?_)
    rintro r hr
    refine wq_ip (by rcases hr with ⟨e, _⟩ | ⟨e, _⟩ <;> rw [e] <;> decide) (wq_some ?_)
    exact mkx_t (G := fun j => pS (T u) (T w) j 9) (by omega) ht hX h2.1 hr (fun h j hj => ⟨by have := h j (by omega); unfold fl1 at this; rw [if_neg (by omega)] at this; exact this, h2.2 j (by omega)⟩)
  · unfold f_Mod_times
    dsimp only [rr_lt, rr_jn]
    rw [e2 C, f2 C, g2 C, mdg_ok (fu := fu) (r := u) (by omega) L1.1 (by omega) (hM1.2 u hu), mdg_ok (fu := fu) (r := w) (by omega) L1.1 (by omega) (hM1.2 w hw)]
    refine wq_ob (wq_some (wq_in (by decide) (wq_ob (wq_some (wq_in (by decide) (wq_ob (wq_some (wq_in (by decide) (wq_ob (wq_some ?_))))))))))
    have main : (∀ j, 9 ≤ j → pS (T u) (T w) j 9 = 0) → wq (l_Mod_times_68 fu (nm C) C (nI u) (nI w) fu 0 (ms_i σm C 0 0) (fun σ_25 => rr_bd (f_Mod_comes fu (nm C) C (nI t) σ_25) fun r_26 σ_27 => if rr_b1 r_26 = true then some (r_26, σ_27) else none)) (mkM C T t (∀ j, j < 17 → fl1 (fun j => pS (T u) (T w) j 9) j) (cut (fun j => pS (T u) (T w) j 9)) σm) := by
      intro hz
      refine tmo_m (σ0 := ms_i σm C 0 0) (by omega) L1.1 hu hw (hM1.2 u hu) (hM1.2 w hw) hPb hQb ?_ fu 0 _ (by omega) (by omega) ⟨rfl, rfl, fun _ _ => rfl⟩ (fun j hj => absurd hj (by omega))
      intro σ2 F2 V2
      refine mkm_t (by omega) ht (imc_mlf hM1 F2) F2.2.1 V2 (fun j _ => by have := pS_b hPb hQb j 9; omega) ?_
      unfold fl1
      constructor
      · intro h j hj
        have := h j (by omega)
        rw [if_neg (by omega)] at this
        exact this
      · intro h j hj
        by_cases h8 : 8 < j
        · rw [if_pos h8]; exact hz j (by omega)
        · rw [if_neg h8]; exact h j (by omega)
    by_cases z1 : dln (T u) = 0
    · rw [z1]
      refine wq_ip (by decide) (main (fun j _ => pS_0 (fun m _ => by rw [dln_0 b1.1 z1]; show (0 : Int) * _ = 0; rw [Int.zero_mul]) 9))
    have p8 := dgg_lt (T u)
    have r8 := dgg_lt (T w)
    rw [show nI (dln (T u)) - 1 = nI (dgg (T u)) from nI_pr (by omega)]
    refine wq_in (nI_pos (by omega)) (wq_ob (wq_some ?_))
    by_cases z2 : dln (T w) = 0
    · rw [z2]
      refine wq_ip (by decide) (main (fun j _ => pS_0 (fun m _ => by rw [dln_0 d1.1 z2]; show _ * (0 : Int) = 0; rw [Int.mul_zero]) 9))
    rw [show nI (dln (T w)) - 1 = nI (dgg (T w)) from nI_pr (by omega)]
    refine wq_in (nI_pos (by omega)) (wq_ob (wq_some (wq_ob (wq_some ?_))))
    rw [nI_add]
    obtain ⟨x1, _⟩ := dln_top b1.1 (show 0 < dln (T u) by omega)
    obtain ⟨y1, _⟩ := dln_top d1.1 (show 0 < dln (T w) by omega)
    by_cases c : dgg (T u) + dgg (T w) ≤ 8
    · refine wq_ip (show nI (dgg (T u) + dgg (T w)) ≤ 8 from nI_le (b := 8) c (by omega)) (main (fun j hj => pS_0 (fun m hm => ?_) 9))
      by_cases h1 : m ≤ dgg (T u)
      · rw [y1.2 (j - m) (by omega), Int.mul_zero]
      · rw [x1.2 m (by omega), Int.zero_mul]
    · refine wq_in (show ¬ nI (dgg (T u) + dgg (T w)) ≤ 8 from nI_ge (a := 8) (by omega) (by omega)) (mkm_00 ?_ hM1)
      intro h
      have := h (dgg (T u) + dgg (T w)) (by omega)
      unfold fl1 at this
      rw [if_pos (by omega)] at this
      dsimp only at this
      rw [pS_top x1 y1, if_pos (by omega)] at this
      rcases Int.mul_eq_zero.mp this with h | h
      · exact x1.1 h
      · exact y1.1 h
