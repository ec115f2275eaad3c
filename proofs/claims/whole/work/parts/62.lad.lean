/-! ===== limbs: sums ===== -/
theorem lv_min {g : Nat → Int32} {o l k : Nat} : lv g o (min (k + 1) l) = lv g o (min k l) + (if k < l then (g (o + k)).toInt else 0) * 65536 ^ k := by
  by_cases h : k < l
  · rw [if_pos h, show min (k + 1) l = k + 1 by omega, show min k l = k by omega, lv]
  · rw [if_neg h, show min (k + 1) l = min k l by omega]
    omega
theorem lim_add_l {fu C t a b la lb n : Nat} {σ0 : rr_M} (ht : t < 460) (ha : a < 460) (hb : b < 460) (hn : n < 200) (hla : la ≤ n) (hlb : lb ≤ n) (hm0 : mrf C σ0) (hia : mg_i σ0 (C + 2) a = nI la) (hib : mg_i σ0 (C + 2) b = nI lb) (hda : lok (mg_i σ0 (C + 1)) (200 * a) la) (hdb : lok (mg_i σ0 (C + 1)) (200 * b) lb) {kk : Int32 → rr_M → Option (Unit × rr_M)} {Q : Unit × rr_M → Prop}
    (hk : ∀ (σ : rr_M) (c : Int32), onl C t σ0 σ → mg_i σ (C + 2) = mg_i σ0 (C + 2) → mg_i σ (C + 3) = mg_i σ0 (C + 3) → lok (mg_i σ (C + 1)) (200 * t) n → 0 ≤ c.toInt → c.toInt ≤ 1 → lv (mg_i σ (C + 1)) (200 * t) n + c.toInt * 65536 ^ n = lv (mg_i σ0 (C + 1)) (200 * a) la + lv (mg_i σ0 (C + 1)) (200 * b) lb → wq (kk c σ) Q) :
    ∀ (f k : Nat) (c : Int32) (σ : rr_M), k ≤ n → n + 1 - k ≤ f → onl C t σ0 σ → mg_i σ (C + 2) = mg_i σ0 (C + 2) → mg_i σ (C + 3) = mg_i σ0 (C + 3) → (∀ j, k ≤ j → j < 200 → mg_i σ (C + 1) (200 * a + j) = mg_i σ0 (C + 1) (200 * a + j)) → (∀ j, k ≤ j → j < 200 → mg_i σ (C + 1) (200 * b + j) = mg_i σ0 (C + 1) (200 * b + j)) → lok (mg_i σ (C + 1)) (200 * t) k → 0 ≤ c.toInt → c.toInt ≤ 1 → lv (mg_i σ (C + 1)) (200 * t) k + c.toInt * 65536 ^ k = lv (mg_i σ0 (C + 1)) (200 * a) (min k la) + lv (mg_i σ0 (C + 1)) (200 * b) (min k lb) →
      wq (l_Mod_adds_115 fu (nm C) C (nI t) (nI a) (nI b) (nI n) f c (nI k) σ kk) Q
  | 0, k, c, σ, h1, h2, _, _, _, _, _, _, _, _, _ => by omega
  | f + 1, k, c, σ, h1, h2, ho, q2, q3, qa, qb, hd, hc1, hc2, hv => by
    have hm := mrf_of hm0 ho.1
    rw [l_Mod_adds_115]
    by_cases hkn : k = n
    · subst hkn
      refine wq_ip (nI_le (Nat.le_refl _) (by omega)) (hk σ c ho q2 q3 hd hc1 hc2 ?_)
      rw [hv, Nat.min_eq_right hla, Nat.min_eq_right hlb]
    · have c0 : ¬ nI n ≤ nI k := nI_ge (by omega) (by omega)
      have ma : rr_n (nI a) = a := n_nI (by omega)
      have mb : rr_n (nI b) = b := n_nI (by omega)
      have mt : rr_n (nI (200 * t + k)) = 200 * t + k := n_nI (by omega)
      simp only [rr_lt, rr_jn, mrf_1 hm, mrf_2 hm, ix2 (C := C) ha, ix2 (C := C) hb, ma, mb, if_true, if_neg c0, q2, hia, hib, e200, ix1 (C := C) (show 200 * t + k < 92000 by omega), mt, nI_1]
      -- what follows for the two limbs
      have step : ∀ x y : Int32, x.toInt = (if k < la then (mg_i σ0 (C + 1) (200 * a + k)).toInt else 0) → y.toInt = (if k < lb then (mg_i σ0 (C + 1) (200 * b + k)).toInt else 0) →
          wq (l_Mod_adds_115 fu (nm C) C (nI t) (nI a) (nI b) (nI n) f ((x + y + c) / 65536) (nI (k + 1)) (ms_i σ (C + 1) (200 * t + k) (x + y + c - (x + y + c) / 65536 * 65536)) kk) Q := by
        intro x y hx hy
        have xb : 0 ≤ x.toInt ∧ x.toInt < 65536 := by
          rw [hx]
          split
          · exact hda k (by assumption)
          · omega
        have yb : 0 ≤ y.toInt ∧ y.toInt < 65536 := by
          rw [hy]
          split
          · exact hdb k (by assumption)
          · omega
        have e1 : (x + y).toInt = x.toInt + y.toInt := Jvm.Kit.i32_add (by omega) (by omega)
        have e2 : (x + y + c).toInt = x.toInt + y.toInt + c.toInt := by
          rw [Jvm.Kit.i32_add (by rw [e1]; omega) (by rw [e1]; omega), e1]
        have r1 := iq16 (x := x + y + c) (by omega)
        have r2 := ir16 (x := x + y + c) (by omega)
        rw [e2] at r1 r2
        generalize (x + y + c) / 65536 = q at *
        refine lim_add_l ht ha hb hn hla hlb hm0 hia hib hda hdb hk f (k + 1) _ _ (by omega) (by omega) (onl_tr ho (onl_limb (by omega) (by omega))) (by rw [si_row (by omega)]; exact q2) (by rw [si_row (by omega)]; exact q3) ?_ ?_ ?_ (by omega) (by omega) ?_
        · intro j hj hj2
          rw [si_n (Or.inr (by omega))]
          exact qa j (by omega) hj2
        · intro j hj hj2
          rw [si_n (Or.inr (by omega))]
          exact qb j (by omega) hj2
        · intro j hj
          by_cases hjk : j = k
          · subst hjk; rw [si_s]; omega
          · rw [si_n (Or.inr (by omega))]; exact hd j (by omega)
        · rw [lv, si_s, lv_congr (g' := mg_i σ (C + 1)) (o' := 200 * t) (fun j hj => si_n (Or.inr (by omega))), lv_min, lv_min, ← hx, ← hy, r1, r2, pL_s]
          have := Int.emod_add_mul_ediv (x.toInt + y.toInt + c.toInt) 65536
          generalize (x.toInt + y.toInt + c.toInt) % 65536 = u at *
          generalize (x.toInt + y.toInt + c.toInt) / 65536 = w at *
          generalize (65536 : Int) ^ k = P at *
          grind
      have z0 : (0 : Int32).toInt = 0 := rfl
      by_cases hka : k < la
      · have c1 : ¬ nI la ≤ nI k := nI_ge hka (by omega)
        rw [if_neg c1, lim_at hm (by omega)]
        simp only [Option.bind]
        by_cases hkb : k < lb
        · have c2 : ¬ nI lb ≤ nI k := nI_ge hkb (by omega)
          rw [if_neg c2, lim_at hm (by omega)]
          exact step _ _ (by rw [if_pos hka, qa k (by omega) (by omega)]) (by rw [if_pos hkb, qb k (by omega) (by omega)])
        · have c2 : nI lb ≤ nI k := nI_le (by omega) (by omega)
          rw [if_pos c2]
          exact step _ _ (by rw [if_pos hka, qa k (by omega) (by omega)]) (by rw [if_neg hkb, z0])
      · have c1 : nI la ≤ nI k := nI_le (by omega) (by omega)
        rw [if_pos c1]
        by_cases hkb : k < lb
        · have c2 : ¬ nI lb ≤ nI k := nI_ge hkb (by omega)
          rw [if_neg c2, lim_at hm (by omega)]
          exact step _ _ (by rw [if_neg hka, z0]) (by rw [if_pos hkb, qb k (by omega) (by omega)])
        · have c2 : nI lb ≤ nI k := nI_le (by omega) (by omega)
          rw [if_pos c2]
          exact step _ _ (by rw [if_neg hka, z0]) (by rw [if_neg hkb, z0])
theorem lim_sub_l {fu C t a b la lb : Nat} {σ0 : rr_M} (ht : t < 460) (ha : a < 460) (hb : b < 460) (hla : la ≤ 200) (hlb : lb ≤ la) (hm0 : mrf C σ0) (hda : lok (mg_i σ0 (C + 1)) (200 * a) la) (hdb : lok (mg_i σ0 (C + 1)) (200 * b) lb) {kk : rr_M → Option (Unit × rr_M)} {Q : Unit × rr_M → Prop}
    (hk : ∀ (σ : rr_M) (c : Int), onl C t σ0 σ → mg_i σ (C + 2) = mg_i σ0 (C + 2) → mg_i σ (C + 3) = mg_i σ0 (C + 3) → lok (mg_i σ (C + 1)) (200 * t) la → 0 ≤ c → lv (mg_i σ (C + 1)) (200 * t) la - c * 65536 ^ la = lv (mg_i σ0 (C + 1)) (200 * a) la - lv (mg_i σ0 (C + 1)) (200 * b) lb → wq (kk σ) Q) :
    ∀ (f k : Nat) (c : Int32) (σ : rr_M), k ≤ la → la + 1 - k ≤ f → onl C t σ0 σ → mg_i σ (C + 2) = mg_i σ0 (C + 2) → mg_i σ (C + 3) = mg_i σ0 (C + 3) → (∀ j, k ≤ j → j < 200 → mg_i σ (C + 1) (200 * a + j) = mg_i σ0 (C + 1) (200 * a + j)) → (∀ j, k ≤ j → j < 200 → mg_i σ (C + 1) (200 * b + j) = mg_i σ0 (C + 1) (200 * b + j)) → lok (mg_i σ (C + 1)) (200 * t) k → 0 ≤ c.toInt → c.toInt ≤ 1 → lv (mg_i σ (C + 1)) (200 * t) k - c.toInt * 65536 ^ k = lv (mg_i σ0 (C + 1)) (200 * a) k - lv (mg_i σ0 (C + 1)) (200 * b) (min k lb) →
      wq (l_Mod_adds_318 fu (nm C) C (nI t) (nI a) (nI b) (nI la) (nI lb) f c (nI k) σ kk) Q
  | 0, k, c, σ, h1, h2, _, _, _, _, _, _, _, _, _ => by omega
  | f + 1, k, c, σ, h1, h2, ho, q2, q3, qa, qb, hd, hc1, hc2, hv => by
    have hm := mrf_of hm0 ho.1
    rw [l_Mod_adds_318]
    by_cases hkn : k = la
    · subst hkn
      refine wq_ip (nI_le (Nat.le_refl _) (by omega)) (hk σ c.toInt ho q2 q3 hd hc1 ?_)
      rw [hv, Nat.min_eq_right hlb]
    · have c0 : ¬ nI la ≤ nI k := nI_ge (by omega) (by omega)
      have mt : rr_n (nI (200 * t + k)) = 200 * t + k := n_nI (by omega)
      rw [if_neg c0, lim_at hm (by omega), qa k (by omega) (by omega)]
      simp only [Option.bind, rr_lt, rr_jn, mrf_1 hm, if_true, e200, ix1 (C := C) (show 200 * t + k < 92000 by omega), mt, nI_1]
      have xb := hda k (by omega)
      generalize hx : mg_i σ0 (C + 1) (200 * a + k) = x at *
      have step : ∀ y : Int32, y.toInt = (if k < lb then (mg_i σ0 (C + 1) (200 * b + k)).toInt else 0) →
          wq (if 0 ≤ x - y - c then l_Mod_adds_318 fu (nm C) C (nI t) (nI a) (nI b) (nI la) (nI lb) f 0 (nI (k + 1)) (ms_i σ (C + 1) (200 * t + k) (x - y - c + 0 * 65536)) kk else l_Mod_adds_318 fu (nm C) C (nI t) (nI a) (nI b) (nI la) (nI lb) f 1 (nI (k + 1)) (ms_i σ (C + 1) (200 * t + k) (x - y - c + 1 * 65536)) kk) Q := by
        intro y hy
        have yb : 0 ≤ y.toInt ∧ y.toInt < 65536 := by
          rw [hy]
          split
          · exact hdb k (by assumption)
          · omega
        have e1 : (x - y).toInt = x.toInt - y.toInt := Jvm.Kit.i32_sub (by omega) (by omega)
        have e2 : (x - y - c).toInt = x.toInt - y.toInt - c.toInt := by
          rw [Jvm.Kit.i32_sub (by rw [e1]; omega) (by rw [e1]; omega), e1]
        have go : ∀ (l : Int32) (w : Int32), 0 ≤ l.toInt → l.toInt ≤ 1 → w.toInt = x.toInt - y.toInt - c.toInt + l.toInt * 65536 → 0 ≤ w.toInt → w.toInt < 65536 →
            wq (l_Mod_adds_318 fu (nm C) C (nI t) (nI a) (nI b) (nI la) (nI lb) f l (nI (k + 1)) (ms_i σ (C + 1) (200 * t + k) w) kk) Q := by
          intro l w l1 l2 hw w1 w2
          refine lim_sub_l ht ha hb hla hlb hm0 hda hdb hk f (k + 1) _ _ (by omega) (by omega) (onl_tr ho (onl_limb (by omega) (by omega))) (by rw [si_row (by omega)]; exact q2) (by rw [si_row (by omega)]; exact q3) ?_ ?_ ?_ l1 l2 ?_
          · intro j hj hj2
            rw [si_n (Or.inr (by omega))]
            exact qa j (by omega) hj2
          · intro j hj hj2
            rw [si_n (Or.inr (by omega))]
            exact qb j (by omega) hj2
          · intro j hj
            by_cases hjk : j = k
            · subst hjk; rw [si_s]; exact ⟨w1, w2⟩
            · rw [si_n (Or.inr (by omega))]; exact hd j (by omega)
          · rw [lv, si_s, lv_congr (g' := mg_i σ (C + 1)) (o' := 200 * t) (fun j hj => si_n (Or.inr (by omega))), lv_min, ← hy, lv, hx, hw, pL_s]
            generalize (65536 : Int) ^ k = P at *
            grind
        have z0 : (0 : Int32).toInt = 0 := rfl
        by_cases hs : (0 : Int32) ≤ x - y - c
        · rw [if_pos hs]
          rw [Int32.le_iff_toInt_le, z0, e2] at hs
          have e3 : x - y - c + 0 * 65536 = x - y - c := by rw [show (0 : Int32) * 65536 = 0 from rfl, Int32.add_zero]
          rw [e3]
          exact go 0 _ (by decide) (by decide) (by rw [e2, z0]; omega) (by omega) (by omega)
        · rw [if_neg hs]
          rw [Int32.le_iff_toInt_le, z0, e2] at hs
          have e3 : ((1 : Int32) * 65536).toInt = 65536 := rfl
          have e4 : (x - y - c + 1 * 65536).toInt = x.toInt - y.toInt - c.toInt + 65536 := by
            rw [Jvm.Kit.i32_add (by rw [e2, e3]; omega) (by rw [e2, e3]; omega), e2, e3]
          exact go 1 _ (by decide) (by decide) (by rw [e4, show (1 : Int32).toInt = 1 from rfl]; omega) (by omega) (by omega)
      by_cases hkb : k < lb
      · have c2 : ¬ nI lb ≤ nI k := nI_ge hkb (by omega)
        rw [if_neg c2, lim_at hm (by omega)]
        exact step _ (by rw [if_pos hkb, qb k (by omega) (by omega)])
      · have c2 : nI lb ≤ nI k := nI_le (by omega) (by omega)
        rw [if_pos c2]
        exact step _ (by rw [if_neg hkb]; rfl)
theorem lm_resign {C t : Nat} {σ : rr_M} {y e : Int} {v : Int32} (h : lm C σ t y) (hy : y ≠ 0) (he : e = 1 ∨ e = -1) (hv : v.toInt = e * y.sign) : lm C (ms_i σ (C + 3) t v) t (e * y) := by
  obtain ⟨n, z1, z2, z3, z4, z5, z6⟩ := h
  refine ⟨n, z1, by rw [si_row (by omega)]; exact z2, by rw [si_row (by omega)]; exact z3, by rw [si_row (by omega)]; exact z4, ?_, ?_⟩
  · rw [si_row (by omega), z5]
    rcases he with h | h <;> rw [h] <;> omega
  · rw [si_s, hv]
    rcases he with h | h
    · rw [h, Int.one_mul, Int.one_mul]
    · rw [h, ← Int.neg_eq_neg_one_mul, ← Int.neg_eq_neg_one_mul, Int.sign_neg]
theorem sign_cases (z : Int) : (z.sign = 1 ∧ 0 < z) ∨ (z.sign = -1 ∧ z < 0) ∨ (z.sign = 0 ∧ z = 0) := by
  rcases Int.lt_trichotomy z 0 with h | h | h
  · exact Or.inr (Or.inl ⟨Int.sign_eq_neg_one_of_neg h, h⟩)
  · exact Or.inr (Or.inr ⟨by rw [h]; rfl, h⟩)
  · exact Or.inl ⟨Int.sign_eq_one_of_pos h, h⟩
