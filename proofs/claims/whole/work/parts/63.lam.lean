/-! ===== limbs: sums and products, whole ===== -/
def szn (m : Nat) (z : Int) : Prop := (z.natAbs : Int) < 65536 ^ m
theorem szn_mono {m n : Nat} {z : Int} (h : szn m z) (hmn : m ≤ n) : szn n z := by
  have := pw_mono (b := 65536) (by decide) hmn
  unfold szn at *
  omega
theorem lmn_sz {C : Nat} {σ : rr_M} {s n m : Nat} {z : Int} (h : lmn C σ s z n) (hz : szn m z) : n ≤ m := lmn_len h hz
theorem lo_adds {fu C t a b : Nat} {σ : rr_M} {x y e : Int} {by_ : Int32} (hfu : 400 < fu) (hm : mrf C σ) (ht : t < 460) (ha : a < 460) (hb : b < 460) (hx : lm C σ a x) (hy : lm C σ b y) (he : e = 1 ∨ e = -1) (hby : by_.toInt = e) (sx : szn 199 x) (sy : szn 199 y) :
    wq (f_Mod_adds fu (nm C) C (nI t) (nI a) (nI b) by_ σ) (fun r => lm C r.2 t (x + e * y) ∧ onl C t σ r.2) := by
  have hx0 := hx
  have hy0 := hy
  obtain ⟨na, xa⟩ := hx
  obtain ⟨nb, yb⟩ := hy
  have la := lmn_sz xa sx
  have lb := lmn_sz yb sy
  have zx := lmn_zero xa
  have zy := lmn_zero yb
  obtain ⟨x1, x2, x3, x4, x5, x6⟩ := xa
  obtain ⟨y1, y2, y3, y4, y5, y6⟩ := yb
  have ma : rr_n (nI a) = a := n_nI (by omega)
  have mb : rr_n (nI b) = b := n_nI (by omega)
  have mt : rr_n (nI t) = t := n_nI (by omega)
  have z0 : (0 : Int32).toInt = 0 := rfl
  have z1 : (1 : Int32).toInt = 1 := rfl
  have sgb : (by_ * mg_i σ (C + 3) b).toInt = e * y.sign := by
    have hs : y.sign = 1 ∨ y.sign = -1 ∨ y.sign = 0 := by rcases sign_cases y with h | h | h <;> omega
    rw [Jvm.Kit.i32_mul (by rw [hby, y6]; rcases he with h | h <;> rw [h] <;> omega) (by rw [hby, y6]; rcases he with h | h <;> rw [h] <;> omega), hby, y6]
  unfold f_Mod_adds
  dsimp only [rr_lt, rr_jn]
  simp only [mrf_3 hm, mrf_2 hm, ix3 (C := C) ha, ix3 (C := C) hb, ix2 (C := C) ha, ix2 (C := C) hb, ma, mb, mt, if_true, x2, y2]
  generalize hS : by_ * mg_i σ (C + 3) b = S at *
  -- b is 0
  by_cases hy00 : y = 0
  · have c1 : S = 0 := i_inj (by rw [sgb, hy00, z0]; simp)
    rw [if_pos c1, if_pos c1, if_neg (show ¬ (1 : Int32) = 0 by decide)]
    refine wq_bd (wq_mo (lo_copies hfu hm ha ht hx0) ?_)
    rintro r ⟨r1, r2⟩
    rw [if_neg (show ¬ (1 : Int32) = 0 by decide)]
    refine wq_some ⟨?_, r2⟩
    rw [hy00, Int.mul_zero, Int.add_zero]
    exact r1
  · have hS0 : S.toInt = 1 ∨ S.toInt = -1 := by
      rw [sgb]
      rcases sign_cases y with h | h | h <;> rcases he with h2 | h2 <;> rw [h.1, h2] <;> omega
    have c1 : ¬ S = 0 := fun h => by rw [h, z0] at hS0; omega
    rw [if_neg c1]
    by_cases hx00 : x = 0
    · have c2 : mg_i σ (C + 3) a = 0 := i_inj (by rw [x6, hx00, z0]; rfl)
      rw [if_pos c2, if_neg c1]
      refine wq_bd (wq_mo (lo_copies hfu hm hb ht hy0) ?_)
      rintro r ⟨r1, r2⟩
      have hm1 := mrf_of hm r2.1
      simp only [mrf_3 hm1]
      refine wq_ip (ix3 ht) (wq_some ⟨?_, onl_tr r2 onl_sign⟩)
      rw [hx00, Int.zero_add]
      exact lm_resign r1 hy00 he sgb
    · have hX0 : (mg_i σ (C + 3) a).toInt = 1 ∨ (mg_i σ (C + 3) a).toInt = -1 := by
        rw [x6]
        rcases sign_cases x with h | h | h <;> omega
      have c2 : ¬ mg_i σ (C + 3) a = 0 := fun h => by rw [h, z0] at hX0; omega
      rw [if_neg c2]
      by_cases hsame : mg_i σ (C + 3) a = S
      · -- the same sign
        rw [if_pos hsame]
        have hval : x + e * y = S.toInt * ((x.natAbs : Int) + y.natAbs) := by
          have h1 : x.sign = e * y.sign := by rw [← x6, ← sgb, hsame]
          have h2 := sign_cases x
          have h3 := sign_cases y
          rw [sgb]
          rcases he with h | h <;> rw [h] at h1 ⊢ <;> rcases h3 with h3 | h3 | h3 <;> rw [h3.1] at h1 ⊢ <;> omega
        have key : ∀ n, n < 200 → na ≤ n → nb ≤ n → wq (l_Mod_adds_115 fu (nm C) C (nI t) (nI a) (nI b) (nI n) fu 0 0 σ fun v7_69 σ_70 =>
            if rr_ix (200 * nI t + nI n) (nm C (mg_r σ_70 C 1)) = true then
              if rr_ix (nI t) (nm C (mg_r (ms_i σ_70 (mg_r σ_70 C 1) (rr_n (200 * nI t + nI n)) v7_69) C 3)) = true then
                rr_bd (f_Mod_trims fu (nm C) C (nI t) (nI n + 1) (ms_i (ms_i σ_70 (mg_r σ_70 C 1) (rr_n (200 * nI t + nI n)) v7_69) (mg_r (ms_i σ_70 (mg_r σ_70 C 1) (rr_n (200 * nI t + nI n)) v7_69) C 3) t S)) fun _ σ_75 => some ((), σ_75)
              else none
            else none) (fun r => lm C r.2 t (x + e * y) ∧ onl C t σ r.2) := by
          intro n hn hna hnb
          refine lim_add_l (n := n) ht ha hb hn hna hnb hm x2 y2 x3 y3 ?_ fu 0 0 σ (by omega) (by omega) (onl_rfl _ _ _) rfl rfl (fun _ _ _ => rfl) (fun _ _ _ => rfl) (fun j hj => absurd hj (by omega)) (by decide) (by decide) (by simp [lv])
          intro σ1 c o1 o2 o3 od oc1 oc2 ov
          have hm1 := mrf_of hm o1.1
          have mtn : rr_n (nI (200 * t + n)) = 200 * t + n := n_nI (by omega)
          simp only [mrf_1 hm1, e200, ix1 (C := C) (show 200 * t + n < 92000 by omega), if_true, mtn, si_r, mrf_3 hm1, ix3 (C := C) ht, nI_1]
          have hon : onl C t σ (ms_i (ms_i σ1 (C + 1) (200 * t + n) c) (C + 3) t S) := onl_tr o1 (onl_tr (onl_limb (by omega) (by omega)) onl_sign)
          refine wq_bd (wq_mo (lo_trims (A := (x.natAbs : Int) + y.natAbs) (sg := S.toInt) hfu (mrf_of hm hon.1) ht (show n + 1 ≤ 200 by omega) ?_ ?_ ?_ (by omega)) ?_)
          · intro j hj
            rw [si_row (by omega)]
            by_cases hjn : j = n
            · subst hjn; rw [si_s]; omega
            · rw [si_n (Or.inr (by omega))]; exact od j (by omega)
          · rw [si_row (by omega), lv, si_s, lv_congr (g' := mg_i σ1 (C + 1)) (o' := 200 * t) (fun j hj => si_n (Or.inr (by omega))), ov, x5, y5]
          · rw [si_s]
          · rintro r ⟨r1, r2⟩
            refine wq_some ⟨?_, onl_tr hon r2⟩
            rw [hval]
            exact r1
        by_cases hc : na ≤ nb
        · rw [if_pos (nI_le hc (by omega))]
          exact key nb (by omega) hc (Nat.le_refl _)
        · rw [if_neg (nI_ge (by omega) (by omega))]
          exact key na (by omega) (Nat.le_refl _) (by omega)
      · -- different signs
        rw [if_neg hsame, lo_against hfu hm ha hb hx0 hy0]
        simp only [Option.bind]
        have hsg : (mg_i σ (C + 3) a).toInt = - S.toInt := by
          have : (mg_i σ (C + 3) a).toInt ≠ S.toInt := fun h => hsame (i_inj h)
          omega
        have hval : x + e * y = (mg_i σ (C + 3) a).toInt * ((x.natAbs : Int) - y.natAbs) := by
          have h1 : x.sign = -(e * y.sign) := by rw [← x6, ← sgb, hsg]
          have h2 := sign_cases x
          have h3 := sign_cases y
          rw [x6]
          rcases he with h | h <;> rw [h] at h1 ⊢ <;> rcases h3 with h3 | h3 | h3 <;> rw [h3.1] at h1 <;> rcases h2 with h2 | h2 | h2 <;> rw [h2.1] at h1 ⊢ <;> omega
        have key : ∀ (p q np nq : Nat) (X Y : Int) (g : Int32), p < 460 → q < 460 → np ≤ 199 → nq ≤ np → mg_i σ (C + 2) p = nI np → mg_i σ (C + 2) q = nI nq → lok (mg_i σ (C + 1)) (200 * p) np → lok (mg_i σ (C + 1)) (200 * q) nq → lv (mg_i σ (C + 1)) (200 * p) np = X → lv (mg_i σ (C + 1)) (200 * q) nq = Y → Y ≤ X → (g.toInt = 1 ∨ g.toInt = -1) → x + e * y = g.toInt * (X - Y) →
            wq (l_Mod_adds_318 fu (nm C) C (nI t) (nI p) (nI q) (nI np) (nI nq) fu 0 0 σ (fun σ_40 =>
                if rr_ix (nI t) (nm C (mg_r σ_40 C 3)) = true then rr_bd (f_Mod_trims fu (nm C) C (nI t) (nI np) (ms_i σ_40 (mg_r σ_40 C 3) t g)) fun _ σ_43 => some ((), σ_43) else none)) (fun r => lm C r.2 t (x + e * y) ∧ onl C t σ r.2) := by
          intro p q np nq X Y g hp hq hnp hnq ip iq dp dq vp vq hXY hg hv
          refine lim_sub_l ht hp hq (by omega) hnq hm dp dq ?_ fu 0 0 σ (by omega) (by omega) (onl_rfl _ _ _) rfl rfl (fun _ _ _ => rfl) (fun _ _ _ => rfl) (fun j hj => absurd hj (by omega)) (by decide) (by decide) (by simp [lv])
          intro σ1 c o1 o2 o3 od oc ov
          have hm1 := mrf_of hm o1.1
          simp only [mrf_3 hm1, ix3 (C := C) ht, if_true]
          have hon : onl C t σ (ms_i σ1 (C + 3) t g) := onl_tr o1 onl_sign
          rw [vp, vq] at ov
          have hlt := lok_lt od
          have hlx := lok_lt dp
          have hly := lok_lt dq
          rw [vp] at hlx
          rw [vq] at hly
          have hP := pL_pos np
          have hc0 : c = 0 := by
            rcases Int.lt_or_eq_of_le oc with h | h
            · exfalso
              have := Int.mul_le_mul_of_nonneg_right (show 1 ≤ c by omega) (Int.le_of_lt hP)
              omega
            · exact h.symm
          subst hc0
          refine wq_bd (wq_mo (lo_trims (A := X - Y) (sg := g.toInt) hfu (mrf_of hm hon.1) ht (show np ≤ 200 by omega) ?_ ?_ ?_ (by omega)) ?_)
          · rw [si_row (by omega)]; exact od
          · rw [si_row (by omega)]; omega
          · rw [si_s]
          · rintro r ⟨r1, r2⟩
            refine wq_some ⟨?_, onl_tr hon r2⟩
            rw [hv]
            exact r1
        by_cases hc : x.natAbs < y.natAbs
        · rw [if_pos hc, if_pos (show (-1 : Int32) < 0 by decide)]
          have hlen : na ≤ nb := by
            apply Nat.le_of_not_lt
            intro h
            have h1 := lmn_ge (C := C) (σ := σ) (s := a) ⟨x1, x2, x3, x4, x5, x6⟩ (by omega)
            have h2 := lmn_lt (C := C) (σ := σ) (s := b) ⟨y1, y2, y3, y4, y5, y6⟩
            have h3 : (65536 : Int) ^ nb ≤ 65536 ^ (na - 1) := pw_mono (by decide) (by omega)
            omega
          refine key b a nb na _ _ S hb ha lb hlen y2 x2 y3 x3 y5 x5 (by omega) hS0 ?_
          rw [hval, hsg]
          grind
        · rw [if_neg hc]
          have hr : ¬ ((if y.natAbs < x.natAbs then (1 : Int32) else 0) < 0) := by split <;> decide
          rw [if_neg hr]
          simp only [if_neg (show ¬ (1 : Int32) = 0 by decide)]
          have hlen : nb ≤ na := by
            apply Nat.le_of_not_lt
            intro h
            have h1 := lmn_ge (C := C) (σ := σ) (s := b) ⟨y1, y2, y3, y4, y5, y6⟩ (by omega)
            have h2 := lmn_lt (C := C) (σ := σ) (s := a) ⟨x1, x2, x3, x4, x5, x6⟩
            have h3 : (65536 : Int) ^ na ≤ 65536 ^ (nb - 1) := pw_mono (by decide) (by omega)
            omega
          exact key a b na nb _ _ (mg_i σ (C + 3) a) ha hb la hlen x2 y2 x3 y3 x5 y5 (by omega) hX0 hval
-- products
theorem lv_upd {σ : rr_M} {a o k : Nat} {v : Int32} : ∀ {n : Nat}, k < n → lv (mg_i (ms_i σ a (o + k) v) a) o n = lv (mg_i σ a) o n + (v.toInt - (mg_i σ a (o + k)).toInt) * 65536 ^ k
  | 0, h => by omega
  | n + 1, h => by
    rw [lv, lv]
    by_cases hk : k = n
    · subst hk
      rw [si_s, lv_congr (g' := mg_i σ a) (o' := o) (fun j hj => si_n (Or.inr (by omega))), Int.sub_mul]
      omega
    · rw [si_n (Or.inr (by omega)), lv_upd (by omega)]
      omega
theorem lim_mul_i {fu C t a b i la lb n : Nat} {σ0 : rr_M} (ht : t < 460) (hb : b < 460) (hbt : b ≠ t) (hn : n ≤ 200) (hil : i + lb < n) (hm0 : mrf C σ0) (hib : mg_i σ0 (C + 2) b = nI lb) (hdb : lok (mg_i σ0 (C + 1)) (200 * b) lb) (hdt : lok (mg_i σ0 (C + 1)) (200 * t) n) {V : Int64} (hV1 : 0 ≤ V.toInt) (hV2 : V.toInt < 65536) {kk : Int64 → rr_M → Option (Unit × rr_M)} {Q : Unit × rr_M → Prop}
    (hk : ∀ (σ : rr_M) (c : Int64), onl C t σ0 σ → mg_i σ (C + 2) = mg_i σ0 (C + 2) → mg_i σ (C + 3) = mg_i σ0 (C + 3) → lok (mg_i σ (C + 1)) (200 * t) n → (∀ q, i + lb ≤ q → mg_i σ (C + 1) (200 * t + q) = mg_i σ0 (C + 1) (200 * t + q)) → 0 ≤ c.toInt → c.toInt < 65536 → lv (mg_i σ (C + 1)) (200 * t) n + c.toInt * 65536 ^ (i + lb) = lv (mg_i σ0 (C + 1)) (200 * t) n + V.toInt * lv (mg_i σ0 (C + 1)) (200 * b) lb * 65536 ^ i → wq (kk c σ) Q) :
    ∀ (f j : Nat) (c : Int64) (σ : rr_M), j ≤ lb → lb + 1 - j ≤ f → onl C t σ0 σ → mg_i σ (C + 2) = mg_i σ0 (C + 2) → mg_i σ (C + 3) = mg_i σ0 (C + 3) → lok (mg_i σ (C + 1)) (200 * t) n → (∀ q, i + j ≤ q → mg_i σ (C + 1) (200 * t + q) = mg_i σ0 (C + 1) (200 * t + q)) → 0 ≤ c.toInt → c.toInt < 65536 → lv (mg_i σ (C + 1)) (200 * t) n + c.toInt * 65536 ^ (i + j) = lv (mg_i σ0 (C + 1)) (200 * t) n + V.toInt * lv (mg_i σ0 (C + 1)) (200 * b) j * 65536 ^ i →
      wq (l_Mod_multiplies_75 fu (nm C) C (nI t) (nI b) (nI i) V f c (nI j) σ kk) Q
  | 0, j, c, σ, h1, h2, _, _, _, _, _, _, _, _ => by omega
  | f + 1, j, c, σ, h1, h2, ho, q2, q3, hd, hq, hc1, hc2, hv => by
    have hm := mrf_of hm0 ho.1
    have mb : rr_n (nI b) = b := n_nI (by omega)
    rw [l_Mod_multiplies_75]
    simp only [rr_lt, mrf_2 hm, ix2 (C := C) hb, mb, if_true, q2, hib]
    by_cases hjl : j = lb
    · subst hjl
      exact wq_ip (nI_le (Nat.le_refl _) (by omega)) (hk σ c ho q2 q3 hd hq hc1 hc2 hv)
    · have c0 : ¬ nI lb ≤ nI j := nI_ge (by omega) (by omega)
      have rb : mg_i σ (C + 1) (200 * b + j) = mg_i σ0 (C + 1) (200 * b + j) := ho.2.2.2.1 _ (by omega)
      have rt : mg_i σ (C + 1) (200 * t + (i + j)) = mg_i σ0 (C + 1) (200 * t + (i + j)) := hq _ (Nat.le_refl _)
      have e9 : (200 * nI t) + nI i + nI j = nI (200 * t + (i + j)) := by rw [e200, nI_add, Nat.add_assoc]
      have mt : rr_n (nI (200 * t + (i + j))) = 200 * t + (i + j) := n_nI (by omega)
      rw [if_neg c0, lim_at hm (by omega), nI_add, lim_at hm (by omega), e9]
      simp only [Option.bind, mrf_1 hm, ix1 (C := C) (show 200 * t + (i + j) < 92000 by omega), if_true, mt, nI_1, rb, rt]
      have xb := hdb j (by omega)
      have xt := hdt (i + j) (by omega)
      generalize hx : mg_i σ0 (C + 1) (200 * b + j) = x at *
      generalize hy : mg_i σ0 (C + 1) (200 * t + (i + j)) = y at *
      have w1 : x.toInt64.toInt = x.toInt := Jvm.Kit.i64_of_i32 x
      have w2 : y.toInt64.toInt = y.toInt := Jvm.Kit.i64_of_i32 y
      have hxy : 0 ≤ V.toInt * x.toInt ∧ V.toInt * x.toInt ≤ 65535 * 65535 := by
        refine ⟨Int.mul_nonneg hV1 xb.1, ?_⟩
        exact Int.mul_le_mul (by omega) (by omega) xb.1 (by omega)
      have e1 : (V * x.toInt64).toInt = V.toInt * x.toInt := by rw [j_mul (by rw [w1]; omega) (by rw [w1]; omega), w1]
      have e2 : (V * x.toInt64 + y.toInt64).toInt = V.toInt * x.toInt + y.toInt := by rw [j_add (by rw [e1, w2]; omega) (by rw [e1, w2]; omega), e1, w2]
      have e3 : (V * x.toInt64 + y.toInt64 + c).toInt = V.toInt * x.toInt + y.toInt + c.toInt := by rw [j_add (by rw [e2]; omega) (by rw [e2]; omega), e2]
      generalize hS : V * x.toInt64 + y.toInt64 + c = S at *
      have r1 := jq16 (x := S) (by omega)
      have r2 := jr16' (x := S) (by omega)
      generalize (S - S / 65536 * 65536).toInt32 = w at *
      generalize S / 65536 = q at *
      refine lim_mul_i (a := a) (la := la) ht hb hbt hn hil hm0 hib hdb hdt hV1 hV2 hk f (j + 1) _ _ (by omega) (by omega) (onl_tr ho (onl_limb (by omega) (by omega))) (by rw [si_row (by omega)]; exact q2) (by rw [si_row (by omega)]; exact q3) ?_ ?_ (by omega) (by omega) ?_
      · intro k hk2
        by_cases hkk : k = i + j
        · subst hkk; rw [si_s]; omega
        · rw [si_n (Or.inr (by omega))]; exact hd k hk2
      · intro k hk2
        rw [si_n (Or.inr (by omega))]
        exact hq k (by omega)
      · rw [lv_upd (by omega), r1, r2, rt, show i + (j + 1) = i + j + 1 by omega, pL_s, lv, hx]
        have h4 : (65536 : Int) ^ (i + j) = 65536 ^ i * 65536 ^ j := Int.pow_add _ _ _
        have := Int.emod_add_mul_ediv S.toInt 65536
        generalize S.toInt % 65536 = r at *
        generalize S.toInt / 65536 = u at *
        rw [h4] at hv ⊢
        generalize (65536 : Int) ^ i = P at *
        generalize (65536 : Int) ^ j = P' at *
        grind
