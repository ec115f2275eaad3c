/-! ===== sums and products of large numbers ===== -/
theorem dv_zero {g : Nat → Int64} : ∀ {n : Nat}, (∀ k, k < n → (g k).toInt = 0) → dv g n = 0
  | 0, _ => rfl
  | n + 1, h => by
    rw [dv, dv_zero (fun k hk => h k (by omega)), h n (by omega)]
    omega
theorem dv_ext {g : Nat → Int64} {n : Nat} : ∀ {m : Nat}, n ≤ m → (∀ k, n ≤ k → k < m → (g k).toInt = 0) → dv g m = dv g n
  | 0, h, _ => by
    have : n = 0 := by omega
    rw [this]
  | m + 1, h, h0 => by
    rcases Nat.lt_or_ge m n with h1 | h1
    · have : n = m + 1 := by omega
      rw [this]
    · rw [dv, dv_ext h1 (fun k hk hk2 => h0 k hk (by omega)), h0 m h1 (by omega)]
      omega
/-- zeros from k to n -/
def zf (g : Nat → Int64) (k n : Nat) : Nat → Int64 := fun j => if k ≤ j ∧ j < n then 0 else g j
theorem big_zero_a {fu : Nat} {N : Nat → Nat} {a : Nat} {σ : rr_M} {Q : Unit × rr_M → Prop} {kk : rr_M → Option (Unit × rr_M)} {n k0 : Nat} {g0 : Nat → Int64} (hr : mg_r σ a 0 = a + 1) (hN : N (a + 1) < 2147483648) (hn : n ≤ N (a + 1))
    (hk : ∀ g, (∀ j, g j = zf g0 k0 n j) → wq (kk (mw_l σ (a + 1) g)) Q) :
    ∀ (f k : Nat) (g : Nat → Int64), k0 ≤ k → k ≤ N (a + 1) → n + 1 - k ≤ f → 0 < f → (∀ j, g j = if k0 ≤ j ∧ j < k ∧ j < n then 0 else g0 j) → wq (l_Big_addTimes_53 fu N a (nI n) f (nI k) (mw_l σ (a + 1) g) kk) Q
  | 0, k, g, h1, h2, h3, h3', h4 => by omega
  | f + 1, k, g, h1, h2, h3, h3', h4 => by
    rw [l_Big_addTimes_53]
    by_cases hkn : n ≤ k
    · refine wq_ip (nI_le hkn (by omega)) (hk g (fun j => ?_))
      rw [h4, zf]
      by_cases hj : k0 ≤ j ∧ j < n
      · rw [if_pos hj, if_pos ⟨hj.1, by omega, hj.2⟩]
      · rw [if_neg hj, if_neg (fun hc => hj ⟨hc.1, hc.2.2⟩)]
    · have c1 : ¬ nI n ≤ nI k := nI_ge (by omega) (by omega)
      have i1 : rr_ix (nI k) (N (a + 1)) = true := ix_nI (by omega) (by omega)
      have m1 : rr_n (nI k) = k := n_nI (by omega)
      simp only [rr_lt, mw_r, hr, i1, m1, if_true, if_neg c1, mw_ms, nI_1]
      refine big_zero_a hr hN hn hk f (k + 1) _ (by omega) (by omega) (by omega) (by omega) (fun j => ?_)
      by_cases hj : j = k
      · subst hj
        rw [upL_s, if_pos ⟨h1, by omega, by omega⟩]
      · rw [upL_n hj, h4]
        by_cases hj2 : k0 ≤ j ∧ j < k ∧ j < n
        · rw [if_pos hj2, if_pos ⟨hj2.1, by omega, hj2.2.2⟩]
        · rw [if_neg hj2, if_neg (by omega)]
/-- what the lowest k digits of b, moved up, come to -/
def upv (g : Nat → Int64) (u l k : Nat) : Int := dv g (min (k - u) l) * 1073741824 ^ u
theorem upv_in {g : Nat → Int64} {u l k : Nat} (h1 : u ≤ k) (h2 : k < l + u) : upv g u l (k + 1) = upv g u l k + (g (k - u)).toInt * 1073741824 ^ k := by
  unfold upv
  have e1 : min (k + 1 - u) l = (k - u) + 1 := by omega
  have e2 : min (k - u) l = k - u := by omega
  rw [e1, e2, dv, Int.add_mul, Int.mul_assoc, ← Int.pow_add, Nat.sub_add_cancel h1]
theorem upv_out {g : Nat → Int64} {u l k : Nat} (h : k < u ∨ l + u ≤ k) : upv g u l (k + 1) = upv g u l k := by
  unfold upv
  have e1 : min (k + 1 - u) l = min (k - u) l := by omega
  rw [e1]
theorem big_add_l {fu : Nat} {N : Nat → Nat} {a b : Nat} {σ : rr_M} {Q : Unit × rr_M → Prop} {kk : rr_M → Option (Unit × rr_M)} {n u l : Nat} {g0 gb : Nat → Int64} {F : Int64} (hr : mg_r σ a 0 = a + 1) (hN : N (a + 1) < 2147483648) (hrb : mg_r σ b 0 = b + 1) (hNb : N (b + 1) < 2147483648) (hn : n + 2 ≤ N (a + 1)) (hl : l + u ≤ n) (hlb : l ≤ N (b + 1))
    (hsame : b = a → u = 0 ∧ ∀ j, j < l → gb j = g0 j) (hoth : b ≠ a → b + 1 ≠ a + 1 ∧ mg_l σ (b + 1) = gb)
    (hF1 : -1073741824 ≤ F.toInt) (hF2 : F.toInt ≤ 1073741824) (hg1 : ∀ j, j < n → -1073741824 ≤ (g0 j).toInt ∧ (g0 j).toInt ≤ 1073741824) (hg0 : ∀ j, n ≤ j → j < n + 2 → g0 j = 0) (hb1 : ∀ j, j < l → -1073741824 ≤ (gb j).toInt ∧ (gb j).toInt ≤ 1073741824)
    (hk : ∀ (g' : Nat → Int64), dl g' (n + 1) → -4 ≤ (g' (n + 1)).toInt → (g' (n + 1)).toInt ≤ 4 → dv g' (n + 2) = dv g0 (n + 2) + F.toInt * upv gb u l (n + 2) → wq (kk (mw_l σ (a + 1) g')) Q) :
    ∀ (f k : Nat) (g : Nat → Int64) (c : Int64), k ≤ n + 2 → n + 3 - k ≤ f → dl g (min k (n + 1)) → (∀ j, k ≤ j → g j = g0 j) → (k ≤ n → -1073741830 ≤ c.toInt ∧ c.toInt ≤ 1073741830) → (n < k → -4 ≤ c.toInt ∧ c.toInt ≤ 4) → (k = n + 2 → (-4 ≤ (g (n + 1)).toInt ∧ (g (n + 1)).toInt ≤ 4) ∧ dv g k = dv g0 k + F.toInt * upv gb u l k) → (k ≤ n + 1 → dv g k + c.toInt * 1073741824 ^ k = dv g0 k + F.toInt * upv gb u l k) →
      wq (l_Big_addTimes_80 fu N a b F (nI u) (nI (n + 2)) (nI (l + u)) f c (nI k) (mw_l σ (a + 1) g) kk) Q
  | 0, k, g, c, h1, h2, _, _, _, _, _, _ => by omega
  | f + 1, k, g, c, h1, h2, hd, hg, hc, hc', ht, hv => by
    rw [l_Big_addTimes_80]
    by_cases hkn : k = n + 2
    · subst hkn
      refine wq_ip (nI_le (Nat.le_refl _) (by omega)) (hk g ?_ (ht rfl).1.1 (ht rfl).1.2 (ht rfl).2)
      rw [show n + 1 = min (n + 2) (n + 1) by omega]
      exact hd
    · have c1 : ¬ nI (n + 2) ≤ nI k := nI_ge (by omega) (by omega)
      have i1 : rr_ix (nI k) (N (a + 1)) = true := ix_nI (by omega) (by omega)
      have m1 : rr_n (nI k) = k := n_nI (by omega)
      have e5 : nI (n + 2) - 1 = nI (n + 1) := nI_pred (n + 1)
      have hgk : g k = g0 k := hg k (Nat.le_refl _)
      have hgb : -1073741824 ≤ (g0 k).toInt ∧ (g0 k).toInt ≤ 1073741824 := by
        rcases Nat.lt_or_ge k n with h | h
        · exact hg1 k h
        · rw [hg0 k h (by omega)]; decide
      have hcb : -1073741830 ≤ c.toInt ∧ c.toInt ≤ 1073741830 := by
        rcases Nat.lt_or_ge n k with h | h
        · have := hc' h; omega
        · exact hc h
      simp only [rr_lt, rr_jn, mw_r, hr, i1, m1, mw_gsk, if_true, if_neg c1, mw_ms, nI_1, e5]
      -- what happens behind the sum s
      have step : ∀ s : Int64, s.toInt = (g0 k).toInt + c.toInt + (if u ≤ k ∧ k < l + u then F.toInt * (gb (k - u)).toInt else 0) →
          wq (if nI (n + 1) ≤ nI k then l_Big_addTimes_80 fu N a b F (nI u) (nI (n + 2)) (nI (l + u)) f (s >>> ((30 : Int32).toInt64 &&& 63)) (nI (k + 1)) (mw_l σ (a + 1) (vp_updL g k s)) kk else
            l_Big_addTimes_80 fu N a b F (nI u) (nI (n + 2)) (nI (l + u)) f (s >>> ((30 : Int32).toInt64 &&& 63)) (nI (k + 1)) (mw_l σ (a + 1) (vp_updL g k (s &&& 1073741823))) kk) Q := by
        intro s hs
        have hS : dv g0 (k + 1) + F.toInt * upv gb u l (k + 1) = dv g0 k + F.toInt * upv gb u l k + (s.toInt - c.toInt) * 1073741824 ^ k := by
          rw [dv, hs]
          by_cases hin : u ≤ k ∧ k < l + u
          · rw [if_pos hin, upv_in hin.1 hin.2]
            generalize (1073741824 : Int) ^ k = P
            grind
          · rw [if_neg hin, upv_out (by omega)]
            generalize (1073741824 : Int) ^ k = P
            grind
        by_cases hlast : k = n + 1
        · have c2 : nI (n + 1) ≤ nI k := nI_le (by omega) (by omega)
          rw [if_pos c2]
          have hs2 : s.toInt = c.toInt := by
            rw [hs, hg0 k (by omega) (by omega), if_neg (by omega)]
            have : (0 : Int64).toInt = 0 := rfl
            omega
          have hc2 := hc' (by omega)
          refine big_add_l hr hN hrb hNb hn hl hlb hsame hoth hF1 hF2 hg1 hg0 hb1 hk f (k + 1) _ _ (by omega) (by omega) ?_ ?_ ?_ ?_ ?_ ?_
          · intro j hj
            rw [upL_n (by omega)]
            exact hd j (by omega)
          · intro j hj
            rw [upL_n (by omega)]
            exact hg j (by omega)
          · intro h; omega
          · intro h
            rw [js30, hs2]; omega
          · intro h
            refine ⟨?_, ?_⟩
            · rw [← hlast, upL_s, hs2]; omega
            · rw [hS, dv, upL_s, dv_up_hi (Nat.le_refl _), hs2, ← hv (by omega)]
              generalize (1073741824 : Int) ^ k = P
              grind
          · intro h; omega
        · have c2 : ¬ nI (n + 1) ≤ nI k := nI_ge (by omega) (by omega)
          rw [if_neg c2]
          have hsb : -1152921507830000000 ≤ s.toInt ∧ s.toInt ≤ 1152921507830000000 := by
            rw [hs]
            by_cases hin : u ≤ k ∧ k < l + u
            · rw [if_pos hin]
              have hb2 := hb1 (k - u) (by omega)
              generalize (gb (k - u)).toInt = y at *
              generalize F.toInt = x at *
              have : -1152921504606846976 ≤ x * y ∧ x * y ≤ 1152921504606846976 := by
                have a1 := Int.mul_nonneg (show 0 ≤ 1073741824 - x by omega) (show 0 ≤ 1073741824 - y by omega)
                have a2 := Int.mul_nonneg (show 0 ≤ 1073741824 + x by omega) (show 0 ≤ 1073741824 + y by omega)
                have a3 := Int.mul_nonneg (show 0 ≤ 1073741824 - x by omega) (show 0 ≤ 1073741824 + y by omega)
                have a4 := Int.mul_nonneg (show 0 ≤ 1073741824 + x by omega) (show 0 ≤ 1073741824 - y by omega)
                constructor <;> grind
              omega
            · rw [if_neg hin]
              omega
          refine big_add_l hr hN hrb hNb hn hl hlb hsame hoth hF1 hF2 hg1 hg0 hb1 hk f (k + 1) _ _ (by omega) (by omega) ?_ ?_ ?_ ?_ ?_ ?_
          · intro j hj
            by_cases hjk : j = k
            · subst hjk; rw [upL_s, jm30]; omega
            · rw [upL_n hjk]; exact hd j (by omega)
          · intro j hj
            rw [upL_n (by omega)]
            exact hg j (by omega)
          · intro h
            rw [js30]; omega
          · intro h
            have hkn2 : k = n := by omega
            have hs2 : s.toInt = c.toInt := by
              rw [hs, hg0 k (by omega) (by omega), if_neg (by omega)]
              have : (0 : Int64).toInt = 0 := rfl
              omega
            rw [js30, hs2]; omega
          · intro h; omega
          · intro h
            rw [hS, dv, upL_s, dv_up_hi (Nat.le_refl _), jm30, js30, ← hv (by omega), pB_s]
            have := Int.emod_add_mul_ediv s.toInt 1073741824
            generalize s.toInt % 1073741824 = r at *
            generalize s.toInt / 1073741824 = q at *
            generalize (1073741824 : Int) ^ k = P at *
            grind
      by_cases hin : u ≤ k ∧ k < l + u
      · have c3 : ¬ nI k < nI u := nI_nlt hin.1 (by omega)
        have c4 : ¬ nI (l + u) ≤ nI k := nI_ge (by omega) (by omega)
        have e6 : nI k - nI u = nI (k - u) := nI_sub hin.1
        have i2 : rr_ix (nI (k - u)) (N (b + 1)) = true := ix_nI (by omega) (by omega)
        have m2 : rr_n (nI (k - u)) = k - u := n_nI (by omega)
        simp only [if_neg c3, if_neg c4, e6, hrb, i2, m2, if_true]
        have hrd : mg_l (mw_l σ (a + 1) g) (b + 1) (k - u) = gb (k - u) := by
          by_cases hab : b = a
          · obtain ⟨hu, hq⟩ := hsame hab
            rw [hab, mw_gsk, hq _ (by omega)]
            subst hu
            exact hgk
          · obtain ⟨h1, h2⟩ := hoth hab
            rw [mw_gn _ h1, h2]
        refine step _ ?_
        rw [hrd, if_pos hin]
        have hb2 := hb1 (k - u) (by omega)
        have e7 : (g k + c).toInt = (g0 k).toInt + c.toInt := by rw [hgk]; exact j_add (by omega) (by omega)
        have hxy : -1152921504606846976 ≤ F.toInt * (gb (k - u)).toInt ∧ F.toInt * (gb (k - u)).toInt ≤ 1152921504606846976 := by
          generalize (gb (k - u)).toInt = y at *
          generalize F.toInt = x at *
          have a1 := Int.mul_nonneg (show 0 ≤ 1073741824 - x by omega) (show 0 ≤ 1073741824 - y by omega)
          have a2 := Int.mul_nonneg (show 0 ≤ 1073741824 + x by omega) (show 0 ≤ 1073741824 + y by omega)
          have a3 := Int.mul_nonneg (show 0 ≤ 1073741824 - x by omega) (show 0 ≤ 1073741824 + y by omega)
          have a4 := Int.mul_nonneg (show 0 ≤ 1073741824 + x by omega) (show 0 ≤ 1073741824 - y by omega)
          constructor <;> grind
        have e8 : (F * gb (k - u)).toInt = F.toInt * (gb (k - u)).toInt := j_mul (by omega) (by omega)
        rw [j_add (by rw [e7, e8]; omega) (by rw [e7, e8]; omega), e7, e8]
      · have e7 : (g k + c).toInt = (g0 k).toInt + c.toInt := by rw [hgk]; exact j_add (by omega) (by omega)
        have st := step (g k + c) (by rw [e7, if_neg hin]; omega)
        by_cases h3 : k < u
        · have c3 : nI k < nI u := nI_lt h3 (by omega)
          simp only [if_pos c3]
          exact st
        · have c3 : ¬ nI k < nI u := nI_nlt (by omega) (by omega)
          have c4 : nI (l + u) ≤ nI k := nI_le (by omega) (by omega)
          simp only [if_neg c3, if_pos c4]
          exact st
theorem mx_nI {x y : Nat} (hx : x < 2147483648) (hy : y < 2147483648) : rr_mx (nI x) (nI y) = nI (max x y) := by
  unfold rr_mx
  by_cases h : x < y
  · rw [if_pos (nI_lt h hy), Nat.max_eq_right (by omega)]
  · rw [if_neg (nI_nlt (by omega) hx), Nat.max_eq_left (by omega)]
theorem bt_dig {g : Nat → Int64} {n : Nat} (h : bt g n) : ∀ j, j < n + 1 → -1073741824 ≤ (g j).toInt ∧ (g j).toInt ≤ 1073741824 := fun j hj => by
  rcases Nat.lt_or_ge j n with h1 | h1
  · have := h.1 j h1; omega
  · have : j = n := by omega
    subst this
    exact bt_top h
theorem big_addTimes {fu : Nat} {N : Nat → Nat} {a b : Nat} {σ : rr_M} {za zb : Int} {na nb u : Nat} {F : Int64} (hr : mg_r σ a 0 = a + 1) (hN : N (a + 1) < 200) (hrb : mg_r σ b 0 = b + 1) (hNb : N (b + 1) < 200) (hf : 400 < fu)
    (hna : na < N (a + 1)) (hia : mg_i σ a 1 = nI (na + 1)) (hba : bd (mg_l σ (a + 1)) na) (hza : dv (mg_l σ (a + 1)) (na + 1) = za)
    (hnb : nb < N (b + 1)) (hib : mg_i σ b 1 = nI (nb + 1)) (hbb : bd (mg_l σ (b + 1)) nb) (hzb : dv (mg_l σ (b + 1)) (nb + 1) = zb)
    (hab : b = a → u = 0) (hab2 : b ≠ a → b + 1 ≠ a + 1) (hroom : max (na + 1) (nb + 1 + u) + 2 ≤ N (a + 1)) (hF1 : -1073741824 ≤ F.toInt) (hF2 : F.toInt ≤ 1073741824) :
    wq (f_Big_addTimes fu N a b F (nI u) σ) (fun y => ∃ (g' : Nat → Int64) (m : Nat), y.2 = bpt σ a g' m ∧ bd g' m ∧ m < N (a + 1) ∧ dv g' (m + 1) = za + F.toInt * (zb * 1073741824 ^ u)) := by
  obtain ⟨n, hn⟩ : ∃ n, n = max (na + 1) (nb + 1 + u) := ⟨_, rfl⟩
  have e1 : rr_mx (nI (na + 1)) (nI (nb + 1 + u)) = nI n := by rw [mx_nI (by omega) (by omega), hn]
  have e2 : nI n + 2 = nI (n + 2) := nI_a2 n
  have c1 : ¬ nI u < 0 := nI_pos (by omega)
  have c2 : nI (n + 2) ≤ nI (N (a + 1)) := nI_le (by omega) (by omega)
  unfold f_Big_addTimes
  simp only [rr_lt, rr_jn, hr, hia, hib, nI_add, e1, e2, if_neg c1, c2, if_true]
  have key : wq (l_Big_addTimes_53 fu N a (nI (n + 2)) fu (nI (na + 1)) (mw_l σ (a + 1) (mg_l σ (a + 1))) (fun σ_13 =>
      l_Big_addTimes_80 fu N a b F (nI u) (nI (n + 2)) (nI (nb + 1 + u)) fu 0 (nI 0) σ_13 (fun σ_28 => rr_bd (f_Big_trim fu N a (nI (n + 2)) σ_28) fun _ σ_29 => some ((), σ_29))))
      (fun y => ∃ (g' : Nat → Int64) (m : Nat), y.2 = bpt σ a g' m ∧ bd g' m ∧ m < N (a + 1) ∧ dv g' (m + 1) = za + F.toInt * (zb * 1073741824 ^ u)) := by
    refine big_zero_a (n := n + 2) (k0 := na + 1) (g0 := mg_l σ (a + 1)) hr (by omega) (by omega) ?_ fu (na + 1) _ (Nat.le_refl _) (by omega) (by omega) (by omega) (fun j => ?_)
    · intro g hg
      have hgl : ∀ j, j < na + 1 → g j = mg_l σ (a + 1) j := fun j hj => by rw [hg, zf, if_neg (by omega)]
      have hgh : ∀ j, na + 1 ≤ j → j < n + 2 → g j = 0 := fun j h1 h2 => by rw [hg, zf, if_pos ⟨h1, h2⟩]
      have hz2 : dv g (n + 2) = za := by
        rw [dv_ext (n := na + 1) (by omega) (fun k h1 h2 => by rw [hgh k h1 h2]; rfl), dv_congr hgl, hza]
      refine big_add_l (n := n) (u := u) (l := nb + 1) (g0 := g) (gb := mg_l σ (b + 1)) (F := F) hr (by omega) hrb (by omega) (by omega) (by omega) (by omega) ?_ ?_ hF1 hF2 ?_ ?_ (bt_dig hbb.1) ?_ fu 0 g 0 (by omega) (by omega) (fun j hj => absurd hj (by omega)) (fun _ _ => rfl) (fun _ => by decide) (fun h => absurd h (by omega)) (fun h => absurd h (by omega)) (fun _ => by simp [dv, upv])
      · intro h
        refine ⟨hab h, fun j hj => ?_⟩
        subst h
        have : nb = na := by
          have := hia.symm.trans hib
          have := (nI_eq (by omega) (by omega)).mp this
          omega
        rw [hgl j (by omega)]
      · intro h
        exact ⟨hab2 h, rfl⟩
      · intro j hj
        rcases Nat.lt_or_ge j (na + 1) with h | h
        · rw [hgl j h]; exact bt_dig hba.1 j h
        · rw [hgh j h (by omega)]; decide
      · intro j h1 h2
        exact hgh j (by omega) h2
      · intro g' hd h1 h2 hv
        have e3 : upv (mg_l σ (b + 1)) u (nb + 1) (n + 2) = zb * 1073741824 ^ u := by
          unfold upv
          rw [Nat.min_eq_right (by omega), hzb]
        rw [hz2, e3] at hv
        have hlt := dl_lt hd
        have hp := pB_pos (n + 1)
        have ht1 := Int.mul_le_mul_of_nonneg_right h1 (Int.le_of_lt hp)
        have ht2 := Int.mul_le_mul_of_nonneg_right h2 (Int.le_of_lt hp)
        have hdv : dv g' (n + 2) = dv g' (n + 1) + (g' (n + 1)).toInt * 1073741824 ^ (n + 1) := rfl
        refine wq_bd (wq_mo (big_trim (n := n + 1) (g := g') hr (by omega) (by omega) (by omega) ⟨hd, ?_, ?_⟩) ?_)
        · rw [pB_s (n + 1), hdv]; omega
        · rw [pB_s (n + 1), hdv]; omega
        · rintro y ⟨g2, m, q1, q2, q3, q4⟩
          exact wq_some ⟨g2, m, q1, q2, by omega, by rw [q4, hv]⟩
    · rw [if_neg (by omega)]
  rw [mw_id] at key
  exact key
-- products
theorem big_mul_i {fu : Nat} {N : Nat → Nat} {a b c : Nat} {σ : rr_M} {Q : Unit × rr_M → Prop} {kk : Int64 → rr_M → Option (Unit × rr_M)} {i l n : Nat} {gb gc g0 : Nat → Int64} (hr : mg_r σ a 0 = a + 1) (hN : N (a + 1) < 200) (hrb : mg_r σ b 0 = b + 1) (hNb : N (b + 1) < 200) (hrc : mg_r σ c 0 = c + 1) (hNc : N (c + 1) < 200)
    (hb : b ≠ a) (hc : c ≠ a) (hgb : mg_l σ (b + 1) = gb) (hgc : mg_l σ (c + 1) = gc) (hic : mg_i σ c 1 = nI l) (hn : n ≤ N (a + 1)) (hin : i + l < n) (hiN : i < N (b + 1)) (hlN : l ≤ N (c + 1))
    (hbi : -1073741824 ≤ (gb i).toInt ∧ (gb i).toInt ≤ 1073741824) (hcj : ∀ j, j < l → -1073741824 ≤ (gc j).toInt ∧ (gc j).toInt ≤ 1073741824)
    (hk : ∀ (g' : Nat → Int64) (v : Int64), (∀ j, i + l ≤ j → g' j = g0 j) → (∀ j, j < i → g' j = g0 j) → (∀ j, i ≤ j → j < i + l → 0 ≤ (g' j).toInt ∧ (g' j).toInt < 1073741824) → dv g' n + v.toInt * 1073741824 ^ (i + l) = dv g0 n + (gb i).toInt * dv gc l * 1073741824 ^ i → wq (kk v (mw_l σ (a + 1) g')) Q)
    (h0 : ∀ j, j < n → -1073741824 ≤ (g0 j).toInt ∧ (g0 j).toInt ≤ 1073741824) :
    ∀ (f j : Nat) (g : Nat → Int64) (v : Int64), j ≤ l → l + 1 - j ≤ f → (∀ q, i + j ≤ q → g q = g0 q) → (∀ q, q < i → g q = g0 q) → (∀ q, i ≤ q → q < i + j → 0 ≤ (g q).toInt ∧ (g q).toInt < 1073741824) → -1073741830 ≤ v.toInt → v.toInt ≤ 1073741830 → dv g n + v.toInt * 1073741824 ^ (i + j) = dv g0 n + (gb i).toInt * dv gc j * 1073741824 ^ i →
      wq (l_Big_setProduct_65 fu N a b c (nI i) f v (nI j) (mw_l σ (a + 1) g) kk) Q
  | 0, j, g, v, h1, h2, _, _, _, _, _, _ => by omega
  | f + 1, j, g, v, h1, h2, hg1, hg2, hg3, hv1, hv2, hv => by
    rw [l_Big_setProduct_65]
    by_cases hjl : j = l
    · subst hjl
      have c1 : mg_i (mw_l σ (a + 1) g) c 1 ≤ nI j := by rw [mw_i, hic]; exact nI_le (by omega) (by omega)
      exact wq_ip c1 (hk g v hg1 hg2 hg3 hv)
    · have c1 : ¬ nI l ≤ nI j := nI_ge (by omega) (by omega)
      have i1 : rr_ix (nI (i + j)) (N (a + 1)) = true := ix_nI (by omega) (by omega)
      have i2 : rr_ix (nI i) (N (b + 1)) = true := ix_nI (by omega) (by omega)
      have i3 : rr_ix (nI j) (N (c + 1)) = true := ix_nI (by omega) (by omega)
      have m1 : rr_n (nI (i + j)) = i + j := n_nI (by omega)
      have m2 : rr_n (nI i) = i := n_nI (by omega)
      have m3 : rr_n (nI j) = j := n_nI (by omega)
      have r1 : mg_l (mw_l σ (a + 1) g) (b + 1) = gb := by rw [mw_gn _ (by omega), hgb]
      have r2 : mg_l (mw_l σ (a + 1) g) (c + 1) = gc := by rw [mw_gn _ (by omega), hgc]
      simp only [rr_lt, mw_i, mw_r, hr, hrb, hrc, hic, nI_add, i1, i2, i3, m1, m2, m3, mw_gsk, r1, r2, if_true, if_neg c1, mw_ms, nI_1]
      have hgk : g (i + j) = g0 (i + j) := hg1 _ (Nat.le_refl _)
      have h0k := h0 (i + j) (by omega)
      have hcj' := hcj j (by omega)
      have hxy : -1152921504606846976 ≤ (gb i).toInt * (gc j).toInt ∧ (gb i).toInt * (gc j).toInt ≤ 1152921504606846976 := by
        generalize (gc j).toInt = y at *
        generalize (gb i).toInt = x at *
        have a1 := Int.mul_nonneg (show 0 ≤ 1073741824 - x by omega) (show 0 ≤ 1073741824 - y by omega)
        have a2 := Int.mul_nonneg (show 0 ≤ 1073741824 + x by omega) (show 0 ≤ 1073741824 + y by omega)
        have a3 := Int.mul_nonneg (show 0 ≤ 1073741824 - x by omega) (show 0 ≤ 1073741824 + y by omega)
        have a4 := Int.mul_nonneg (show 0 ≤ 1073741824 + x by omega) (show 0 ≤ 1073741824 - y by omega)
        constructor <;> grind
      have e1 : (gb i * gc j).toInt = (gb i).toInt * (gc j).toInt := j_mul (by omega) (by omega)
      have e2 : (g (i + j) + gb i * gc j).toInt = (g0 (i + j)).toInt + (gb i).toInt * (gc j).toInt := by
        rw [hgk, j_add (by rw [e1]; omega) (by rw [e1]; omega), e1]
      have e3 : (g (i + j) + gb i * gc j + v).toInt = (g0 (i + j)).toInt + (gb i).toInt * (gc j).toInt + v.toInt := by
        rw [j_add (by rw [e2]; omega) (by rw [e2]; omega), e2]
      generalize hs : g (i + j) + gb i * gc j + v = s at *
      refine big_mul_i hr hN hrb hNb hrc hNc hb hc hgb hgc hic hn hin hiN hlN hbi hcj hk h0 f (j + 1) _ _ (by omega) (by omega) ?_ ?_ ?_ ?_ ?_ ?_
      · intro q hq
        rw [upL_n (by omega)]
        exact hg1 q (by omega)
      · intro q hq
        rw [upL_n (by omega)]
        exact hg2 q hq
      · intro q hq1 hq2
        by_cases hqk : q = i + j
        · subst hqk; rw [upL_s, jm30]; omega
        · rw [upL_n hqk]; exact hg3 q hq1 (by omega)
      · rw [js30]; omega
      · rw [js30]; omega
      · rw [dv_up (by omega), jm30, js30, show i + (j + 1) = i + j + 1 by omega, pB_s, hgk]
        have h3 : dv gc (j + 1) = dv gc j + (gc j).toInt * 1073741824 ^ j := rfl
        rw [h3]
        have h4 : (1073741824 : Int) ^ (i + j) = 1073741824 ^ i * 1073741824 ^ j := Int.pow_add _ _ _
        have := Int.emod_add_mul_ediv s.toInt 1073741824
        generalize s.toInt % 1073741824 = r at *
        generalize s.toInt / 1073741824 = q at *
        rw [h4] at hv ⊢
        generalize (1073741824 : Int) ^ i = P at *
        generalize (1073741824 : Int) ^ j = P' at *
        grind
theorem bt_part {g : Nat → Int64} {n i : Nat} (h : bt g n) (hi : i ≤ n + 1) : -(1073741824 : Int) ^ i ≤ dv g i ∧ dv g i ≤ (1073741824 : Int) ^ i := by
  rcases Nat.lt_or_ge n i with h1 | h1
  · have : i = n + 1 := by omega
    subst this
    exact h.2
  · obtain ⟨h2, h3⟩ := dl_lt (g := g) (n := i) (fun k hk => h.1 k (by omega))
    have := pB_pos i
    omega
theorem abs_mul_le {x y X Y : Int} (h1 : -X ≤ x) (h2 : x ≤ X) (h3 : -Y ≤ y) (h4 : y ≤ Y) : -(X * Y) ≤ x * y ∧ x * y ≤ X * Y := by
  have a1 := Int.mul_nonneg (show 0 ≤ X - x by omega) (show 0 ≤ Y - y by omega)
  have a2 := Int.mul_nonneg (show 0 ≤ X + x by omega) (show 0 ≤ Y + y by omega)
  have a3 := Int.mul_nonneg (show 0 ≤ X - x by omega) (show 0 ≤ Y + y by omega)
  have a4 := Int.mul_nonneg (show 0 ≤ X + x by omega) (show 0 ≤ Y - y by omega)
  constructor <;> grind
theorem dig_of {V low c P : Int} (hP : 0 < P) (h : V = low + c * P) (hl1 : 0 ≤ low) (hl2 : low < P) (h1 : -(P * 1073741824) ≤ V) (h2 : V ≤ P * 1073741824) : -1073741824 ≤ c ∧ c ≤ 1073741824 := by
  constructor
  · apply Int.not_lt.mp
    intro h6
    have := Int.mul_le_mul_of_nonneg_right (show c ≤ -1073741825 by omega) (Int.le_of_lt hP)
    omega
  · apply Int.not_lt.mp
    intro h6
    have := Int.mul_le_mul_of_nonneg_right (show (1073741825 : Int) ≤ c by omega) (Int.le_of_lt hP)
    omega
theorem big_mul_o {fu : Nat} {N : Nat → Nat} {a b c : Nat} {σ : rr_M} {Q : Unit × rr_M → Prop} {kk : rr_M → Option (Unit × rr_M)} {nb nc : Nat} {gb gc : Nat → Int64} (hr : mg_r σ a 0 = a + 1) (hN : N (a + 1) < 200) (hrb : mg_r σ b 0 = b + 1) (hNb : N (b + 1) < 200) (hrc : mg_r σ c 0 = c + 1) (hNc : N (c + 1) < 200) (hfu : 400 < fu)
    (hb : b ≠ a) (hc : c ≠ a) (hgb : mg_l σ (b + 1) = gb) (hgc : mg_l σ (c + 1) = gc) (hib : mg_i σ b 1 = nI (nb + 1)) (hic : mg_i σ c 1 = nI (nc + 1)) (hn : nb + nc + 2 ≤ N (a + 1)) (hiN : nb < N (b + 1)) (hlN : nc < N (c + 1)) (hbb : bt gb nb) (hbc : bt gc nc)
    (hk : ∀ (g' : Nat → Int64), dl g' (nb + nc + 1) → dv g' (nb + nc + 2) = dv gb (nb + 1) * dv gc (nc + 1) → wq (kk (mw_l σ (a + 1) g')) Q) :
    ∀ (f i : Nat) (g : Nat → Int64), i ≤ nb + 1 → nb + 2 - i ≤ f → dl g (i + nc) → (-1073741824 ≤ (g (i + nc)).toInt ∧ (g (i + nc)).toInt ≤ 1073741824) → (∀ j, i + nc < j → j < nb + nc + 2 → g j = 0) → dv g (nb + nc + 2) = dv gb i * dv gc (nc + 1) →
      wq (l_Big_setProduct_50 fu N a b c f (nI i) (mw_l σ (a + 1) g) kk) Q
  | 0, i, g, h1, h2, _, _, _, _ => by omega
  | f + 1, i, g, h1, h2, hd, ht, hz, hv => by
    rw [l_Big_setProduct_50]
    by_cases hin : i = nb + 1
    · subst hin
      have c1 : mg_i (mw_l σ (a + 1) g) b 1 ≤ nI (nb + 1) := by rw [mw_i, hib]; exact nI_le (by omega) (by omega)
      refine wq_ip c1 (hk g ?_ hv)
      rw [show nb + nc + 1 = nb + 1 + nc by omega]
      exact hd
    · have c1 : ¬ mg_i (mw_l σ (a + 1) g) b 1 ≤ nI i := by rw [mw_i, hib]; exact nI_ge (by omega) (by omega)
      rw [if_neg c1]
      have e0 : ∀ x : Nat, mg_i σ c 1 = nI (nc + 1) := fun _ => hic
      refine big_mul_i (n := nb + nc + 2) (i := i) (l := nc + 1) (gb := gb) (gc := gc) (g0 := g) hr hN hrb hNb hrc hNc hb hc hgb hgc hic hn (by omega) (by omega) (by omega) (bt_dig hbb i (by omega)) (bt_dig hbc) ?_ ?_ fu 0 g 0 (by omega) (by omega) (fun _ _ => rfl) (fun _ _ => rfl) (fun q h3 h4 => absurd h4 (by omega)) (by decide) (by decide) (by simp [dv])
      · intro g' v q1 q2 q3 q4
        have i1 : rr_ix (nI (i + (nc + 1))) (N (a + 1)) = true := ix_nI (by omega) (by omega)
        have m1 : rr_n (nI (i + (nc + 1))) = i + (nc + 1) := n_nI (by omega)
        simp only [rr_lt, mw_i, mw_r, hr, hic, nI_add, i1, m1, if_true, mw_ms, nI_1]
        have hz1 : g' (i + (nc + 1)) = 0 := by rw [q1 _ (Nat.le_refl _)]; exact hz _ (by omega) (by omega)
        have hd' : dl g' (i + 1 + nc) := by
          intro j hj
          rcases Nat.lt_or_ge j i with h3 | h3
          · rw [q2 j h3]; exact hd j (by omega)
          · exact q3 j h3 (by omega)
        have hval : dv (vp_updL g' (i + (nc + 1)) v) (nb + nc + 2) = dv gb (i + 1) * dv gc (nc + 1) := by
          rw [dv_up (by omega), hz1, show (0 : Int64).toInt = 0 from rfl, Int.sub_zero, q4, hv]
          have : dv gb (i + 1) = dv gb i + (gb i).toInt * 1073741824 ^ i := rfl
          rw [this]
          generalize (1073741824 : Int) ^ i = P
          generalize dv gc (nc + 1) = Y
          grind
        have hlow : dv (vp_updL g' (i + (nc + 1)) v) (nb + nc + 2) = dv g' (i + 1 + nc) + v.toInt * 1073741824 ^ (i + 1 + nc) := by
          rw [dv_ext (n := i + 1 + nc + 1) (by omega), dv, show i + (nc + 1) = i + 1 + nc by omega, upL_s, dv_up_hi (Nat.le_refl _)]
          intro k h3 h4
          rw [upL_n (by omega), q1 k (by omega), hz k (by omega) h4]
          rfl
        have hlt := dl_lt hd'
        have p1 := bt_part hbb (show i + 1 ≤ nb + 1 by omega)
        have p2 := hbc.2
        have hab := abs_mul_le p1.1 p1.2 p2.1 p2.2
        rw [← hval, ← Int.pow_add, show i + 1 + (nc + 1) = i + 1 + nc + 1 by omega, pB_s] at hab
        have hc9 := dig_of (pB_pos (i + 1 + nc)) hlow hlt.1 hlt.2 hab.1 hab.2
        refine big_mul_o hr hN hrb hNb hrc hNc hfu hb hc hgb hgc hib hic hn hiN hlN hbb hbc hk f (i + 1) _ (by omega) (by omega) ?_ ?_ ?_ hval
        · intro j hj
          rw [upL_n (by omega)]
          exact hd' j hj
        · rw [show i + 1 + nc = i + (nc + 1) by omega, upL_s]
          exact hc9
        · intro j h3 h4
          rw [upL_n (by omega), q1 j (by omega)]
          exact hz j (by omega) h4
      · intro j hj
        rcases Nat.lt_or_ge j (i + nc) with h3 | h3
        · have := hd j h3; omega
        · rcases Nat.lt_or_ge (i + nc) j with h4 | h4
          · rw [hz j h4 hj]; decide
          · have : j = i + nc := by omega
            subst this
            exact ht
theorem big_zero_p {fu : Nat} {N : Nat → Nat} {a : Nat} {σ : rr_M} {Q : Unit × rr_M → Prop} {kk : rr_M → Option (Unit × rr_M)} {n : Nat} (hr : mg_r σ a 0 = a + 1) (hN : N (a + 1) < 2147483648) (hn : n ≤ N (a + 1))
    (hk : ∀ g : Nat → Int64, (∀ j, j < n → g j = 0) → wq (kk (mw_l σ (a + 1) g)) Q) :
    ∀ (f k : Nat) (g : Nat → Int64), k ≤ n → n + 1 - k ≤ f → (∀ j, j < k → g j = 0) → wq (l_Big_setProduct_27 fu N a (nI n) f (nI k) (mw_l σ (a + 1) g) kk) Q
  | 0, k, g, h1, h2, h3 => by omega
  | f + 1, k, g, h1, h2, h3 => by
    rw [l_Big_setProduct_27]
    by_cases hkn : k = n
    · subst hkn
      exact wq_ip (nI_le (Nat.le_refl _) (by omega)) (hk g h3)
    · have c1 : ¬ nI n ≤ nI k := nI_ge (by omega) (by omega)
      have i1 : rr_ix (nI k) (N (a + 1)) = true := ix_nI (by omega) (by omega)
      have m1 : rr_n (nI k) = k := n_nI (by omega)
      simp only [rr_lt, mw_r, hr, i1, m1, if_true, if_neg c1, mw_ms, nI_1]
      refine big_zero_p hr hN hn hk f (k + 1) _ (by omega) (by omega) (fun j hj => ?_)
      by_cases hj2 : j = k
      · subst hj2
        rw [upL_s]
      · rw [upL_n hj2]
        exact h3 j (by omega)
theorem big_setProduct {fu : Nat} {N : Nat → Nat} {a b c : Nat} {σ : rr_M} {zb zc : Int} {nb nc : Nat} (hr : mg_r σ a 0 = a + 1) (hN : N (a + 1) < 200) (hrb : mg_r σ b 0 = b + 1) (hNb : N (b + 1) < 200) (hrc : mg_r σ c 0 = c + 1) (hNc : N (c + 1) < 200) (hfu : 400 < fu)
    (hb : b ≠ a) (hc : c ≠ a) (hnb : nb < N (b + 1)) (hib : mg_i σ b 1 = nI (nb + 1)) (hbb : bd (mg_l σ (b + 1)) nb) (hzb : dv (mg_l σ (b + 1)) (nb + 1) = zb)
    (hnc : nc < N (c + 1)) (hic : mg_i σ c 1 = nI (nc + 1)) (hbc : bd (mg_l σ (c + 1)) nc) (hzc : dv (mg_l σ (c + 1)) (nc + 1) = zc) (hroom : nb + nc + 2 ≤ N (a + 1)) :
    wq (f_Big_setProduct fu N a b c σ) (fun y => ∃ (g' : Nat → Int64) (m : Nat), y.2 = bpt σ a g' m ∧ bd g' m ∧ m < N (a + 1) ∧ dv g' (m + 1) = zb * zc) := by
  have e1 : nI (nb + 1) + nI (nc + 1) = nI (nb + nc + 2) := by rw [nI_add]; congr 1; omega
  have c1 : nI (nb + nc + 2) ≤ nI (N (a + 1)) := nI_le (by omega) (by omega)
  unfold f_Big_setProduct
  simp only [rr_lt, hr, hib, hic, e1, c1, if_true]
  have key : wq (l_Big_setProduct_27 fu N a (nI (nb + nc + 2)) fu (nI 0) (mw_l σ (a + 1) (mg_l σ (a + 1))) (fun σ_8 =>
      l_Big_setProduct_50 fu N a b c fu (nI 0) σ_8 (fun σ_24 => rr_bd (f_Big_trim fu N a (nI (nb + nc + 2)) σ_24) fun _ σ_25 => some ((), σ_25))))
      (fun y => ∃ (g' : Nat → Int64) (m : Nat), y.2 = bpt σ a g' m ∧ bd g' m ∧ m < N (a + 1) ∧ dv g' (m + 1) = zb * zc) := by
    refine big_zero_p (n := nb + nc + 2) hr (by omega) (by omega) ?_ fu 0 _ (by omega) (by omega) (fun j hj => absurd hj (by omega))
    intro g hg
    have h0 : ∀ j, j < nb + nc + 2 → (g j).toInt = 0 := fun j hj => by rw [hg j hj]; rfl
    refine big_mul_o (nb := nb) (nc := nc) (gb := mg_l σ (b + 1)) (gc := mg_l σ (c + 1)) hr hN hrb hNb hrc hNc hfu hb hc rfl rfl hib hic (by omega) hnb hnc hbb.1 hbc.1 ?_ fu 0 g (by omega) (by omega) (fun j hj => by rw [h0 j (by omega)]; decide) (by rw [h0 _ (by omega)]; decide) (fun j _ h4 => hg j h4) (by rw [dv_zero h0]; simp [dv])
    intro g' hd hv
    rw [hzb, hzc] at hv
    have hab := abs_mul_le hbb.1.2.1 hbb.1.2.2 hbc.1.2.1 hbc.1.2.2
    rw [hzb, hzc, ← hv, ← Int.pow_add, show nb + 1 + (nc + 1) = nb + nc + 1 + 1 by omega] at hab
    refine wq_bd (wq_mo (big_trim (n := nb + nc + 1) (g := g') hr (by omega) (by omega) (by omega) ⟨hd, hab.1, hab.2⟩) ?_)
    rintro y ⟨g2, m, q1, q2, q3, q4⟩
    exact wq_some ⟨g2, m, q1, q2, by omega, by rw [q4]; exact hv⟩
  rw [mw_id] at key
  exact key
