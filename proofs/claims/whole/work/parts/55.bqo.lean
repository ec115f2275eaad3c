/-! ===== quotients of large numbers, longs ===== -/
theorem inv_stp {L I e : Int} {b : Nat} (h : L * I = 1 + 2 ^ b * e) : ∃ e', L * ((I * ((2 - L * I) % 1073741824)) % 1073741824) = 1 + 2 ^ (min (2 * b) 30) * e' := by
  have h1 := Int.emod_add_mul_ediv (2 - L * I) 1073741824
  generalize (2 - L * I) % 1073741824 = t at *
  generalize (2 - L * I) / 1073741824 = q1 at *
  have h2 := Int.emod_add_mul_ediv (I * t) 1073741824
  generalize (I * t) % 1073741824 = t' at *
  generalize (I * t) / 1073741824 = q2 at *
  have e1 : (2 : Int) ^ b * 2 ^ b = 2 ^ (min (2 * b) 30) * 2 ^ (2 * b - min (2 * b) 30) := by
    rw [← Int.pow_add, ← Int.pow_add]; congr 1; omega
  have e2 : (1073741824 : Int) = 2 ^ (min (2 * b) 30) * 2 ^ (30 - min (2 * b) 30) := by
    rw [← Int.pow_add, show min (2 * b) 30 + (30 - min (2 * b) 30) = 30 by omega]; rfl
  refine ⟨-(2 ^ (2 * b - min (2 * b) 30)) * (e * e) - 2 ^ (30 - min (2 * b) 30) * (L * I * q1 + L * q2), ?_⟩
  have e3 : L * t' = 1 - (2 ^ b * 2 ^ b) * (e * e) - 1073741824 * (L * I * q1 + L * q2) := by
    have a1 : t' = I * t - 1073741824 * q2 := by omega
    have a2 : t = 2 - L * I - 1073741824 * q1 := by omega
    rw [a1, a2]
    generalize (2 : Int) ^ b = P at *
    grind
  rw [e3, e1]
  generalize (2 : Int) ^ (min (2 * b) 30) = P at *
  generalize (2 : Int) ^ (2 * b - min (2 * b) 30) = P1 at *
  generalize (2 : Int) ^ (30 - min (2 * b) 30) = P2 at *
  generalize L * I * q1 + L * q2 = Y at *
  rw [e2]
  grind
theorem inv_red (I L : Int64) (hI : 0 ≤ I.toInt ∧ I.toInt < 1073741824) (hL : 0 ≤ L.toInt ∧ L.toInt < 1073741824) :
    ((I * ((2 - (L * I)) &&& 1073741823)) &&& 1073741823).toInt = (I.toInt * ((2 - L.toInt * I.toInt) % 1073741824)) % 1073741824 := by
  have a1 := abs_mul_le (X := 1073741824) (Y := 1073741824) (show -1073741824 ≤ L.toInt by omega) (show L.toInt ≤ 1073741824 by omega) (show -1073741824 ≤ I.toInt by omega) (show I.toInt ≤ 1073741824 by omega)
  have e1 : (L * I).toInt = L.toInt * I.toInt := j_mul (by omega) (by omega)
  have e2 : (2 - L * I).toInt = 2 - L.toInt * I.toInt := by
    rw [j_sub (by rw [e1, show (2 : Int64).toInt = 2 from rfl]; omega) (by rw [e1, show (2 : Int64).toInt = 2 from rfl]; omega), e1]
    rfl
  have e3 := jm30 (2 - L * I)
  rw [e2] at e3
  have hm1 := Int.emod_nonneg (2 - L.toInt * I.toInt) (show (1073741824 : Int) ≠ 0 by decide)
  have hm2 := Int.emod_lt_of_pos (2 - L.toInt * I.toInt) (show (0 : Int) < 1073741824 by decide)
  have a2 := abs_mul_le (X := 1073741824) (Y := 1073741824) (show -1073741824 ≤ I.toInt by omega) (show I.toInt ≤ 1073741824 by omega) (show -1073741824 ≤ (2 - L.toInt * I.toInt) % 1073741824 by omega) (show (2 - L.toInt * I.toInt) % 1073741824 ≤ 1073741824 by omega)
  rw [jm30, j_mul (by rw [e3]; omega) (by rw [e3]; omega), e3]
theorem big_inverse {fu : Nat} {v : Int64} (hf : 400 < fu) {w : Int} (ho : v.toInt = 2 * w + 1) :
    wq (f_Big_inverseOf fu v) (fun I => 0 ≤ I.toInt ∧ I.toInt < 1073741824 ∧ ∃ e, v.toInt * I.toInt = 1 + 1073741824 * e) := by
  obtain ⟨f, rfl⟩ : ∃ f, fu = f + 5 := ⟨fu - 5, by omega⟩
  unfold f_Big_inverseOf
  simp only [rr_lt]
  have hl := jm30 v
  generalize hL : (v &&& 1073741823) = L at *
  have hm1 := Int.emod_nonneg v.toInt (show (1073741824 : Int) ≠ 0 by decide)
  have hm2 := Int.emod_lt_of_pos v.toInt (show (0 : Int) < 1073741824 by decide)
  have hL1 : 0 ≤ L.toInt ∧ L.toInt < 1073741824 := by rw [hl]; exact ⟨hm1, hm2⟩
  have hodd : ∃ w', L.toInt = 2 * w' + 1 := ⟨L.toInt / 2, by omega⟩
  obtain ⟨w', hw'⟩ := hodd
  have b3 : ∃ e, L.toInt * L.toInt = 1 + 2 ^ 3 * e := by
    rcases (by omega : w' % 2 = 0 ∨ w' % 2 = 1) with h | h
    · refine ⟨(w' / 2) * (w' + 1), ?_⟩
      have : w' = 2 * (w' / 2) := by omega
      rw [hw']
      generalize hq : w' / 2 = q at *
      rw [this]
      grind
    · refine ⟨w' * ((w' + 1) / 2), ?_⟩
      have : w' + 1 = 2 * ((w' + 1) / 2) := by omega
      rw [hw']
      generalize hq : (w' + 1) / 2 = q at *
      have h2 : w' = 2 * q - 1 := by omega
      rw [h2]
      grind
  obtain ⟨e0, he0⟩ := b3
  have step : ∀ (I : Int64) (b : Nat) (e : Int), 0 ≤ I.toInt ∧ I.toInt < 1073741824 → L.toInt * I.toInt = 1 + 2 ^ b * e →
      (0 ≤ ((I * ((2 - (L * I)) &&& 1073741823)) &&& 1073741823).toInt ∧ ((I * ((2 - (L * I)) &&& 1073741823)) &&& 1073741823).toInt < 1073741824) ∧ ∃ e', L.toInt * ((I * ((2 - (L * I)) &&& 1073741823)) &&& 1073741823).toInt = 1 + 2 ^ (min (2 * b) 30) * e' := by
    intro I b e hI he
    rw [inv_red I L hI hL1]
    refine ⟨⟨Int.emod_nonneg _ (by decide), Int.emod_lt_of_pos _ (by decide)⟩, inv_stp he⟩
  rw [l_Big_inverseOf_12, if_neg (by decide)]
  simp only [rr_lt]
  obtain ⟨hI1, e1, he1⟩ := step L 3 e0 hL1 he0
  generalize hI1' : ((L * ((2 - (L * L)) &&& 1073741823)) &&& 1073741823) = I1 at *
  rw [l_Big_inverseOf_12, if_neg (by decide)]
  simp only [rr_lt]
  obtain ⟨hI2, e2, he2⟩ := step I1 _ e1 hI1 he1
  generalize ((I1 * ((2 - (L * I1)) &&& 1073741823)) &&& 1073741823) = I2 at *
  rw [l_Big_inverseOf_12, if_neg (by decide)]
  simp only [rr_lt]
  obtain ⟨hI3, e3, he3⟩ := step I2 _ e2 hI2 he2
  generalize ((I2 * ((2 - (L * I2)) &&& 1073741823)) &&& 1073741823) = I3 at *
  rw [l_Big_inverseOf_12, if_neg (by decide)]
  simp only [rr_lt]
  obtain ⟨hI4, e4, he4⟩ := step I3 _ e3 hI3 he3
  generalize ((I3 * ((2 - (L * I3)) &&& 1073741823)) &&& 1073741823) = I4 at *
  rw [l_Big_inverseOf_12, if_pos (by decide)]
  refine wq_some ⟨hI4.1, hI4.2, ?_⟩
  have he5 : L.toInt * I4.toInt = 1 + 1073741824 * e4 := he4
  have h1 := Int.emod_add_mul_ediv v.toInt 1073741824
  rw [← hl] at h1
  refine ⟨e4 + (v.toInt / 1073741824) * I4.toInt, ?_⟩
  generalize v.toInt / 1073741824 = q at *
  rw [← h1]
  grind
theorem big_quo_i {fu : Nat} {N : Nat → Nat} {r o : Nat} {σ : rr_M} {Q : Unit × rr_M → Prop} {kk : rr_M → Option (Unit × rr_M)} {n k lo : Nat} {D : Int64} {go g0 : Nat → Int64} (hr : mg_r σ r 0 = r + 1) (hN : N (r + 1) < 200) (hro : mg_r σ o 0 = o + 1) (hNo : N (o + 1) < 200) (hne : o ≠ r) (hgo : mg_l σ (o + 1) = go) (hio : mg_i σ o 1 = nI lo) (hlo : lo ≤ N (o + 1)) (hn : n ≤ N (r + 1)) (hkn : k < n)
    (hD1 : 0 ≤ D.toInt) (hD2 : D.toInt < 1073741824) (hgo1 : ∀ j, j < lo → -1073741824 ≤ (go j).toInt ∧ (go j).toInt ≤ 1073741824) (hg0 : ∀ j, j < n → -1073741824 ≤ (g0 j).toInt ∧ (g0 j).toInt ≤ 1073741824)
    (hk : ∀ (g : Nat → Int64) (c : Int), (∀ j, j < k → g j = g0 j) → (∀ j, k ≤ j → j < n → 0 ≤ (g j).toInt ∧ (g j).toInt < 1073741824) → dv g n + c * 1073741824 ^ n = dv g0 n - D.toInt * dv go (min (n - k) lo) * 1073741824 ^ k → (0 < lo → (g k).toInt = ((g0 k).toInt - D.toInt * (go 0).toInt) % 1073741824) → wq (kk (mw_l σ (r + 1) g)) Q) :
    ∀ (f j : Nat) (g : Nat → Int64) (c : Int64), k + j ≤ n → n + 1 - (k + j) ≤ f → (∀ q, q < k → g q = g0 q) → (∀ q, k + j ≤ q → g q = g0 q) → (∀ q, k ≤ q → q < k + j → 0 ≤ (g q).toInt ∧ (g q).toInt < 1073741824) → (-1073741830 ≤ c.toInt ∧ c.toInt ≤ 1073741830) → dv g n + c.toInt * 1073741824 ^ (k + j) = dv g0 n - D.toInt * dv go (min j lo) * 1073741824 ^ k → (j = 0 → c.toInt = 0) → (0 < j → 0 < lo → (g k).toInt = ((g0 k).toInt - D.toInt * (go 0).toInt) % 1073741824) →
      wq (l_Big_setQuotient_116 fu N r o (nI n) (nI k) D f c (nI j) (mw_l σ (r + 1) g) kk) Q
  | 0, j, g, c, h1, h2, _, _, _, _, _, _, _ => by omega
  | f + 1, j, g, c, h1, h2, hg1, hg2, hg3, hc, hv, hj0, hj1 => by
    rw [l_Big_setQuotient_116, nI_add]
    by_cases hjn : k + j = n
    · refine wq_ip (nI_le (by omega) (by omega)) (hk g c.toInt hg1 (fun q h3 h4 => hg3 q h3 (by omega)) ?_ (fun h => hj1 (by omega) h))
      rw [show n - k = j by omega, ← hv, hjn]
    · have c1 : ¬ nI n ≤ nI (k + j) := nI_ge (by omega) (by omega)
      have i1 : rr_ix (nI (k + j)) (N (r + 1)) = true := ix_nI (by omega) (by omega)
      have m1 : rr_n (nI (k + j)) = k + j := n_nI (by omega)
      simp only [rr_lt, rr_jn, mw_i, mw_r, hr, hio, i1, m1, if_true, if_neg c1, mw_gsk, mw_ms, nI_1]
      have hgk : g (k + j) = g0 (k + j) := hg2 _ (Nat.le_refl _)
      have hb := hg0 (k + j) (by omega)
      have e1 : (g (k + j) + c).toInt = (g0 (k + j)).toInt + c.toInt := by rw [hgk]; exact j_add (by omega) (by omega)
      have step : ∀ s : Int64, s.toInt = (g0 (k + j)).toInt + c.toInt - (if j < lo then D.toInt * (go j).toInt else 0) → (-1152921508000000000 ≤ s.toInt ∧ s.toInt ≤ 1152921508000000000) →
          wq (l_Big_setQuotient_116 fu N r o (nI n) (nI k) D f (s >>> ((30 : Int32).toInt64 &&& 63)) (nI (j + 1)) (mw_l σ (r + 1) (vp_updL g (k + j) (s &&& 1073741823))) kk) Q := by
        intro s hs hsb
        refine big_quo_i hr hN hro hNo hne hgo hio hlo hn hkn hD1 hD2 hgo1 hg0 hk f (j + 1) _ _ (by omega) (by omega) ?_ ?_ ?_ ?_ ?_ ?_ ?_
        · intro q hq
          rw [upL_n (by omega)]
          exact hg1 q hq
        · intro q hq
          rw [upL_n (by omega)]
          exact hg2 q (by omega)
        · intro q h3 h4
          by_cases hq : q = k + j
          · subst hq; rw [upL_s, jm30]; omega
          · rw [upL_n hq]; exact hg3 q h3 (by omega)
        · rw [js30]; omega
        · rw [dv_up (by omega), jm30, js30, show k + (j + 1) = k + j + 1 by omega, pB_s, hgk]
          have hmin : dv go (min (j + 1) lo) * 1073741824 ^ k = dv go (min j lo) * 1073741824 ^ k + (if j < lo then (go j).toInt else 0) * 1073741824 ^ (k + j) := by
            by_cases hjl : j < lo
            · rw [if_pos hjl, show min (j + 1) lo = j + 1 by omega, show min j lo = j by omega, dv, Int.pow_add]
              generalize (1073741824 : Int) ^ k = P
              generalize (1073741824 : Int) ^ j = P'
              grind
            · rw [if_neg hjl, show min (j + 1) lo = min j lo by omega]
              omega
          have hmin2 : D.toInt * dv go (min (j + 1) lo) * 1073741824 ^ k = D.toInt * dv go (min j lo) * 1073741824 ^ k + (if j < lo then D.toInt * (go j).toInt else 0) * 1073741824 ^ (k + j) := by
            rw [Int.mul_assoc, hmin]
            split <;> grind
          rw [hmin2]
          have := Int.emod_add_mul_ediv s.toInt 1073741824
          generalize s.toInt % 1073741824 = r' at *
          generalize s.toInt / 1073741824 = q' at *
          generalize (if j < lo then D.toInt * (go j).toInt else 0) = Y at *
          generalize (1073741824 : Int) ^ (k + j) = P at *
          generalize D.toInt * dv go (min j lo) * 1073741824 ^ k = Z at *
          grind
        · intro h; omega
        · intro _ h0
          by_cases hj : j = 0
          · subst hj
            rw [Nat.add_zero, upL_s, jm30, hs, hj0 rfl, if_pos h0, Nat.add_zero]
            congr 1
            omega
          · rw [upL_n (by omega)]
            exact hj1 (by omega) h0
      by_cases hjl : j < lo
      · have c2 : ¬ nI lo ≤ nI j := nI_ge (by omega) (by omega)
        have i2 : rr_ix (nI j) (N (o + 1)) = true := ix_nI (by omega) (by omega)
        have m2 : rr_n (nI j) = j := n_nI (by omega)
        have r2 : mg_l (mw_l σ (r + 1) g) (o + 1) = go := by rw [mw_gn _ (by omega), hgo]
        simp only [if_neg c2, hro, i2, m2, if_true, r2]
        have hoj := hgo1 j hjl
        have a1 := abs_mul_le (X := 1073741824) (Y := 1073741824) (show -1073741824 ≤ D.toInt by omega) (show D.toInt ≤ 1073741824 by omega) hoj.1 hoj.2
        have e2 : (D * go j).toInt = D.toInt * (go j).toInt := j_mul (by omega) (by omega)
        have e3 : (g (k + j) + c - D * go j).toInt = (g0 (k + j)).toInt + c.toInt - D.toInt * (go j).toInt := by
          rw [j_sub (by rw [e1, e2]; omega) (by rw [e1, e2]; omega), e1, e2]
        exact step _ (by rw [e3, if_pos hjl]) (by rw [e3]; omega)
      · have c2 : nI lo ≤ nI j := nI_le (by omega) (by omega)
        simp only [if_pos c2]
        exact step _ (by rw [e1, if_neg hjl]; omega) (by rw [e1]; omega)
theorem mw_comm (σ : rr_M) {d e : Nat} (h : d ≠ e) (g g' : Nat → Int64) : mw_l (mw_l σ d g) e g' = mw_l (mw_l σ e g') d g := by
  unfold mw_l
  simp only
  congr 2
  funext a
  by_cases h1 : a = e
  · have h2 : ¬ a = d := fun h3 => h (h3.symm.trans h1)
    simp only [if_pos h1, if_neg h2]
  · simp only [if_neg h1]
theorem big_quo_o {fu : Nat} {N : Nat → Nat} {a r o : Nat} {σ : rr_M} {Q : Unit × rr_M → Prop} {kk : rr_M → Option (Unit × rr_M)} {n no : Nat} {I : Int64} {go : Nat → Int64} {zr zo : Int} (hfu : 400 < fu) (hra : mg_r σ a 0 = a + 1) (hNa : N (a + 1) < 200) (hr : mg_r σ r 0 = r + 1) (hN : N (r + 1) < 200) (hro : mg_r σ o 0 = o + 1) (hNo : N (o + 1) < 200) (har : a ≠ r) (hao : a ≠ o) (hne : o ≠ r) (hgo : mg_l σ (o + 1) = go) (hio : mg_i σ o 1 = nI (no + 1)) (hlo : no < N (o + 1)) (hn : n ≤ N (r + 1)) (hna : n ≤ N (a + 1))
    (hbo : bt go no) (hzo : dv go (no + 1) = zo) (hI1 : 0 ≤ I.toInt) (hI2 : I.toInt < 1073741824) (hI3 : ∃ e, (go 0).toInt * I.toInt = 1 + 1073741824 * e)
    (hk : ∀ (q g : Nat → Int64), dl q n → (∃ e, dv q n * zo = zr + e * 1073741824 ^ n) → wq (kk (mw_l (mw_l σ (a + 1) q) (r + 1) g)) Q) :
    ∀ (f k : Nat) (q g : Nat → Int64), k ≤ n → n + 1 - k ≤ f → dl q k → (∀ j, j < n → -1073741824 ≤ (g j).toInt ∧ (g j).toInt ≤ 1073741824) → (∀ j, j < k → (g j).toInt = 0) → (∃ e, dv g n + dv q k * zo = zr + e * 1073741824 ^ n) →
      wq (l_Big_setQuotient_79 fu N a r o (nI n) I f (nI k) (mw_l (mw_l σ (a + 1) q) (r + 1) g) kk) Q
  | 0, k, q, g, h1, h2, _, _, _, _ => by omega
  | f + 1, k, q, g, h1, h2, hq, hg, hz, hv => by
    rw [l_Big_setQuotient_79]
    by_cases hkn : k = n
    · subst hkn
      refine wq_ip (nI_le (Nat.le_refl _) (by omega)) (hk q g hq ?_)
      obtain ⟨e, he⟩ := hv
      rw [dv_zero hz] at he
      exact ⟨e, by omega⟩
    · have c1 : ¬ nI n ≤ nI k := nI_ge (by omega) (by omega)
      have i1 : rr_ix (nI k) (N (r + 1)) = true := ix_nI (by omega) (by omega)
      have i2 : rr_ix (nI k) (N (a + 1)) = true := ix_nI (by omega) (by omega)
      have m1 : rr_n (nI k) = k := n_nI (by omega)
      have hA : a + 1 ≠ r + 1 := by omega
      simp only [rr_lt, mw_r, hr, hra, i1, i2, m1, if_true, if_neg c1, mw_gsk, nI_1]
      have hgk := hg k (by omega)
      have a1 := abs_mul_le (X := 1073741824) (Y := 1073741824) hgk.1 hgk.2 (show -1073741824 ≤ I.toInt by omega) (show I.toInt ≤ 1073741824 by omega)
      have e1 : (g k * I).toInt = (g k).toInt * I.toInt := j_mul (by omega) (by omega)
      have e2 := jm30 (g k * I)
      rw [e1] at e2
      generalize (g k * I &&& 1073741823) = D at *
      have hD1 : 0 ≤ D.toInt := by rw [e2]; exact Int.emod_nonneg _ (by decide)
      have hD2 : D.toInt < 1073741824 := by rw [e2]; exact Int.emod_lt_of_pos _ (by decide)
      rw [mw_comm σ hA, mw_ms, ← mw_comm σ hA]
      refine big_quo_i (σ := mw_l σ (a + 1) (vp_updL q k D)) (n := n) (k := k) (lo := no + 1) (D := D) (go := go) (g0 := g) hr hN hro hNo hne (by rw [mw_gn _ (by omega)]; exact hgo) hio (by omega) hn (by omega) hD1 hD2 (bt_dig hbo) hg ?_ fu 0 g 0 (by omega) (by omega) (fun _ _ => rfl) (fun _ _ => rfl) (fun q h3 h4 => absurd h4 (by omega)) (by decide) (by simp [dv]) (fun _ => rfl) (fun h => absurd h (by omega))
      intro g' c hlow hrange hval h0
      refine big_quo_o hfu hra hNa hr hN hro hNo har hao hne hgo hio hlo hn hna hbo hzo hI1 hI2 hI3 hk f (k + 1) _ g' (by omega) (by omega) ?_ ?_ ?_ ?_
      · intro j hj
        by_cases hjk : j = k
        · subst hjk; rw [upL_s]; exact ⟨hD1, hD2⟩
        · rw [upL_n hjk]; exact hq j (by omega)
      · intro j hj
        rcases Nat.lt_or_ge j k with h3 | h3
        · rw [hlow j h3]; exact hg j hj
        · have := hrange j h3 hj; omega
      · intro j hj
        by_cases hjk : j = k
        · subst hjk
          rw [h0 (by omega), e2]
          obtain ⟨e, he⟩ := hI3
          have h5 := Int.emod_add_mul_ediv ((g j).toInt * I.toInt) 1073741824
          generalize ((g j).toInt * I.toInt) % 1073741824 = t at *
          generalize ((g j).toInt * I.toInt) / 1073741824 = u at *
          have h6 : (g j).toInt - t * (go 0).toInt = 1073741824 * (u * (go 0).toInt - (g j).toInt * e) := by
            have : t = (g j).toInt * I.toInt - 1073741824 * u := by omega
            rw [this]
            grind
          rw [h6]
          exact Int.mul_emod_right _ _
        · rw [hlow j (by omega)]
          exact hz j (by omega)
      · obtain ⟨e, he⟩ := hv
        rw [dv, dv_up_hi (Nat.le_refl _), upL_s]
        -- what the low digits of the divisor leave out
        have hcut : ∃ u, dv go (no + 1) = dv go (min (n - k) (no + 1)) + 1073741824 ^ (n - k) * u := by
          rcases Nat.lt_or_ge (n - k) (no + 1) with h3 | h3
          · have := dv_split go (n - k) (no + 1 - (n - k))
            rw [show n - k + (no + 1 - (n - k)) = no + 1 by omega] at this
            exact ⟨_, by rw [Nat.min_eq_left (by omega)]; exact this⟩
          · exact ⟨0, by rw [Nat.min_eq_right (by omega)]; omega⟩
        obtain ⟨u, hu⟩ := hcut
        have hp : (1073741824 : Int) ^ n = 1073741824 ^ (n - k) * 1073741824 ^ k := by rw [← Int.pow_add]; congr 1; omega
        refine ⟨e - c + D.toInt * u, ?_⟩
        rw [hzo] at hu
        have h7 : dv g' n = dv g n - D.toInt * dv go (min (n - k) (no + 1)) * 1073741824 ^ k - c * 1073741824 ^ n := by omega
        rw [h7]
        generalize dv go (min (n - k) (no + 1)) = Y at *
        generalize dv g n = G at *
        generalize dv q k = W at *
        have h8 : G = zr + e * 1073741824 ^ n - W * zo := by omega
        rw [h8, hp, hu]
        generalize (1073741824 : Int) ^ (n - k) = P at *
        generalize (1073741824 : Int) ^ k = P' at *
        grind
theorem big_zero_q {fu : Nat} {N : Nat → Nat} {a : Nat} {σ : rr_M} {Q : Unit × rr_M → Prop} {kk : rr_M → Option (Unit × rr_M)} {n k0 : Nat} {g0 : Nat → Int64} (hr : mg_r σ a 0 = a + 1) (hN : N (a + 1) < 2147483648) (hn : n ≤ N (a + 1))
    (hk : ∀ g, (∀ j, g j = zf g0 k0 n j) → wq (kk (mw_l σ (a + 1) g)) Q) :
    ∀ (f k : Nat) (g : Nat → Int64), k0 ≤ k → k ≤ N (a + 1) → n + 1 - k ≤ f → 0 < f → (∀ j, g j = if k0 ≤ j ∧ j < k ∧ j < n then 0 else g0 j) → wq (l_Big_setQuotient_45 fu N a (nI n) f (nI k) (mw_l σ (a + 1) g) kk) Q
  | 0, k, g, h1, h2, h3, h3', h4 => by omega
  | f + 1, k, g, h1, h2, h3, h3', h4 => by
    rw [l_Big_setQuotient_45]
    by_cases hkn : n ≤ k
    · refine wq_ip (nI_le hkn (by omega)) (hk g (fun j => ?_))
      rw [h4, zf]
      by_cases hj : k0 ≤ j ∧ j < n
      · rw [if_pos hj, if_pos ⟨hj.1, by omega, hj.2⟩]
      · rw [if_neg hj, if_neg (fun hc => hj ⟨hc.1, hc.2.2⟩)]
    · have c1 : ¬ nI n ≤ nI k := nI_ge (by omega) (by omega)
      have i1 : rr_ix (nI k) (N (a + 1)) = true := ix_nI (by omega) (by omega)
      have m1 : rr_n (nI k) = k := n_nI (by omega)
      simp only [rr_lt, mw_r, hr, i1, m1, if_true, if_neg c1, mw_ms, nI_1]
      refine big_zero_q hr hN hn hk f (k + 1) _ (by omega) (by omega) (by omega) (by omega) (fun j => ?_)
      by_cases hj : j = k
      · subst hj
        rw [upL_s, if_pos ⟨h1, by omega, by omega⟩]
      · rw [upL_n hj, h4]
        by_cases hj2 : k0 ≤ j ∧ j < k ∧ j < n
        · rw [if_pos hj2, if_pos ⟨hj2.1, by omega, hj2.2.2⟩]
        · rw [if_neg hj2, if_neg (by omega)]
theorem bd_ge {g : Nat → Int64} {n : Nat} (h : bd g n) (h0 : dv g (n + 1) ≠ 0) : (1073741824 : Int) ^ n ≤ dv g (n + 1) ∨ dv g (n + 1) ≤ -(1073741824 : Int) ^ n := by
  rcases Nat.eq_zero_or_pos n with hn | hn
  · subst hn
    simp only [Int.pow_zero]
    omega
  · exact bd_big h hn
theorem big_setQuotient {fu : Nat} {N : Nat → Nat} {a r o : Nat} {σ : rr_M} {zq zr zo wo : Int} {nr no : Nat} (hfu : 400 < fu) (hra : mg_r σ a 0 = a + 1) (hNa : N (a + 1) < 200) (hr : mg_r σ r 0 = r + 1) (hN : N (r + 1) < 200) (hro : mg_r σ o 0 = o + 1) (hNo : N (o + 1) < 200) (har : a ≠ r) (hao : a ≠ o) (hne : o ≠ r)
    (hnr : nr < N (r + 1)) (hir : mg_i σ r 1 = nI (nr + 1)) (hbr : bd (mg_l σ (r + 1)) nr) (hzr : dv (mg_l σ (r + 1)) (nr + 1) = zr)
    (hno : no < N (o + 1)) (hio : mg_i σ o 1 = nI (no + 1)) (hbo : bd (mg_l σ (o + 1)) no) (hzo : dv (mg_l σ (o + 1)) (no + 1) = zo) (hodd : zo = 2 * wo + 1) (hq : zr = zq * zo)
    (hroom : max (nr + 2 - no) 1 ≤ N (a + 1)) (hroom2 : max (nr + 2 - no) 1 ≤ N (r + 1)) :
    wq (f_Big_setQuotient fu N a r o σ) (fun y => ∃ (gr g' : Nat → Int64) (m : Nat), y.2 = bpt (mw_l σ (r + 1) gr) a g' m ∧ bd g' m ∧ m < N (a + 1) ∧ dv g' (m + 1) = zq) := by
  obtain ⟨n', hn'⟩ : ∃ n', max (nr + 2 - no) 1 = n' + 1 := ⟨max (nr + 2 - no) 1 - 1, by omega⟩
  have e1 : rr_mx (nI (nr + 1) - nI (no + 1) + 2) 1 = nI (n' + 1) := by
    rw [← hn']
    have : nI (nr + 1) - nI (no + 1) + 2 = nI (nr + 3) - nI (no + 1) := by
      rw [Int32.sub_eq_add_neg, Int32.sub_eq_add_neg, Int32.add_assoc, Int32.add_comm (-nI (no + 1)) 2, ← Int32.add_assoc, nI_a2]
    rw [this, mx_sub (by omega) (by omega)]
    congr 1
    omega
  have c1 : ¬ nI (N (a + 1)) < nI (n' + 1) := nI_nlt (by omega) (by omega)
  have c2 : nI (n' + 1) ≤ nI (N (r + 1)) := nI_le (by omega) (by omega)
  have i0 : rr_ix 0 (N (o + 1)) = true := ix_nI (k := 0) (by omega) (by omega)
  have m0 : rr_n 0 = 0 := rfl
  unfold f_Big_setQuotient
  simp only [rr_lt, rr_jn, hra, hr, hir, hio, e1, if_neg c1, c2, if_true]
  have hz0 : zo ≠ 0 := by omega
  -- the quotient is short
  have hbz := hbr.1.2
  rw [hzr] at hbz
  have hge := bd_ge hbo (by rw [hzo]; exact hz0)
  rw [hzo] at hge
  have hqb : -(1073741824 : Int) ^ n' ≤ zq ∧ zq ≤ (1073741824 : Int) ^ n' := by
    have hpo := pB_pos no
    have hP : (1073741824 : Int) ^ (nr + 1) < 1073741824 ^ n' * 1073741824 ^ no + 1073741824 ^ no := by
      rcases Nat.lt_or_ge (nr + 1) no with h | h
      · have h3 : (1073741824 : Int) ^ (nr + 1) ≤ 1073741824 ^ no := pw_mono (by decide) (by omega)
        have := Int.mul_pos (pB_pos n') hpo
        omega
      · rw [← Int.pow_add, show n' + no = nr + 1 by omega]
        omega
    have hpn := pB_pos n'
    constructor
    · apply Int.not_lt.mp
      intro h
      have h4 : zq * 1073741824 ^ no ≤ (-(1073741824 : Int) ^ n' - 1) * 1073741824 ^ no := Int.mul_le_mul_of_nonneg_right (by omega) (Int.le_of_lt hpo)
      rw [Int.sub_mul, Int.neg_mul, Int.one_mul] at h4
      rcases hge with h5 | h5
      · have h6 : zq * zo ≤ zq * 1073741824 ^ no := Int.mul_le_mul_of_nonpos_left (by omega) h5
        omega
      · have h6 : zq * (-(1073741824 : Int) ^ no) ≤ zq * zo := Int.mul_le_mul_of_nonpos_left (by omega) h5
        rw [Int.mul_neg] at h6
        omega
    · apply Int.not_lt.mp
      intro h
      have h4 : ((1073741824 : Int) ^ n' + 1) * 1073741824 ^ no ≤ zq * 1073741824 ^ no := Int.mul_le_mul_of_nonneg_right (by omega) (Int.le_of_lt hpo)
      rw [Int.add_mul, Int.one_mul] at h4
      rcases hge with h5 | h5
      · have h6 : zq * 1073741824 ^ no ≤ zq * zo := Int.mul_le_mul_of_nonneg_left h5 (by omega)
        omega
      · have h6 : zq * zo ≤ zq * (-(1073741824 : Int) ^ no) := Int.mul_le_mul_of_nonneg_left h5 (by omega)
        rw [Int.mul_neg] at h6
        omega
  have key : wq (l_Big_setQuotient_45 fu N r (nI (n' + 1)) fu (nI (nr + 1)) (mw_l σ (r + 1) (mg_l σ (r + 1))) (fun σ_13 =>
      if rr_ix 0 (N (mg_r σ_13 o 0)) = true then
        Option.bind (f_Big_inverseOf fu (mg_l σ_13 (mg_r σ_13 o 0) (rr_n 0))) fun r_15 =>
          l_Big_setQuotient_79 fu N a r o (nI (n' + 1)) r_15 fu (nI 0) σ_13 (fun σ_35 =>
            if rr_ix (nI (n' + 1) - 1) (N (mg_r σ_35 a 0)) = true then
              if (mg_l σ_35 (mg_r σ_35 a 0) (rr_n (nI (n' + 1) - 1))) < 536870912 then rr_bd (f_Big_trim fu N a (nI (n' + 1)) σ_35) fun _ σ_38 => some ((), σ_38)
              else if rr_ix (nI (n' + 1) - 1) (N (mg_r σ_35 a 0)) = true then
                if rr_ix (nI (n' + 1) - 1) (N (mg_r σ_35 a 0)) = true then
                  rr_bd (f_Big_trim fu N a (nI (n' + 1)) (ms_l σ_35 (mg_r σ_35 a 0) (rr_n (nI (n' + 1) - 1)) ((mg_l σ_35 (mg_r σ_35 a 0) (rr_n (nI (n' + 1) - 1))) - 1073741824))) fun _ σ_38 => some ((), σ_38)
                else none
              else none
            else none)
      else none)) (fun y => ∃ (gr g' : Nat → Int64) (m : Nat), y.2 = bpt (mw_l σ (r + 1) gr) a g' m ∧ bd g' m ∧ m < N (a + 1) ∧ dv g' (m + 1) = zq) := by
    refine big_zero_q (n := n' + 1) (k0 := nr + 1) (g0 := mg_l σ (r + 1)) hr (by omega) (by omega) ?_ fu (nr + 1) _ (Nat.le_refl _) (by omega) (by omega) (by omega) (fun j => by rw [if_neg (by omega)])
    intro g hg
    have hA : a + 1 ≠ r + 1 := by omega
    have ho1 : mg_l (mw_l σ (r + 1) g) (o + 1) = mg_l σ (o + 1) := mw_gn _ (by omega)
    simp only [mw_r, hro, i0, m0, if_true, ho1]
    obtain ⟨eo, heo⟩ := dv_low (mg_l σ (o + 1)) no
    rw [hzo, hodd] at heo
    refine wq_ob (wq_mo (big_inverse hfu (w := wo - 536870912 * eo) (by omega)) ?_)
    intro I ⟨hI1, hI2, hI3⟩
    have hgz : ∃ e, dv g (n' + 1) + dv (mg_l σ (a + 1)) 0 * zo = zr + e * 1073741824 ^ (n' + 1) := by
      rcases Nat.lt_or_ge n' nr with h | h
      · have h3 : dv g (n' + 1) = dv (mg_l σ (r + 1)) (n' + 1) := dv_congr (fun j hj => by rw [hg, zf, if_neg (by omega)])
        have h4 := dv_split (mg_l σ (r + 1)) (n' + 1) (nr + 1 - (n' + 1))
        rw [show n' + 1 + (nr + 1 - (n' + 1)) = nr + 1 by omega, hzr] at h4
        refine ⟨-(dv (fun j => mg_l σ (r + 1) (n' + 1 + j)) (nr + 1 - (n' + 1))), ?_⟩
        rw [h3, h4]
        simp only [dv]
        generalize (1073741824 : Int) ^ n' = P
        grind
      · refine ⟨0, ?_⟩
        have h3 : dv g (n' + 1) = dv g (nr + 1) := dv_ext (by omega) (fun k h3 h4 => by rw [hg, zf, if_pos ⟨h3, h4⟩]; rfl)
        rw [h3, dv_congr (g' := mg_l σ (r + 1)) (fun j hj => by rw [hg, zf, if_neg (by omega)]), hzr]
        simp [dv]
    have hst : mw_l σ (r + 1) g = mw_l (mw_l σ (a + 1) (mg_l σ (a + 1))) (r + 1) g := by rw [mw_id]
    rw [hst]
    refine big_quo_o (n := n' + 1) (no := no) (go := mg_l σ (o + 1)) (zr := zr) (zo := zo) hfu hra hNa hr hN hro hNo har hao hne rfl hio hno (by omega) (by omega) hbo.1 hzo hI1 hI2 hI3 ?_ fu 0 _ g (by omega) (by omega) (fun j hj => absurd hj (by omega)) ?_ (fun j hj => absurd hj (by omega)) hgz
    · intro q g2 hdq ⟨e, he⟩
      have e5 : nI (n' + 1) - 1 = nI n' := nI_pred _
      have i1 : rr_ix (nI n') (N (a + 1)) = true := ix_nI (by omega) (by omega)
      have m1 : rr_n (nI n') = n' := n_nI (by omega)
      rw [mw_comm σ hA]
      simp only [mw_r, hra, e5, i1, m1, if_true, mw_gsk, mw_ms]
      -- the digits tell the quotient
      have hcong : ∃ t, dv q (n' + 1) - zq = 2 ^ (30 * (n' + 1)) * t := by
        refine odd_cancel hodd (30 * (n' + 1)) _ ⟨e, ?_⟩
        rw [← p30, Int.sub_mul, he, hq]
        generalize (1073741824 : Int) ^ (n' + 1) = P
        grind
      obtain ⟨t, ht⟩ := hcong
      rw [← p30] at ht
      have hlt := dl_lt hdq
      have hpn := pB_pos n'
      have htop := hdq n' (by omega)
      have hlow := dl_lt (g := q) (n := n') (fun j hj => hdq j (by omega))
      have hsum : dv q (n' + 1) = dv q n' + (q n').toInt * 1073741824 ^ n' := rfl
      have hc536 : (536870912 : Int64).toInt = 536870912 := rfl
      rw [pB_s] at ht hlt
      by_cases hs : 0 ≤ zq
      · have ht0 : t = 0 := by
          rcases Int.lt_trichotomy t 0 with h | h | h
          · have := Int.mul_le_mul_of_nonneg_left (show t ≤ -1 by omega) (show (0 : Int) ≤ 1073741824 ^ n' * 1073741824 by omega)
            omega
          · exact h
          · have := Int.mul_le_mul_of_nonneg_left (show 1 ≤ t by omega) (show (0 : Int) ≤ 1073741824 ^ n' * 1073741824 by omega)
            omega
        rw [ht0] at ht
        have hqv : dv q (n' + 1) = zq := by omega
        have hlt1 : (q n').toInt < 536870912 := by
          apply Int.not_le.mp
          intro h
          have := Int.mul_le_mul_of_nonneg_right h (Int.le_of_lt hpn)
          omega
        have c3 : q n' < 536870912 := by rw [Int64.lt_iff_toInt_lt, hc536]; exact hlt1
        rw [if_pos c3]
        refine wq_bd (wq_mo (big_trim (n := n') (g := q) hra (by omega) (by omega) (by omega) ⟨fun j hj => hdq j (by omega), ?_, ?_⟩) ?_)
        · rw [hqv, pB_s]; omega
        · rw [hqv, pB_s]; omega
        · rintro y ⟨g3, m, q1, q2, q3, q4⟩
          exact wq_some ⟨g2, g3, m, q1, q2, by omega, by rw [q4, hqv]⟩
      · have ht1 : t = 1 := by
          rcases Int.lt_trichotomy t 1 with h | h | h
          · have := Int.mul_le_mul_of_nonneg_left (show t ≤ 0 by omega) (show (0 : Int) ≤ 1073741824 ^ n' * 1073741824 by omega)
            omega
          · exact h
          · have := Int.mul_le_mul_of_nonneg_left (show 2 ≤ t by omega) (show (0 : Int) ≤ 1073741824 ^ n' * 1073741824 by omega)
            omega
        rw [ht1] at ht
        have hge1 : 536870912 ≤ (q n').toInt := by
          apply Int.not_lt.mp
          intro h
          have := Int.mul_le_mul_of_nonneg_right (show (q n').toInt ≤ 536870911 by omega) (Int.le_of_lt hpn)
          omega
        have c3 : ¬ q n' < 536870912 := by rw [Int64.lt_iff_toInt_lt, hc536]; omega
        rw [if_neg c3]
        have e6 : (q n' - 1073741824).toInt = (q n').toInt - 1073741824 := j_sub (x := q n') (y := 1073741824) (by rw [show (1073741824 : Int64).toInt = 1073741824 from rfl]; omega) (by rw [show (1073741824 : Int64).toInt = 1073741824 from rfl]; omega)
        have hqv : dv (vp_updL q n' (q n' - 1073741824)) (n' + 1) = zq := by
          rw [dv, dv_up_hi (Nat.le_refl _), upL_s, e6]
          rw [hsum] at ht
          generalize (1073741824 : Int) ^ n' = P at *
          grind
        refine wq_bd (wq_mo (big_trim (n := n') hra (by omega) (by omega) (by omega) ⟨fun j hj => ?_, ?_, ?_⟩) ?_)
        · rw [upL_n (by omega)]; exact hdq j (by omega)
        · rw [hqv, pB_s]; omega
        · rw [hqv, pB_s]; omega
        · rintro y ⟨g3, m, q1, q2, q3, q4⟩
          exact wq_some ⟨g2, g3, m, q1, q2, by omega, by rw [q4, hqv]⟩
    · intro j hj
      rw [hg, zf]
      by_cases h : nr + 1 ≤ j ∧ j < n' + 1
      · rw [if_pos h]; decide
      · rw [if_neg h]; exact bt_dig hbr.1 j (by omega)
  rw [mw_id] at key
  exact key
theorem big_tol_l {fu : Nat} {N : Nat → Nat} {b : Nat} {σ : rr_M} {n : Nat} {g : Nat → Int64} (hr : mg_r σ b 0 = b + 1) (hN : N (b + 1) < 200) (hn : n < N (b + 1)) (hg : mg_l σ (b + 1) = g) (hb : bt g n) {kk : Int64 → Option Int64} {Q : Int64 → Prop} {z : Int} (hz1 : -2305843009213693952 ≤ z) (hz2 : z ≤ 2305843009213693952)
    (hk : ∀ v : Int64, v.toInt = z → wq (kk v) Q) :
    ∀ (k f : Nat) (v : Int64), k ≤ n + 1 → k < f → v.toInt * 1073741824 ^ k + dv g k = z → wq (l_Big_toLong_9 fu N b σ f v (nI k - 1) kk) Q
  | 0, f + 1, v, h1, h2, hv => by
    rw [l_Big_toLong_9, if_pos (by decide)]
    exact hk v (by simpa [dv] using hv)
  | k + 1, f + 1, v, h1, h2, hv => by
    have e1 : nI (k + 1) - 1 = nI k := nI_pred k
    have c1 : ¬ nI k < 0 := nI_pos (by omega)
    have i1 : rr_ix (nI k) (N (b + 1)) = true := ix_nI (by omega) (by omega)
    have m1 : rr_n (nI k) = k := n_nI (by omega)
    have e2 : nI k + (-1) = nI k - 1 := (Int32.sub_eq_add_neg (nI k) 1).symm
    rw [l_Big_toLong_9, e1, if_neg c1]
    simp only [rr_lt, hr, i1, m1, if_true, hg, e2]
    have hp := pB_pos k
    have hd := bt_dig hb k (by omega)
    have hlt := dl_lt (g := g) (n := k) (fun j hj => hb.1 j (by omega))
    rw [dv, pB_s] at hv
    have hnew : (v.toInt * 1073741824 + (g k).toInt) * 1073741824 ^ k + dv g k = z := by
      rw [← hv]
      generalize (1073741824 : Int) ^ k = P
      grind
    generalize hS : v.toInt * 1073741824 + (g k).toInt = S at *
    have hS1 : -2305843009213693953 ≤ S ∧ S ≤ 2305843009213693953 := by
      constructor
      · apply Int.not_lt.mp
        intro h
        have := Int.mul_le_mul_of_nonneg_right (show S ≤ -2305843009213693954 by omega) (Int.le_of_lt hp)
        omega
      · apply Int.not_lt.mp
        intro h
        have := Int.mul_le_mul_of_nonneg_right (show 2305843009213693954 ≤ S by omega) (Int.le_of_lt hp)
        omega
    have s1 : (v <<< ((30 : Int32).toInt64 &&& 63)).toInt = v.toInt * 1073741824 := jshl v (p := 30) (by decide) (by have : (2 : Int) ^ 30 = 1073741824 := rfl; rw [this]; omega) (by have : (2 : Int) ^ 30 = 1073741824 := rfl; rw [this]; omega)
    have s2 : (v <<< ((30 : Int32).toInt64 &&& 63) + g k).toInt = S := by
      rw [j_add (by rw [s1]; omega) (by rw [s1]; omega), s1, hS]
    exact big_tol_l hr hN hn hg hb hz1 hz2 hk k f _ (by omega) (by omega) (by rw [s2]; exact hnew)
theorem big_toLong {fu : Nat} {N : Nat → Nat} {b : Nat} {σ : rr_M} {z : Int} (h : bg N σ b z) (hN : N (b + 1) < 200) (hf : 400 < fu) (hz1 : -2305843009213693952 ≤ z) (hz2 : z ≤ 2305843009213693952) : wq (f_Big_toLong fu N b σ) (fun v => v.toInt = z) := by
  obtain ⟨hr, n, hn, hi, hb, hz⟩ := h
  unfold f_Big_toLong
  simp only [rr_lt, hi]
  refine big_tol_l hr hN hn rfl hb.1 hz1 hz2 (fun v hv => wq_some hv) (n + 1) fu 0 (Nat.le_refl _) (by omega) ?_
  rw [hz, show (0 : Int64).toInt = 0 from rfl]
  omega
