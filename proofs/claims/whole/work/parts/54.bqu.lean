/-! ===== zeros at the end, moving down, quotients, longs ===== -/
theorem nI_mul (a b : Nat) : nI a * nI b = nI (a * b) := by
  unfold nI
  rw [Int32.ofNat_mul]
theorem nI_div {a b : Nat} (ha : a < 2147483648) (hb : b < 2147483648) : nI a / nI b = nI (a / b) := by
  apply i_inj
  have h := Nat.div_le_self a b
  rw [Jvm.Kit.i32_div (by rw [nI_t a ha]; omega), nI_t a ha, nI_t b hb, nI_t (a / b) (by omega)]
  rw [Int.tdiv_eq_ediv_of_nonneg (by omega)]
  rfl
theorem nI_subT {a b : Nat} (ha : a < 2147483648) (hb : b < 2147483648) : (nI a - nI b).toInt = (a : Int) - b := by
  rw [Jvm.Kit.i32_sub (by rw [nI_t a ha, nI_t b hb]; omega) (by rw [nI_t a ha, nI_t b hb]; omega), nI_t a ha, nI_t b hb]
theorem mx_sub {a b : Nat} (ha : a < 2147483648) (hb : b < 2147483648) : rr_mx (nI a - nI b) 1 = nI (max (a - b) 1) := by
  unfold rr_mx
  by_cases h : a ≤ b
  · have : nI a - nI b < 1 := by
      rw [Int32.lt_iff_toInt_lt, nI_subT ha hb]
      have : (1 : Int32).toInt = 1 := rfl
      omega
    rw [if_pos this, Nat.max_eq_right (by omega)]
    rfl
  · have : ¬ nI a - nI b < 1 := by
      rw [Int32.lt_iff_toInt_lt, nI_subT ha hb]
      have : (1 : Int32).toInt = 1 := rfl
      omega
    rw [if_neg this, Nat.max_eq_left (by omega), nI_sub (by omega)]
theorem dv_split (g : Nat → Int64) (k : Nat) : ∀ m, dv g (k + m) = dv g k + 1073741824 ^ k * dv (fun j => g (k + j)) m
  | 0 => by simp [dv]
  | m + 1 => by
    rw [← Nat.add_assoc, dv, dv_split g k m, dv, Int.pow_add]
    generalize (1073741824 : Int) ^ k = P
    generalize (1073741824 : Int) ^ m = P'
    grind
theorem dv_low (g : Nat → Int64) (n : Nat) : ∃ e, dv g (n + 1) = (g 0).toInt + 1073741824 * e := by
  have := dv_split g 1 n
  rw [Nat.add_comm 1 n] at this
  refine ⟨dv (fun j => g (1 + j)) n, ?_⟩
  rw [this]
  simp [dv]
theorem p30 (k : Nat) : (1073741824 : Int) ^ k = 2 ^ (30 * k) := by
  rw [show (1073741824 : Int) = 2 ^ 30 from rfl, ← Int.pow_mul]
theorem big_ntz_l {fu : Nat} {N : Nat → Nat} {b : Nat} {σ : rr_M} {Q : Int32 → Prop} {kk : Int32 → Option Int32} {n : Nat} {g : Nat → Int64} (hr : mg_r σ b 0 = b + 1) (hN : N (b + 1) < 200) (hn : n < N (b + 1)) (hi : mg_i σ b 1 = nI (n + 1)) (hg : mg_l σ (b + 1) = g)
    (hk : ∀ k, k ≤ n → (∀ j, j < k → (g j).toInt = 0) → (k < n → (g k).toInt ≠ 0) → wq (kk (nI k)) Q) :
    ∀ (f k : Nat), k ≤ n → n + 1 - k ≤ f → (∀ j, j < k → (g j).toInt = 0) → wq (l_Big_trailingZeros_20 fu N b σ f (nI k) kk) Q
  | 0, k, h1, h2, h3 => by omega
  | f + 1, k, h1, h2, h3 => by
    rw [l_Big_trailingZeros_20]
    have e1 : nI (n + 1) - 1 = nI n := nI_pred n
    rw [hi, e1]
    by_cases hkn : k = n
    · subst hkn
      exact wq_ip (nI_le (Nat.le_refl _) (by omega)) (hk k (Nat.le_refl _) h3 (fun h => absurd h (by omega)))
    · have c1 : ¬ nI n ≤ nI k := nI_ge (by omega) (by omega)
      have i1 : rr_ix (nI k) (N (b + 1)) = true := ix_nI (by omega) (by omega)
      have m1 : rr_n (nI k) = k := n_nI (by omega)
      simp only [rr_lt, hr, i1, m1, if_true, if_neg c1, nI_1, hg]
      by_cases h0 : g k = 0
      · rw [if_pos h0]
        refine big_ntz_l hr hN hn hi hg hk f (k + 1) (by omega) (by omega) (fun j hj => ?_)
        by_cases hj2 : j = k
        · subst hj2; exact j_eq0.mp h0
        · exact h3 j (by omega)
      · rw [if_neg h0]
        exact hk k (by omega) h3 (fun _ h => h0 (j_eq0.mpr h))
theorem big_ntz {fu : Nat} {N : Nat → Nat} {b : Nat} {σ : rr_M} {z : Int} (h : bg N σ b z) (hN : N (b + 1) < 200) (hf : 400 < fu) :
    wq (f_Big_trailingZeros fu N b σ) (fun y => ∃ s : Nat, s < 6100 ∧ y = nI s ∧ (z = 0 → s = 0) ∧ (z ≠ 0 → ∃ w, z = 2 ^ s * (2 * w + 1))) := by
  obtain ⟨hr, n, hn, hi, hb, hz⟩ := h
  have e1 : nI (n + 1) - 1 = nI n := nI_pred n
  have i1 : rr_ix (nI n) (N (b + 1)) = true := ix_nI (by omega) (by omega)
  have m1 : rr_n (nI n) = n := n_nI (by omega)
  have sg := bd_sg hb
  rw [hz] at sg
  unfold f_Big_trailingZeros
  simp only [rr_lt, hr, hi, e1, i1, m1, if_true]
  by_cases h0 : mg_l σ (b + 1) n = 0
  · rw [if_pos h0]
    have h1 := j_eq0.mp h0
    exact wq_some ⟨0, by omega, rfl, fun _ => rfl, fun hne => absurd hne (by simp only [h1] at sg; omega)⟩
  · rw [if_neg h0]
    have h1 : (mg_l σ (b + 1) n).toInt ≠ 0 := fun h => h0 (j_eq0.mpr h)
    have hz0 : z ≠ 0 := by omega
    refine big_ntz_l (n := n) (g := mg_l σ (b + 1)) hr hN hn hi rfl ?_ fu 0 (by omega) (by omega) (fun j hj => absurd hj (by omega))
    intro k hk hlow hne
    have i2 : rr_ix (nI k) (N (b + 1)) = true := ix_nI (by omega) (by omega)
    have m2 : rr_n (nI k) = k := n_nI (by omega)
    have hgk : (mg_l σ (b + 1) k).toInt ≠ 0 := by
      rcases Nat.lt_or_ge k n with h2 | h2
      · exact hne h2
      · have : k = n := by omega
        subst this
        exact h1
    have hd := bt_dig hb.1 k (by omega)
    obtain ⟨t, m, ht, et, em⟩ := jlo_ntz _ hgk hd.1 hd.2
    simp only [i2, m2, if_true, et, Option.bind]
    have e3 : nI k * 30 + nI t = nI (k * 30 + t) := by
      rw [show (30 : Int32) = nI 30 from rfl, nI_mul, nI_add]
    rw [e3]
    refine wq_some ⟨k * 30 + t, by omega, rfl, fun h => absurd h hz0, fun _ => ?_⟩
    have e4 := dv_split (mg_l σ (b + 1)) k (n + 1 - k)
    rw [show k + (n + 1 - k) = n + 1 by omega, hz, dv_zero hlow] at e4
    have e6 : (2 : Int) ^ (k * 30 + t) = 1073741824 ^ k * 2 ^ t := by rw [p30, ← Int.pow_add, Nat.mul_comm]
    rcases Nat.lt_or_ge k n with h2 | h2
    · obtain ⟨e, he⟩ := dv_low (fun j => mg_l σ (b + 1) (k + j)) (n - k)
      rw [show n - k + 1 = n + 1 - k by omega] at he
      have ht2 : t < 30 := by
        apply Nat.lt_of_not_le
        intro h
        have : t = 30 := by omega
        subst this
        have hd2 := hb.1.1 k h2
        have : (2 : Int) ^ 30 = 1073741824 := rfl
        rw [this] at em
        omega
      have h30 := p2_30 (show t ≤ 30 by omega)
      obtain ⟨u, hu⟩ : ∃ u, 30 - t = u + 1 := ⟨29 - t, by omega⟩
      rw [hu, Int.pow_succ] at h30
      refine ⟨m + 2 ^ u * e, ?_⟩
      rw [show k + 0 = k from rfl] at he
      rw [e4, he, e6, em]
      have h30' : (1073741824 : Int) = 2 ^ t * (2 ^ u * 2) := h30.symm
      have : 1073741824 * e = 2 ^ t * (2 ^ u * 2) * e := by rw [← h30']
      rw [this]
      generalize (1073741824 : Int) ^ k = P
      generalize (2 : Int) ^ t = P'
      generalize (2 : Int) ^ u = P''
      grind
    · have hkn : k = n := by omega
      subst hkn
      refine ⟨m, ?_⟩
      rw [e4, e6, show k + 1 - k = 1 by omega]
      simp only [dv, Nat.add_zero]
      rw [em]
      generalize (1073741824 : Int) ^ k = P
      generalize (2 : Int) ^ t = P'
      grind
theorem odd_cancel {o : Int} {w : Int} (ho : o = 2 * w + 1) : ∀ (n : Nat) (x : Int), (∃ e, x * o = 2 ^ n * e) → ∃ e, x = 2 ^ n * e
  | 0, x, _ => ⟨x, by simp⟩
  | n + 1, x, ⟨e, he⟩ => by
    have h2 : (2 : Int) ^ (n + 1) = 2 ^ n * 2 := Int.pow_succ _ _
    have hx : x % 2 = 0 := by
      have h3 : (x * o) % 2 = 0 := by
        rw [he, h2]
        have : (2 : Int) ^ n * 2 * e = 2 * (2 ^ n * e) := by grind
        rw [this]
        exact Int.mul_emod_right _ _
      rcases (by omega : x % 2 = 0 ∨ x % 2 = 1) with h | h
      · exact h
      · exfalso
        have h4 : x = 2 * (x / 2) + 1 := by omega
        have h5 : x * o = 2 * ((x / 2) * o + w) + 1 := by rw [h4, ho]; grind
        omega
    obtain ⟨y, hy⟩ : ∃ y, x = 2 * y := ⟨x / 2, by omega⟩
    obtain ⟨e', he'⟩ := odd_cancel ho n y ⟨e, by
      rw [hy, h2] at he
      have : 2 * (y * o) = 2 * (2 ^ n * e) := by grind
      omega⟩
    exact ⟨e', by rw [hy, he', h2]; grind⟩
theorem big_digitAt {N : Nat → Nat} {a : Nat} {σ : rr_M} {n k : Nat} {g : Nat → Int64} (hr : mg_r σ a 0 = a + 1) (hN : N (a + 1) < 200) (hn : n < N (a + 1)) (hi : mg_i σ a 1 = nI (n + 1)) (hk : k < 2147483647) :
    f_Big_digitAt N a (nI k) (mw_l σ (a + 1) g) = some (if k ≤ n then g k else g n >>> ((30 : Int32).toInt64 &&& 63)) := by
  have e1 : nI (n + 1) - 1 = nI n := nI_pred n
  have i1 : rr_ix (nI n) (N (a + 1)) = true := ix_nI (by omega) (by omega)
  have m1 : rr_n (nI n) = n := n_nI (by omega)
  unfold f_Big_digitAt
  simp only [rr_lt, mw_i, mw_r, hr, hi, e1, i1, m1, if_true, mw_gsk]
  by_cases h : k ≤ n
  · have c1 : ¬ nI (n + 1) ≤ nI k := nI_ge (by omega) (by omega)
    have i2 : rr_ix (nI k) (N (a + 1)) = true := ix_nI (by omega) (by omega)
    have m2 : rr_n (nI k) = k := n_nI (by omega)
    simp only [if_neg c1, i2, m2, if_true, if_pos h]
  · have c1 : nI (n + 1) ≤ nI k := nI_le (by omega) (by omega)
    simp only [if_pos c1, if_neg h]
theorem big_shd_l {fu : Nat} {N : Nat → Nat} {a : Nat} {σ : rr_M} {Q : Unit × rr_M → Prop} {kk : rr_M → Option (Unit × rr_M)} {n w p : Nat} {g0 : Nat → Int64} (hr : mg_r σ a 0 = a + 1) (hN : N (a + 1) < 200) (hn : n < N (a + 1)) (hi : mg_i σ a 1 = nI (n + 1)) (hb : bt g0 n) (hw : w ≤ n) (hp : p < 30)
    (hk : ∀ g : Nat → Int64, (∀ j, n - w ≤ j → g j = g0 j) → dl g (n - w) → 2 ^ p * dv g (n - w) + (g0 w).toInt % 2 ^ p = dv (fun j => g0 (w + j)) (n - w) + (g0 n).toInt % 2 ^ p * 1073741824 ^ (n - w) → wq (kk (mw_l σ (a + 1) g)) Q) :
    ∀ (f k : Nat) (g : Nat → Int64), k ≤ n - w → n - w + 1 - k ≤ f → (∀ j, k ≤ j → g j = g0 j) → dl g k → 2 ^ p * dv g k + (g0 w).toInt % 2 ^ p = dv (fun j => g0 (w + j)) k + (g0 (w + k)).toInt % 2 ^ p * 1073741824 ^ k →
      wq (l_Big_shiftDown_30 fu N a (nI w) (nI p) (nI (n - w + 1)) f (nI k) (mw_l σ (a + 1) g) kk) Q
  | 0, k, g, h1, h2, _, _, _ => by omega
  | f + 1, k, g, h1, h2, hg, hd, hv => by
    rw [l_Big_shiftDown_30]
    have e0 : nI (n - w + 1) - 1 = nI (n - w) := nI_pred _
    rw [e0]
    by_cases hkn : k = n - w
    · refine wq_ip (nI_le (by omega) (by omega)) (hk g (fun j hj => hg j (by omega)) (by rw [← hkn]; exact hd) ?_)
      rw [hkn, show w + (n - w) = n by omega] at hv
      exact hv
    · have c1 : ¬ nI (n - w) ≤ nI k := nI_ge (by omega) (by omega)
      have i1 : rr_ix (nI k) (N (a + 1)) = true := ix_nI (by omega) (by omega)
      have m1 : rr_n (nI k) = k := n_nI (by omega)
      have q1 : g (k + w) = g0 (w + k) := by rw [hg _ (by omega), Nat.add_comm]
      have q2 : g (k + w + 1) = g0 (w + k + 1) := by rw [hg _ (by omega), Nat.add_comm k w]
      simp only [if_neg c1, nI_add, nI_1]
      rw [big_digitAt hr hN hn hi (by omega), big_digitAt hr hN hn hi (by omega), if_pos (by omega), if_pos (by omega), q1, q2]
      simp only [Option.bind, rr_lt, mw_r, hr, i1, m1, if_true, mw_ms]
      have hx := hb.1 (w + k) (by omega)
      have hy := bt_dig hb (w + k + 1) (by omega)
      have hsh := dig_sh hp hx.1 hx.2 hy.1 hy.2
      have h30 := p2_30 (show p ≤ 30 by omega)
      refine big_shd_l hr hN hn hi hb hw hp hk f (k + 1) _ (by omega) (by omega) ?_ ?_ ?_
      · intro j hj
        rw [upL_n (by omega)]
        exact hg j (by omega)
      · intro j hj
        by_cases hjk : j = k
        · subst hjk; rw [upL_s, jm30]; omega
        · rw [upL_n hjk]; exact hd j (by omega)
      · rw [dv, dv_up_hi (Nat.le_refl _), upL_s, hsh, dv, show w + (k + 1) = w + k + 1 by omega, pB_s]
        have e9 := Int.emod_add_mul_ediv (g0 (w + k)).toInt (2 ^ p)
        generalize (g0 (w + k)).toInt / 2 ^ p = d at *
        generalize (g0 (w + k)).toInt % 2 ^ p = r at *
        generalize (g0 (w + k + 1)).toInt % 2 ^ p = r' at *
        generalize (1073741824 : Int) ^ k = P at *
        rw [← e9]
        have : 2 ^ p * (dv g k + (d + r' * 2 ^ (30 - p)) * P) = 2 ^ p * dv g k + (2 ^ p * d) * P + r' * (2 ^ p * 2 ^ (30 - p)) * P := by grind
        rw [this, h30]
        grind
theorem big_shiftDown {fu : Nat} {N : Nat → Nat} {a : Nat} {σ : rr_M} {z' : Int} {n s : Nat} (hr : mg_r σ a 0 = a + 1) (hN : N (a + 1) < 200) (hf : 400 < fu) (hs : s < 100000) (hn : n < N (a + 1)) (hi : mg_i σ a 1 = nI (n + 1)) (hb : bd (mg_l σ (a + 1)) n) (hz : dv (mg_l σ (a + 1)) (n + 1) = 2 ^ s * z') :
    wq (f_Big_shiftDown fu N a (nI s) σ) (fun y => ∃ (g' : Nat → Int64) (m : Nat), y.2 = bpt σ a g' m ∧ bd g' m ∧ m < N (a + 1) ∧ dv g' (m + 1) = z') := by
  unfold f_Big_shiftDown
  by_cases h0 : s = 0
  · subst h0
    rw [if_neg (by decide)]
    refine wq_some ⟨mg_l σ (a + 1), n, ?_, hb, hn, by rw [hz]; simp⟩
    rw [bpt, mw_id]
    have : ms_i σ a 1 (nI (n + 1)) = σ := by
      rw [← hi]
      unfold ms_i mg_i
      have : rr_u2 σ.1 a 1 (σ.1 a 1) = σ.1 := by
        funext b j
        unfold rr_u2
        split
        · rename_i h; rw [h.1, h.2]
        · rfl
      rw [this]
    rw [this]
  · have c0 : (0 : Int32) < nI s := nI_lt (a := 0) (by omega) (by omega)
    have e1 : nI s / 30 = nI (s / 30) := nI_div (b := 30) (by omega) (by omega)
    have e2 : nI s - nI (s / 30) * 30 = nI (s % 30) := by
      rw [show (30 : Int32) = nI 30 from rfl, nI_mul, nI_sub (by omega)]
      congr 1
      omega
    simp only [if_pos c0, rr_lt, e1, e2, hi, mx_sub (show n + 1 < 2147483648 by omega) (show s / 30 < 2147483648 by omega)]
    obtain ⟨w, hw⟩ : ∃ w, w = s / 30 := ⟨_, rfl⟩
    obtain ⟨p, hp⟩ : ∃ p, p = s % 30 := ⟨_, rfl⟩
    have hp30 : p < 30 := by omega
    rw [← hw, ← hp]
    have hsw : (2 : Int) ^ s = 1073741824 ^ w * 2 ^ p := by rw [p30, ← Int.pow_add]; congr 1; omega
    have hpw := pB_pos w
    have hpp := p2_pos p
    rcases Nat.lt_or_ge n w with hnw | hnw
    · -- nothing is left of the digits but the sign
      rw [Nat.max_eq_right (by omega)]
      rw [← mw_id σ (a + 1)]
      obtain ⟨f', rfl⟩ : ∃ f', fu = f' + 1 := ⟨fu - 1, by omega⟩
      rw [l_Big_shiftDown_30]
      rw [if_pos (show nI 1 - 1 ≤ 0 by decide)]
      have e3 : nI 1 - 1 + nI w = nI w := by
        rw [show nI 1 - 1 = nI 0 from rfl, nI_add, Nat.zero_add]
      have i0 : rr_ix (nI 1 - 1) (N (a + 1)) = true := ix_nI (k := 0) (by omega) (by omega)
      have m0 : rr_n (nI 1 - 1) = 0 := rfl
      rw [e3]
      simp only [mw_r, hr]
      rw [big_digitAt hr hN hn hi (by omega), if_neg (by omega)]
      simp only [Option.bind, i0, m0, if_true, mw_ms]
      have hlt := dl_lt hb.1.1
      have hbz := hb.1.2
      have htop := bt_top hb.1
      have hval : ((mg_l σ (a + 1) n >>> ((30 : Int32).toInt64 &&& 63)) >>> ((nI p).toInt64 &&& 63)).toInt = z' := by
        rw [jshr _ (by omega), js30]
        by_cases hz0 : z' = 0
        · have hn0 : n = 0 := by
            rcases Nat.eq_zero_or_pos n with h | h
            · exact h
            · exfalso
              have := bd_big hb h
              have := pB_pos n
              rw [hz, hz0] at *
              omega
          subst hn0
          rw [hz0] at hz
          simp [dv] at hz
          rw [hz, hz0]
          simp
        · have hle : (1073741824 : Int) ^ (n + 1) ≤ 1073741824 ^ w := pw_mono (by decide) hnw
          rw [hz, hsw] at hbz
          have hP : (1073741824 : Int) ^ (n + 1) ≤ 1073741824 ^ w * 2 ^ p := by
            have := Int.mul_le_mul_of_nonneg_left (show (1 : Int) ≤ 2 ^ p by omega) (Int.le_of_lt hpw)
            omega
          have hP2 : (1073741824 : Int) ^ w * 2 ^ p ≤ 1073741824 ^ (n + 1) := by
            rcases Int.lt_or_gt_of_ne hz0 with h | h
            · have := Int.mul_le_mul_of_nonneg_left (show z' ≤ -1 by omega) (show (0 : Int) ≤ 1073741824 ^ w * 2 ^ p by have := Int.mul_pos hpw hpp; omega)
              omega
            · have := Int.mul_le_mul_of_nonneg_left (show 1 ≤ z' by omega) (show (0 : Int) ≤ 1073741824 ^ w * 2 ^ p by have := Int.mul_pos hpw hpp; omega)
              omega
          have hQ : (1073741824 : Int) ^ w * 2 ^ p = 1073741824 ^ (n + 1) := by omega
          have hw2 : w = n + 1 := by
            apply Nat.le_antisymm _ (by omega)
            apply Nat.le_of_not_lt
            intro h
            have h3 : (1073741824 : Int) ^ (n + 2) ≤ 1073741824 ^ w := pw_mono (by decide) h
            have h4 := Int.mul_le_mul_of_nonneg_left (show (1 : Int) ≤ 2 ^ p by omega) (Int.le_of_lt hpw)
            have := pB_pos (n + 1)
            rw [pB_s (n + 1)] at h3
            omega
          have hp1 : (2 : Int) ^ p = 1 := by
            rw [hw2] at hQ
            have := Int.eq_of_mul_eq_mul_left (Int.ne_of_gt (pB_pos (n + 1))) (hQ.trans (Int.mul_one _).symm)
            exact this
          rw [hp1, Int.ediv_one]
          rw [hsw, hQ] at hz
          simp only [dv, pB_s] at hz
          have hpn := pB_pos n
          rw [hQ, pB_s] at hbz
          have hzz : z' = 1 ∨ z' = -1 := by
            have h5 : z' ≤ 1 := by
              apply Int.not_lt.mp
              intro h
              have := Int.mul_le_mul_of_nonneg_left (show 2 ≤ z' by omega) (show (0 : Int) ≤ 1073741824 ^ n * 1073741824 by omega)
              omega
            have h6 : -1 ≤ z' := by
              apply Int.not_lt.mp
              intro h
              have := Int.mul_le_mul_of_nonneg_left (show z' ≤ -2 by omega) (show (0 : Int) ≤ 1073741824 ^ n * 1073741824 by omega)
              omega
            omega
          have ht : (mg_l σ (a + 1) n).toInt = 1073741824 * z' := by
            have h7 : ((mg_l σ (a + 1) n).toInt - 1073741824 * z') * 1073741824 ^ n = - dv (mg_l σ (a + 1)) n := by
              generalize (1073741824 : Int) ^ n = P at *
              grind
            have h8 : (mg_l σ (a + 1) n).toInt - 1073741824 * z' = 0 := by
              rcases Int.lt_trichotomy ((mg_l σ (a + 1) n).toInt - 1073741824 * z') 0 with h | h | h
              · have := Int.mul_le_mul_of_nonneg_right (show (mg_l σ (a + 1) n).toInt - 1073741824 * z' ≤ -1 by omega) (Int.le_of_lt hpn)
                omega
              · exact h
              · have := Int.mul_le_mul_of_nonneg_right (show 1 ≤ (mg_l σ (a + 1) n).toInt - 1073741824 * z' by omega) (Int.le_of_lt hpn)
                omega
            omega
          rw [ht]
          omega
      have hsm : -1073741824 ≤ z' ∧ z' ≤ 1073741824 := by
        rw [← hval, jshr _ (by omega), js30]
        have h9 : -1 ≤ (mg_l σ (a + 1) n).toInt / 1073741824 ∧ (mg_l σ (a + 1) n).toInt / 1073741824 ≤ 1 := by omega
        generalize (mg_l σ (a + 1) n).toInt / 1073741824 = q at *
        constructor
        · have := (Int.le_ediv_iff_mul_le (a := -1) (b := q) hpp).mpr (by omega)
          omega
        · have := Int.ediv_le_self (b := 2 ^ p) (a := 1) (by decide)
          have := Int.ediv_le_ediv hpp h9.2
          omega
      have hg1 : dv (vp_updL (mg_l σ (a + 1)) 0 ((mg_l σ (a + 1) n >>> ((30 : Int32).toInt64 &&& 63)) >>> ((nI p).toInt64 &&& 63))) (0 + 1) = z' := by
        simp only [dv, upL_s, hval]
        simp
      refine wq_bd (wq_mo (big_trim (n := 0) hr (by omega) (by omega) (by omega) ⟨fun j hj => absurd hj (by omega), ?_, ?_⟩) ?_)
      · rw [hg1]; simp; omega
      · rw [hg1]; simp; omega
      · rintro y ⟨g2, m, q1, q2, q3, q4⟩
        refine wq_some ⟨g2, m, ?_, q2, by omega, by rw [q4, hg1]⟩
        rw [mw_id]
        exact q1
    · -- the usual case
      rw [Nat.max_eq_left (by omega), show n + 1 - w = n - w + 1 by omega]
      have hlow : dv (mg_l σ (a + 1)) w = 0 ∧ dv (fun j => mg_l σ (a + 1) (w + j)) (n + 1 - w) = 2 ^ p * z' := by
        have e4 := dv_split (mg_l σ (a + 1)) w (n + 1 - w)
        rw [show w + (n + 1 - w) = n + 1 by omega, hz, hsw] at e4
        have hlt := dl_lt (g := mg_l σ (a + 1)) (n := w) (fun j hj => hb.1.1 j (by omega))
        generalize dv (fun j => mg_l σ (a + 1) (w + j)) (n + 1 - w) = V at *
        generalize (1073741824 : Int) ^ w = P at *
        have h7 : (2 ^ p * z' - V) * P = dv (mg_l σ (a + 1)) w := by grind
        have h8 : 2 ^ p * z' - V = 0 := by
          rcases Int.lt_trichotomy (2 ^ p * z' - V) 0 with h | h | h
          · have := Int.mul_le_mul_of_nonneg_right (show 2 ^ p * z' - V ≤ -1 by omega) (Int.le_of_lt hpw)
            omega
          · exact h
          · have := Int.mul_le_mul_of_nonneg_right (show 1 ≤ 2 ^ p * z' - V by omega) (Int.le_of_lt hpw)
            omega
        rw [h8] at h7
        omega
      have key : wq (l_Big_shiftDown_30 fu N a (nI w) (nI p) (nI (n - w + 1)) fu (nI 0) (mw_l σ (a + 1) (mg_l σ (a + 1))) (fun σ_14 =>
          Option.bind (f_Big_digitAt N a (nI (n - w + 1) - 1 + nI w) σ_14) fun r_16 =>
            if rr_ix (nI (n - w + 1) - 1) (N (mg_r σ_14 a 0)) = true then
              rr_bd (f_Big_trim fu N a (nI (n - w + 1)) (ms_l σ_14 (mg_r σ_14 a 0) (rr_n (nI (n - w + 1) - 1)) (r_16 >>> ((nI p).toInt64 &&& 63)))) fun _ σ_19 => some ((), σ_19)
            else none)) (fun y => ∃ (g' : Nat → Int64) (m : Nat), y.2 = bpt σ a g' m ∧ bd g' m ∧ m < N (a + 1) ∧ dv g' (m + 1) = z') := by
        refine big_shd_l (n := n) (w := w) (p := p) (g0 := mg_l σ (a + 1)) hr hN hn hi hb.1 hnw hp30 ?_ fu 0 _ (by omega) (by omega) (fun _ _ => rfl) (fun j hj => absurd hj (by omega)) (by simp [dv])
        intro g hg hd hv
        have e5 : nI (n - w + 1) - 1 = nI (n - w) := nI_pred _
        have i1 : rr_ix (nI (n - w)) (N (a + 1)) = true := ix_nI (by omega) (by omega)
        have m1 : rr_n (nI (n - w)) = n - w := n_nI (by omega)
        rw [e5, nI_add, big_digitAt hr hN hn hi (by omega), if_pos (by omega)]
        simp only [Option.bind, mw_r, hr, i1, m1, if_true, mw_ms]
        have hgn : g (n - w + w) = mg_l σ (a + 1) n := by
          rw [hg _ (by omega)]
          congr 1
          omega
        rw [hgn]
        have hval : 2 ^ p * dv (vp_updL g (n - w) (mg_l σ (a + 1) n >>> ((nI p).toInt64 &&& 63))) (n - w + 1) + (mg_l σ (a + 1) w).toInt % 2 ^ p = 2 ^ p * z' := by
          rw [dv, dv_up_hi (Nat.le_refl _), upL_s, jshr _ (by omega)]
          have h1 := hlow.2
          rw [show n + 1 - w = n - w + 1 by omega, dv, show w + (n - w) = n by omega] at h1
          have e9 := Int.emod_add_mul_ediv (mg_l σ (a + 1) n).toInt (2 ^ p)
          rw [← h1]
          generalize (mg_l σ (a + 1) n).toInt / 2 ^ p = d at *
          generalize (mg_l σ (a + 1) n).toInt % 2 ^ p = r at *
          rw [← e9]
          generalize (1073741824 : Int) ^ (n - w) = P at *
          generalize (2 : Int) ^ p = P' at *
          grind
        have hr0 := Int.emod_nonneg (mg_l σ (a + 1) w).toInt (Int.ne_of_gt hpp)
        have hr1 := Int.emod_lt_of_pos (mg_l σ (a + 1) w).toInt hpp
        have hfin : dv (vp_updL g (n - w) (mg_l σ (a + 1) n >>> ((nI p).toInt64 &&& 63))) (n - w + 1) = z' := by
          generalize dv (vp_updL g (n - w) (mg_l σ (a + 1) n >>> ((nI p).toInt64 &&& 63))) (n - w + 1) = Y at *
          have h7 : (z' - Y) * 2 ^ p = (mg_l σ (a + 1) w).toInt % 2 ^ p := by grind
          generalize (mg_l σ (a + 1) w).toInt % 2 ^ p = r at *
          have h8 : z' - Y = 0 := by
            rcases Int.lt_trichotomy (z' - Y) 0 with h | h | h
            · have := Int.mul_le_mul_of_nonneg_right (show z' - Y ≤ -1 by omega) (Int.le_of_lt hpp)
              omega
            · exact h
            · have := Int.mul_le_mul_of_nonneg_right (show 1 ≤ z' - Y by omega) (Int.le_of_lt hpp)
              omega
          omega
        have hzb : -(1073741824 : Int) ^ (n - w + 1) ≤ z' ∧ z' ≤ 1073741824 ^ (n - w + 1) := by
          have hbz := hb.1.2
          rw [hz, hsw] at hbz
          have e10 : (1073741824 : Int) ^ (n + 1) = 1073741824 ^ w * 1073741824 ^ (n - w + 1) := by
            rw [← Int.pow_add]; congr 1; omega
          rw [e10] at hbz
          have hge : (1073741824 : Int) ^ w ≤ 1073741824 ^ w * 2 ^ p := by
            have := Int.mul_le_mul_of_nonneg_left (show (1 : Int) ≤ 2 ^ p by omega) (Int.le_of_lt hpw)
            omega
          constructor
          · apply Int.not_lt.mp
            intro h
            have hneg : z' < 0 := by have := pB_pos (n - w + 1); omega
            have h3 : (1073741824 : Int) ^ w * 2 ^ p * z' ≤ 1073741824 ^ w * z' := Int.mul_le_mul_of_nonpos_right hge (by omega)
            have h4 := Int.mul_le_mul_of_nonneg_left (show z' ≤ -(1073741824 : Int) ^ (n - w + 1) - 1 by omega) (Int.le_of_lt hpw)
            rw [Int.mul_sub, Int.mul_neg, Int.mul_one] at h4
            omega
          · apply Int.not_lt.mp
            intro h
            have hneg : 0 < z' := by have := pB_pos (n - w + 1); omega
            have h3 : (1073741824 : Int) ^ w * z' ≤ 1073741824 ^ w * 2 ^ p * z' := Int.mul_le_mul_of_nonneg_right hge (by omega)
            have h4 := Int.mul_le_mul_of_nonneg_left (show (1073741824 : Int) ^ (n - w + 1) + 1 ≤ z' by omega) (Int.le_of_lt hpw)
            rw [Int.mul_add, Int.mul_one] at h4
            omega
        refine wq_bd (wq_mo (big_trim (n := n - w) hr (by omega) (by omega) (by omega) ⟨?_, ?_, ?_⟩) ?_)
        · intro j hj
          rw [upL_n (by omega)]
          exact hd j hj
        · rw [hfin]; exact hzb.1
        · rw [hfin]; exact hzb.2
        · rintro y ⟨g2, m, q1, q2, q3, q4⟩
          exact wq_some ⟨g2, m, q1, q2, by omega, by rw [q4, hfin]⟩
      rw [mw_id] at key
      exact key
