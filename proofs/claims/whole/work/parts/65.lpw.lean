/-! ===== limbs: powers of 2; a digit of a quotient ===== -/
theorem sh16 : ∀ r, r < 16 → ((1 : Int32) <<< (nI r &&& 31)).toInt = 2 ^ r := by decide +kernel
theorem lim_pow_l {fu C t s : Nat} {σ0 : rr_M} (ht : t < 460) (hs : s < 3000) (hm0 : mrf C σ0) {kk : rr_M → Option (Unit × rr_M)} {Q : Unit × rr_M → Prop}
    (hk : ∀ (σ : rr_M), onl C t σ0 σ → (∀ j, j < s / 16 → mg_i σ (C + 1) (200 * t + j) = 0) → (mg_i σ (C + 1) (200 * t + s / 16)).toInt = 2 ^ (s % 16) → wq (kk σ) Q) :
    ∀ (f k : Nat) (σ : rr_M), k ≤ s / 16 + 1 → s / 16 + 2 - k ≤ f → onl C t σ0 σ → (∀ j, j < s / 16 → j < k → mg_i σ (C + 1) (200 * t + j) = 0) → (s / 16 < k → (mg_i σ (C + 1) (200 * t + s / 16)).toInt = 2 ^ (s % 16)) →
      wq (l_Mod_setsPower_2 fu (nm C) C (nI t) (nI s) f (nI k) σ kk) Q
  | 0, k, σ, h1, h2, _, _, _ => by omega
  | f + 1, k, σ, h1, h2, ho, q1, q2 => by
    have hm := mrf_of hm0 ho.1
    have e1 : nI s / 16 = nI (s / 16) := nI_div (b := 16) (by omega) (by omega)
    have e2 : nI s - nI (s / 16) * 16 = nI (s % 16) := by
      rw [show (16 : Int32) = nI 16 from rfl, nI_mul, nI_sub (by omega)]
      congr 1
      omega
    rw [l_Mod_setsPower_2, e1]
    by_cases hkn : k = s / 16 + 1
    · exact wq_ip (nI_lt (by omega) (by omega)) (hk σ ho (fun j hj => q1 j hj (by omega)) (q2 (by omega)))
    · have c0 : ¬ nI (s / 16) < nI k := nI_nlt (by omega) (by omega)
      have mt : rr_n (nI (200 * t + k)) = 200 * t + k := n_nI (by omega)
      simp only [rr_lt, rr_jn, if_neg c0, mrf_1 hm, e200, ix1 (C := C) (show 200 * t + k < 92000 by omega), mt, if_true, nI_1, e2]
      by_cases hks : k = s / 16
      · rw [if_pos (by rw [hks])]
        refine lim_pow_l ht hs hm0 hk f (k + 1) _ (by omega) (by omega) (onl_tr ho (onl_limb (by omega) (by omega))) ?_ ?_
        · intro j hj hj2
          rw [si_n (Or.inr (by omega))]
          exact q1 j hj (by omega)
        · intro _
          rw [← hks, si_s, sh16 _ (by omega)]
      · rw [if_neg (fun h => hks ((nI_eq (by omega) (by omega)).mp h))]
        refine lim_pow_l ht hs hm0 hk f (k + 1) _ (by omega) (by omega) (onl_tr ho (onl_limb (by omega) (by omega))) ?_ ?_
        · intro j hj hj2
          by_cases hjk : j = k
          · subst hjk; rw [si_s]
          · rw [si_n (Or.inr (by omega))]; exact q1 j hj (by omega)
        · intro h; omega
theorem lo_pow {fu C t s : Nat} {σ : rr_M} (hfu : 400 < fu) (hm : mrf C σ) (ht : t < 460) (hs : s < 3000) : wq (f_Mod_setsPower fu (nm C) C (nI t) (nI s) σ) (fun r => lm C r.2 t (2 ^ s) ∧ onl C t σ r.2) := by
  unfold f_Mod_setsPower
  refine lim_pow_l (σ0 := σ) ht hs hm ?_ fu 0 σ (by omega) (by omega) (onl_rfl _ _ _) (fun j _ h => absurd h (by omega)) (fun h => absurd h (by omega))
  intro σ1 o1 z1 z2
  have hm1 := mrf_of hm o1.1
  have e1 : nI s / 16 = nI (s / 16) := nI_div (b := 16) (by omega) (by omega)
  have mt : rr_n (nI t) = t := n_nI (by omega)
  simp only [rr_lt, mrf_2 hm1, mrf_3 hm1, si_r, ix2 (C := C) ht, ix3 (C := C) ht, mt, if_true, e1, nI_1]
  have hp : (0 : Int) < 2 ^ s := p2_pos s
  have hr : (2 : Int) ^ (s % 16) < 65536 := by
    have h1 := pw_mono (b := 2) (by decide) (show s % 16 ≤ 15 by omega)
    have : (2 : Int) ^ 15 = 32768 := rfl
    omega
  have hlv : lv (mg_i σ1 (C + 1)) (200 * t) (s / 16 + 1) = 2 ^ s := by
    rw [lv, lv_z z1, z2, Int.zero_add, show (65536 : Int) = 2 ^ 16 from rfl, ← Int.pow_mul, ← Int.pow_add]
    congr 1
    omega
  refine wq_some ⟨⟨s / 16 + 1, by omega, ?_, ?_, ?_, ?_, ?_⟩, onl_tr o1 (onl_tr onl_long onl_sign)⟩
  · show mg_i (ms_i (ms_i σ1 (C + 2) t _) (C + 3) t _) (C + 2) t = _
    rw [si_row (by omega), si_s]
  · show lok (mg_i (ms_i (ms_i σ1 (C + 2) t _) (C + 3) t _) (C + 1)) (200 * t) (s / 16 + 1)
    rw [si_row (by omega), si_row (by omega)]
    intro j hj
    by_cases hj2 : j < s / 16
    · rw [z1 j hj2]; decide
    · rw [show j = s / 16 by omega, z2]
      have := p2_pos (s % 16)
      omega
  · intro _
    show (mg_i (ms_i (ms_i σ1 (C + 2) t _) (C + 3) t _) (C + 1) (200 * t + (s / 16 + 1 - 1))).toInt ≠ 0
    rw [si_row (by omega), si_row (by omega), Nat.add_sub_cancel, z2]
    have := p2_pos (s % 16)
    omega
  · show lv (mg_i (ms_i (ms_i σ1 (C + 2) t _) (C + 3) t _) (C + 1)) (200 * t) (s / 16 + 1) = _
    rw [si_row (by omega), si_row (by omega), hlv]
    omega
  · show (mg_i (ms_i (ms_i σ1 (C + 2) t _) (C + 3) t _) (C + 3) t).toInt = _
    rw [si_s, Int.sign_eq_one_of_pos hp]
    rfl
-- a digit of a quotient
def qv (g : Nat → Int64) (o : Nat) : Nat → Int
  | 0 => 0
  | n + 1 => qv g o n + (g (o + n)).toInt * 65536 ^ n
def qok (g : Nat → Int64) (o n : Nat) : Prop := ∀ k, k < n → 0 ≤ (g (o + k)).toInt ∧ (g (o + k)).toInt < 65536
theorem qok_lt {g : Nat → Int64} {o : Nat} : ∀ {n : Nat}, qok g o n → 0 ≤ qv g o n ∧ qv g o n < 65536 ^ n
  | 0, _ => by simp [qv]
  | n + 1, h => by
    obtain ⟨h1, h2⟩ := qok_lt (n := n) (fun k hk => h k (by omega))
    obtain ⟨h3, h4⟩ := h n (by omega)
    have hp := pL_pos n
    simp only [qv, pL_s]
    have h5 : (g (o + n)).toInt * 65536 ^ n ≤ 65535 * 65536 ^ n := Int.mul_le_mul_of_nonneg_right (by omega) (by omega)
    have h6 : 0 ≤ (g (o + n)).toInt * 65536 ^ n := Int.mul_nonneg h3 (by omega)
    omega
theorem qv_congr {g g' : Nat → Int64} {o o' : Nat} : ∀ {n : Nat}, (∀ k, k < n → g (o + k) = g' (o' + k)) → qv g o n = qv g' o' n
  | 0, _ => rfl
  | n + 1, h => by simp only [qv]; rw [qv_congr (fun k hk => h k (by omega)), h n (by omega)]
theorem qv_split (g : Nat → Int64) (o k : Nat) : ∀ m, qv g o (k + m) = qv g o k + 65536 ^ k * qv g (o + k) m
  | 0 => by simp [qv]
  | m + 1 => by
    rw [← Nat.add_assoc, qv, qv_split g o k m, qv, Int.pow_add, Nat.add_assoc]
    generalize (65536 : Int) ^ k = P
    generalize (65536 : Int) ^ m = P'
    grind
theorem cut16 {v : Int64} (h1 : -9000000000000000000 < v.toInt) (h2 : v.toInt < 9000000000000000000) :
    (((v - v / 65536 * 65536) + 65536) - ((v - v / 65536 * 65536) + 65536) / 65536 * 65536).toInt = v.toInt % 65536 := by
  have e : (65536 : Int64).toInt = 65536 := rfl
  have h3 := Jvm.Kit.i64_rem v 65536
  rw [e] at h3
  have htm : v.toInt.tmod 65536 = if 0 ≤ v.toInt then v.toInt % 65536 else -((-v.toInt) % 65536) := by
    split
    · rename_i h
      rw [Int.tmod_eq_emod_of_nonneg h]
    · have h4 : v.toInt.tmod 65536 = -((-v.toInt).tmod 65536) := by rw [Int.neg_tmod, Int.neg_neg]
      rw [h4, Int.tmod_eq_emod_of_nonneg (by omega)]
  have hb : -65536 < v.toInt.tmod 65536 ∧ v.toInt.tmod 65536 < 65536 ∧ (v.toInt.tmod 65536 + 65536) % 65536 = v.toInt % 65536 := by
    rw [htm]
    split <;> omega
  have e2 : ((v - v / 65536 * 65536) + 65536).toInt = v.toInt.tmod 65536 + 65536 := by
    rw [j_add (by rw [h3, e]; omega) (by rw [h3, e]; omega), h3, e]
  rw [jr16 (by rw [e2]; omega), e2]
  exact hb.2.2
theorem ix4 {C k : Nat} (hs : k < 401) : rr_ix (nI k) (nm C (C + 4)) = true := by rw [nm_4]; exact ix_nI hs (by omega)
theorem ix5 {C k : Nat} (hs : k < 201) : rr_ix (nI k) (nm C (C + 5)) = true := by rw [nm_5]; exact ix_nI hs (by omega)
theorem dig_sub {fu C j n : Nat} {σ : rr_M} {q : Int64} {d g0 : Nat → Int64} (hm : mrf C σ) (hjn : j + n < 401) (hn : n < 201) (hd : mg_l σ (C + 5) = d) (hdk : qok d 0 n) (hq1 : 0 ≤ q.toInt) (hq2 : q.toInt < 65536) (hg0 : qok g0 j n) {kk : Int64 → rr_M → Option (Int32 × rr_M)} {Q : Int32 × rr_M → Prop}
    (hk : ∀ (g : Nat → Int64) (l : Int64), (∀ i, (i < j ∨ j + n ≤ i) → g i = g0 i) → qok g j n → 0 ≤ l.toInt → l.toInt ≤ 65536 → qv g j n - l.toInt * 65536 ^ n = qv g0 j n - q.toInt * qv d 0 n → wq (kk l (mw_l σ (C + 4) g)) Q) :
    ∀ (f k : Nat) (l : Int64) (g : Nat → Int64), k ≤ n → n + 1 - k ≤ f → (∀ i, (i < j ∨ j + k ≤ i) → g i = g0 i) → qok g j k → 0 ≤ l.toInt → l.toInt ≤ 65536 → qv g j k - l.toInt * 65536 ^ k = qv g0 j k - q.toInt * qv d 0 k →
      wq (l_Mod_digit_131 fu (nm C) C (nI j) (nI n) q f l (nI k) (mw_l σ (C + 4) g) kk) Q
  | 0, k, l, g, h1, h2, _, _, _, _, _ => by omega
  | f + 1, k, l, g, h1, h2, hg, hgk, hl1, hl2, hv => by
    rw [l_Mod_digit_131]
    by_cases hkn : k = n
    · subst hkn
      exact wq_ip (nI_le (Nat.le_refl _) (by omega)) (hk g l hg hgk hl1 hl2 hv)
    · have c0 : ¬ nI n ≤ nI k := nI_ge (by omega) (by omega)
      have m1 : rr_n (nI (j + k)) = j + k := n_nI (by omega)
      have m2 : rr_n (nI k) = k := n_nI (by omega)
      have r5 : mg_l (mw_l σ (C + 4) g) (C + 5) = d := by rw [mw_gn _ (by omega), hd]
      have xg : g (j + k) = g0 (j + k) := hg _ (Or.inr (Nat.le_refl _))
      simp only [rr_lt, if_neg c0, mw_r, mrf_4 hm, mrf_5 hm, nI_add, ix4 (C := C) (show j + k < 401 by omega), ix5 (C := C) (show k < 201 by omega), m1, m2, if_true, mw_gsk, r5, mw_ms, nI_1, xg]
      have xd := hdk k (by omega)
      rw [Nat.zero_add] at xd
      have xg0 := hg0 k (by omega)
      have hxy : 0 ≤ q.toInt * (d k).toInt ∧ q.toInt * (d k).toInt ≤ 65535 * 65535 := by
        refine ⟨Int.mul_nonneg hq1 xd.1, Int.mul_le_mul (by omega) (by omega) xd.1 (by omega)⟩
      have e1 : (q * d k).toInt = q.toInt * (d k).toInt := j_mul (by omega) (by omega)
      have e2 : (g0 (j + k) - q * d k).toInt = (g0 (j + k)).toInt - q.toInt * (d k).toInt := by rw [j_sub (by rw [e1]; omega) (by rw [e1]; omega), e1]
      have e3 : (g0 (j + k) - q * d k - l).toInt = (g0 (j + k)).toInt - q.toInt * (d k).toInt - l.toInt := by rw [j_sub (by rw [e2]; omega) (by rw [e2]; omega), e2]
      have r1 := cut16 (v := g0 (j + k) - q * d k - l) (by omega) (by omega)
      generalize g0 (j + k) - q * d k - l = v at *
      generalize ((v - v / 65536 * 65536) + 65536) - ((v - v / 65536 * 65536) + 65536) / 65536 * 65536 = cut at *
      have e4 : (cut - v).toInt = v.toInt % 65536 - v.toInt := by rw [j_sub (by omega) (by omega), r1]
      have e5 : ((cut - v) / 65536).toInt = -(v.toInt / 65536) := by rw [jq16 (by omega), e4]; omega
      refine dig_sub hm hjn hn hd hdk hq1 hq2 hg0 hk f (k + 1) _ _ (by omega) (by omega) ?_ ?_ ?_ ?_ ?_
      · intro i hi
        rw [upL_n (by omega)]
        exact hg i (by omega)
      · intro i hi
        by_cases hik : i = k
        · subst hik; rw [upL_s, r1]; omega
        · rw [upL_n (by omega)]; exact hgk i (by omega)
      · rw [e5]
        have : 65535 * 65535 < 65536 * 65536 := by decide
        omega
      · rw [e5]
        omega
      · rw [qv, upL_s, qv_congr (g' := g) (o' := j) (fun i hi => upL_n (by omega)), e5, r1, qv, qv, Nat.zero_add, pL_s]
        have := Int.emod_add_mul_ediv v.toInt 65536
        generalize v.toInt % 65536 = r at *
        generalize v.toInt / 65536 = u at *
        generalize (65536 : Int) ^ k = P at *
        grind
theorem dig_add {fu C j n : Nat} {σ : rr_M} {d g0 : Nat → Int64} (hm : mrf C σ) (hjn : j + n < 401) (hn : n < 201) (hd : mg_l σ (C + 5) = d) (hdk : qok d 0 n) (hg0 : qok g0 j n) {kk : Int64 → rr_M → Option (Int32 × rr_M)} {Q : Int32 × rr_M → Prop}
    (hk : ∀ (g : Nat → Int64) (l : Int64), (∀ i, (i < j ∨ j + n ≤ i) → g i = g0 i) → qok g j n → 0 ≤ l.toInt → l.toInt ≤ 1 → qv g j n + l.toInt * 65536 ^ n = qv g0 j n + qv d 0 n → wq (kk l (mw_l σ (C + 4) g)) Q) :
    ∀ (f k : Nat) (l : Int64) (g : Nat → Int64), k ≤ n → n + 1 - k ≤ f → (∀ i, (i < j ∨ j + k ≤ i) → g i = g0 i) → qok g j k → 0 ≤ l.toInt → l.toInt ≤ 1 → qv g j k + l.toInt * 65536 ^ k = qv g0 j k + qv d 0 k →
      wq (l_Mod_digit_246 fu (nm C) C (nI j) (nI n) f l (nI k) (mw_l σ (C + 4) g) kk) Q
  | 0, k, l, g, h1, h2, _, _, _, _, _ => by omega
  | f + 1, k, l, g, h1, h2, hg, hgk, hl1, hl2, hv => by
    rw [l_Mod_digit_246]
    by_cases hkn : k = n
    · subst hkn
      exact wq_ip (nI_le (Nat.le_refl _) (by omega)) (hk g l hg hgk hl1 hl2 hv)
    · have c0 : ¬ nI n ≤ nI k := nI_ge (by omega) (by omega)
      have m1 : rr_n (nI (j + k)) = j + k := n_nI (by omega)
      have m2 : rr_n (nI k) = k := n_nI (by omega)
      have r5 : mg_l (mw_l σ (C + 4) g) (C + 5) = d := by rw [mw_gn _ (by omega), hd]
      have xg : g (j + k) = g0 (j + k) := hg _ (Or.inr (Nat.le_refl _))
      simp only [rr_lt, if_neg c0, mw_r, mrf_4 hm, mrf_5 hm, nI_add, ix4 (C := C) (show j + k < 401 by omega), ix5 (C := C) (show k < 201 by omega), m1, m2, if_true, mw_gsk, r5, mw_ms, nI_1, xg]
      have xd := hdk k (by omega)
      rw [Nat.zero_add] at xd
      have xg0 := hg0 k (by omega)
      have e2 : (g0 (j + k) + d k).toInt = (g0 (j + k)).toInt + (d k).toInt := j_add (by omega) (by omega)
      have e3 : (g0 (j + k) + d k + l).toInt = (g0 (j + k)).toInt + (d k).toInt + l.toInt := by rw [j_add (by rw [e2]; omega) (by rw [e2]; omega), e2]
      generalize g0 (j + k) + d k + l = v at *
      have r1 := jr16 (x := v) (by omega)
      have r2 := jq16 (x := v) (by omega)
      generalize v / 65536 = q at *
      refine dig_add hm hjn hn hd hdk hg0 hk f (k + 1) _ _ (by omega) (by omega) ?_ ?_ (by omega) (by omega) ?_
      · intro i hi
        rw [upL_n (by omega)]
        exact hg i (by omega)
      · intro i hi
        by_cases hik : i = k
        · subst hik; rw [upL_s, r1]; omega
        · rw [upL_n (by omega)]; exact hgk i (by omega)
      · rw [qv, upL_s, qv_congr (g' := g) (o' := j) (fun i hi => upL_n (by omega)), r1, r2, qv, qv, Nat.zero_add, pL_s]
        have := Int.emod_add_mul_ediv v.toInt 65536
        generalize v.toInt % 65536 = r at *
        generalize v.toInt / 65536 = u at *
        generalize (65536 : Int) ^ k = P at *
        grind
