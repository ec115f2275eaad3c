/-! ===== limbs: put, copy, trim, compare ===== -/
theorem jq16 {x : Int64} (h : 0 ≤ x.toInt) : (x / 65536).toInt = x.toInt / 65536 := by
  have e : (65536 : Int64).toInt = 65536 := rfl
  rw [Jvm.Kit.i64_div (by rw [e]; omega), e, Int.tdiv_eq_ediv_of_nonneg h]
theorem jr16 {x : Int64} (h : 0 ≤ x.toInt) : (x - x / 65536 * 65536).toInt = x.toInt % 65536 := by
  have e : (65536 : Int64).toInt = 65536 := rfl
  rw [Jvm.Kit.i64_rem_nonneg h, e]
theorem jr16' {x : Int64} (h : 0 ≤ x.toInt) : ((x - x / 65536 * 65536).toInt32).toInt = x.toInt % 65536 := by
  rw [Jvm.Kit.i32_of_i64 (by rw [jr16 h]; omega) (by rw [jr16 h]; omega), jr16 h]
theorem iq16 {x : Int32} (h : 0 ≤ x.toInt) : (x / 65536).toInt = x.toInt / 65536 := by
  have e : (65536 : Int32).toInt = 65536 := rfl
  rw [Jvm.Kit.i32_div (by rw [e]; omega), e, Int.tdiv_eq_ediv_of_nonneg h]
theorem i_lo (x : Int32) : -2147483648 ≤ x.toInt ∧ x.toInt < 2147483648 := ⟨Int32.le_toInt x, Int32.toInt_lt x⟩
theorem ir16 {x : Int32} (h : 0 ≤ x.toInt) : (x - x / 65536 * 65536).toInt = x.toInt % 65536 := by
  have e : (65536 : Int32).toInt = 65536 := rfl
  have hx := i_lo x
  have e1 : (x / 65536 * 65536).toInt = x.toInt / 65536 * 65536 := by
    rw [Jvm.Kit.i32_mul (by rw [iq16 h, e]; omega) (by rw [iq16 h, e]; omega), iq16 h, e]
  rw [Jvm.Kit.i32_sub (by rw [e1]; omega) (by rw [e1]; omega), e1]
  omega
theorem ix2 {C s : Nat} (hs : s < 460) : rr_ix (nI s) (nm C (C + 2)) = true := by rw [nm_2]; exact ix_nI hs (by omega)
theorem ix3 {C s : Nat} (hs : s < 460) : rr_ix (nI s) (nm C (C + 3)) = true := by rw [nm_3]; exact ix_nI hs (by omega)
theorem ix1 {C k : Nat} (hs : k < 92000) : rr_ix (nI k) (nm C (C + 1)) = true := by rw [nm_1]; exact ix_nI hs (by omega)
theorem lok_top {g : Nat → Int32} {o n : Nat} (h : lok g o n) (h0 : 0 < n) (hv : (65536 : Int) ^ (n - 1) ≤ lv g o n) : (g (o + (n - 1))).toInt ≠ 0 := by
  obtain ⟨m, rfl⟩ : ∃ m, n = m + 1 := ⟨n - 1, by omega⟩
  rw [Nat.add_sub_cancel] at hv ⊢
  intro h1
  have h2 := lok_lt (n := m) (fun k hk => h k (by omega))
  rw [lv, h1] at hv
  omega
theorem lim_sets_l {fu C s : Nat} {σ0 : rr_M} (hs : s < 460) {kk : Int32 → rr_M → Option (Unit × rr_M)} {Q : Unit × rr_M → Prop} {A : Int} (hA : A < 9223372036854775808)
    (hk : ∀ (σ : rr_M) (n : Nat), onl C s σ0 σ → n ≤ 4 → lok (mg_i σ (C + 1)) (200 * s) n → lv (mg_i σ (C + 1)) (200 * s) n = A → (0 < n → (65536 : Int) ^ (n - 1) ≤ A) → wq (kk (nI n) σ) Q) :
    ∀ (f n : Nat) (L : Int64) (σ : rr_M), 5 - n ≤ f → mrf C σ → onl C s σ0 σ → n ≤ 4 → 0 ≤ L.toInt → lok (mg_i σ (C + 1)) (200 * s) n → lv (mg_i σ (C + 1)) (200 * s) n + L.toInt * 65536 ^ n = A → (0 < n → (65536 : Int) ^ (n - 1) ≤ A) →
      wq (l_Mod_sets_9 fu (nm C) C (nI s) f L (nI n) σ kk) Q
  | 0, n, L, σ, h1, _, _, h2, _, _, _, _ => by omega
  | f + 1, n, L, σ, h1, hm, ho, h2, hL, hd, hv, hA2 => by
    rw [l_Mod_sets_9]
    by_cases h0 : L.toInt = 0
    · have c : L ≤ 0 := by rw [Int64.le_iff_toInt_le, h0]; decide
      refine wq_ip c (hk σ n ho h2 hd ?_ hA2)
      rw [h0] at hv
      omega
    · have c : ¬ L ≤ 0 := by rw [Int64.le_iff_toInt_le, show (0 : Int64).toInt = 0 from rfl]; omega
      have hlt := lok_lt hd
      have hp := pL_pos n
      have hn4 : n < 4 := by
        apply Nat.lt_of_not_le
        intro h
        have : n = 4 := by omega
        subst this
        have := Int.mul_le_mul_of_nonneg_right (show 1 ≤ L.toInt by omega) (Int.le_of_lt hp)
        have : (65536 : Int) ^ 4 = 18446744073709551616 := rfl
        omega
      have hge := Int.mul_le_mul_of_nonneg_right (show 1 ≤ L.toInt by omega) (Int.le_of_lt hp)
      have m1 : rr_n (nI (200 * s + n)) = 200 * s + n := n_nI (by omega)
      simp only [rr_lt, mrf_1 hm, e200, ix1 (C := C) (show 200 * s + n < 92000 by omega), m1, if_true, if_neg c, nI_1]
      refine lim_sets_l hs hA hk f (n + 1) _ _ (by omega) (mrf_of hm rfl) (onl_tr ho (onl_limb (by omega) (by omega))) (by omega) ?_ ?_ ?_ ?_
      · rw [jq16 hL]; omega
      · intro k hk2
        by_cases hkn : k = n
        · subst hkn; rw [si_s, jr16' hL]; omega
        · rw [si_n (Or.inr (by omega))]; exact hd k (by omega)
      · rw [lv, si_s, jr16' hL, jq16 hL, pL_s, ← hv, lv_congr (g' := mg_i σ (C + 1)) (o' := 200 * s) (fun k hk2 => si_n (Or.inr (by omega)))]
        have := Int.emod_add_mul_ediv L.toInt 65536
        generalize L.toInt % 65536 = r at *
        generalize L.toInt / 65536 = q at *
        generalize (65536 : Int) ^ n = P at *
        grind
      · intro _
        rw [Nat.add_sub_cancel]
        omega
theorem lo_sets {fu C s : Nat} {σ : rr_M} {v : Int64} (hfu : 400 < fu) (hm : mrf C σ) (hs : s < 460) (hv : -9223372036854775808 < v.toInt) : wq (f_Mod_sets fu (nm C) C (nI s) v σ) (fun y => lm C y.2 s v.toInt ∧ onl C s σ y.2) := by
  have hl := j_lo v
  have h0 : (0 : Int64).toInt = 0 := rfl
  obtain ⟨L, hL1, hL2⟩ : ∃ L : Int64, f_Mod_size v = some L ∧ L.toInt = v.toInt.natAbs := by
    unfold f_Mod_size
    by_cases c : (0 : Int64) ≤ v
    · exact ⟨v, by rw [if_pos c], by rw [Int64.le_iff_toInt_le, h0] at c; omega⟩
    · refine ⟨-v, by rw [if_neg c], ?_⟩
      rw [Int64.le_iff_toInt_le, h0] at c
      rw [Jvm.Kit.i64_neg (by omega)]
      omega
  unfold f_Mod_sets
  rw [hL1]
  simp only [Option.bind]
  refine lim_sets_l (σ0 := σ) (A := v.toInt.natAbs) hs (by omega) ?_ fu 0 L σ (by omega) hm (onl_rfl _ _ _) (by omega) (by omega) (fun k hk => absurd hk (by omega)) (by simp [lv, hL2]) (fun h => absurd h (by omega))
  intro σ1 n ho hn hd hlv hge
  have m1 : rr_n (nI s) = s := n_nI (by omega)
  have hm1 := mrf_of hm ho.1
  -- what the sign becomes
  have fin : ∀ t : Int32, t.toInt = v.toInt.sign → wq (if rr_ix (nI s) (nm C (C + 3)) = true then (some ((), ms_i (ms_i σ1 (C + 2) s (nI n)) (C + 3) s t) : Option (Unit × rr_M)) else none) (fun y => lm C y.2 s v.toInt ∧ onl C s σ y.2) := by
    intro t ht
    refine wq_ip (ix3 hs) (wq_some ⟨⟨n, by omega, ?_, ?_, ?_, ?_, ?_⟩, onl_tr ho (onl_tr onl_long onl_sign)⟩)
    · show mg_i (ms_i (ms_i σ1 (C + 2) s (nI n)) (C + 3) s t) (C + 2) s = nI n
      rw [si_row (by omega), si_s]
    · show lok (mg_i (ms_i (ms_i σ1 (C + 2) s (nI n)) (C + 3) s t) (C + 1)) (200 * s) n
      rw [si_row (by omega), si_row (by omega)]
      exact hd
    · intro h
      show (mg_i (ms_i (ms_i σ1 (C + 2) s (nI n)) (C + 3) s t) (C + 1) (200 * s + (n - 1))).toInt ≠ 0
      rw [si_row (by omega), si_row (by omega)]
      exact lok_top hd h (by rw [hlv]; exact hge h)
    · show lv (mg_i (ms_i (ms_i σ1 (C + 2) s (nI n)) (C + 3) s t) (C + 1)) (200 * s) n = _
      rw [si_row (by omega), si_row (by omega)]
      exact hlv
    · show (mg_i (ms_i (ms_i σ1 (C + 2) s (nI n)) (C + 3) s t) (C + 3) s).toInt = _
      rw [si_s]
      exact ht
  simp only [rr_lt, rr_jn, mrf_2 hm1, mrf_3 hm1, si_r, ix2 (C := C) hs, m1, if_true]
  by_cases c1 : (0 : Int64) ≤ v
  · rw [if_pos c1]
    rw [Int64.le_iff_toInt_le, h0] at c1
    by_cases c2 : v ≤ 0
    · rw [if_pos c2]
      rw [Int64.le_iff_toInt_le, h0] at c2
      refine fin 0 ?_
      rw [show v.toInt = 0 by omega]; rfl
    · rw [if_neg c2]
      rw [Int64.le_iff_toInt_le, h0] at c2
      refine fin 1 ?_
      rw [Int.sign_eq_one_of_pos (by omega)]; rfl
  · rw [if_neg c1]
    rw [Int64.le_iff_toInt_le, h0] at c1
    refine fin (-1) ?_
    rw [Int.sign_eq_neg_one_of_neg (by omega)]; rfl
theorem lim_copy_l {fu C s t n : Nat} {σ0 : rr_M} (hs : s < 460) (ht : t < 460) (hn : n ≤ 200) (hm0 : mrf C σ0) (hi : mg_i σ0 (C + 2) s = nI n) {kk : rr_M → Option (Unit × rr_M)} {Q : Unit × rr_M → Prop}
    (hk : ∀ (σ : rr_M), onl C t σ0 σ → mg_i σ (C + 2) = mg_i σ0 (C + 2) → mg_i σ (C + 3) = mg_i σ0 (C + 3) → (∀ j, j < n → mg_i σ (C + 1) (200 * t + j) = mg_i σ0 (C + 1) (200 * s + j)) → wq (kk σ) Q) :
    ∀ (f k : Nat) (σ : rr_M), k ≤ n → n + 1 - k ≤ f → onl C t σ0 σ → mg_i σ (C + 2) = mg_i σ0 (C + 2) → mg_i σ (C + 3) = mg_i σ0 (C + 3) → (∀ j, j < 200 → mg_i σ (C + 1) (200 * s + j) = mg_i σ0 (C + 1) (200 * s + j)) → (∀ j, j < k → mg_i σ (C + 1) (200 * t + j) = mg_i σ0 (C + 1) (200 * s + j)) →
      wq (l_Mod_copies_2 fu (nm C) C (nI t) (nI s) f (nI k) σ kk) Q
  | 0, k, σ, h1, h2, _, _, _, _, _ => by omega
  | f + 1, k, σ, h1, h2, ho, q2, q3, q4, q5 => by
    have hm := mrf_of hm0 ho.1
    have m1 : rr_n (nI s) = s := n_nI (by omega)
    rw [l_Mod_copies_2]
    simp only [rr_lt, mrf_2 hm, mrf_1 hm, ix2 (C := C) hs, m1, if_true, q2, hi]
    by_cases hkn : k = n
    · subst hkn
      exact wq_ip (nI_le (Nat.le_refl _) (by omega)) (hk σ ho q2 q3 q5)
    · have c : ¬ nI n ≤ nI k := nI_ge (by omega) (by omega)
      have m2 : rr_n (nI (200 * t + k)) = 200 * t + k := n_nI (by omega)
      rw [if_neg c, lim_at hm (by omega)]
      simp only [Option.bind, e200, ix1 (C := C) (show 200 * t + k < 92000 by omega), m2, if_true, nI_1]
      refine lim_copy_l hs ht hn hm0 hi hk f (k + 1) _ (by omega) (by omega) (onl_tr ho (onl_limb (by omega) (by omega))) (by rw [si_row (by omega)]; exact q2) (by rw [si_row (by omega)]; exact q3) ?_ ?_
      · intro j hj
        by_cases hjt : 200 * s + j = 200 * t + k
        · have : s = t := by omega
          have : j = k := by omega
          rw [hjt, si_s]
          exact q4 k (by omega) |>.trans (by congr 1; omega)
        · rw [si_n (Or.inr hjt)]; exact q4 j hj
      · intro j hj
        by_cases hjt : j = k
        · subst hjt
          rw [si_s]; exact q4 j (by omega)
        · rw [si_n (Or.inr (by omega))]; exact q5 j (by omega)
theorem lo_copies {fu C s t : Nat} {σ : rr_M} {z : Int} (hfu : 400 < fu) (hm : mrf C σ) (hs : s < 460) (ht : t < 460) (hz : lm C σ s z) : wq (f_Mod_copies fu (nm C) C (nI t) (nI s) σ) (fun y => lm C y.2 t z ∧ onl C t σ y.2) := by
  obtain ⟨n, z1, z2, z3, z4, z5, z6⟩ := hz
  unfold f_Mod_copies
  refine lim_copy_l (σ0 := σ) hs ht z1 hm z2 ?_ fu 0 σ (by omega) (by omega) (onl_rfl _ _ _) rfl rfl (fun _ _ => rfl) (fun j hj => absurd hj (by omega))
  intro σ1 ho q2 q3 q5
  have hm1 := mrf_of hm ho.1
  have m1 : rr_n (nI s) = s := n_nI (by omega)
  have m2 : rr_n (nI t) = t := n_nI (by omega)
  simp only [rr_lt, mrf_2 hm1, mrf_3 hm1, si_r, ix2 (C := C) hs, ix2 (C := C) ht, ix3 (C := C) hs, ix3 (C := C) ht, m1, m2, if_true]
  have e1 : mg_i (ms_i σ1 (C + 2) t (mg_i σ1 (C + 2) s)) (C + 3) = mg_i σ (C + 3) := by rw [si_row (by omega), q3]
  rw [e1, q2]
  refine wq_some ⟨⟨n, z1, ?_, ?_, ?_, ?_, ?_⟩, onl_tr ho (onl_tr onl_long onl_sign)⟩
  · show mg_i (ms_i (ms_i σ1 (C + 2) t _) (C + 3) t _) (C + 2) t = _
    rw [si_row (by omega), si_s, z2]
  · show lok (mg_i (ms_i (ms_i σ1 (C + 2) t _) (C + 3) t _) (C + 1)) (200 * t) n
    rw [si_row (by omega), si_row (by omega)]
    intro k hk
    rw [q5 k hk]; exact z3 k hk
  · intro h
    show (mg_i (ms_i (ms_i σ1 (C + 2) t _) (C + 3) t _) (C + 1) (200 * t + (n - 1))).toInt ≠ 0
    rw [si_row (by omega), si_row (by omega), q5 _ (by omega)]
    exact z4 h
  · show lv (mg_i (ms_i (ms_i σ1 (C + 2) t _) (C + 3) t _) (C + 1)) (200 * t) n = _
    rw [si_row (by omega), si_row (by omega), ← z5]
    exact lv_congr q5
  · show (mg_i (ms_i (ms_i σ1 (C + 2) t _) (C + 3) t _) (C + 3) t).toInt = _
    rw [si_s]; exact z6
theorem lim_trim_l {fu C s : Nat} {σ : rr_M} (hs : s < 460) (hm : mrf C σ) {kk : Int32 → Option (Unit × rr_M)} {Q : Unit × rr_M → Prop} {A : Int}
    (hk : ∀ n, n ≤ 200 → lok (mg_i σ (C + 1)) (200 * s) n → lv (mg_i σ (C + 1)) (200 * s) n = A → (0 < n → (mg_i σ (C + 1) (200 * s + (n - 1))).toInt ≠ 0) → wq (kk (nI n)) Q) :
    ∀ (n f : Nat), n ≤ 200 → n < f → lok (mg_i σ (C + 1)) (200 * s) n → lv (mg_i σ (C + 1)) (200 * s) n = A → wq (l_Mod_trims_2 fu (nm C) C (nI s) σ f (nI n) kk) Q
  | 0, f + 1, h1, h2, hd, hv => by
    rw [l_Mod_trims_2]
    exact wq_ip (by decide) (hk 0 h1 hd hv (fun h => absurd h (by omega)))
  | n + 1, f + 1, h1, h2, hd, hv => by
    have c : ¬ nI (n + 1) ≤ 0 := nI_nle (by omega) (by omega)
    have e1 : nI (n + 1) - 1 = nI n := nI_pred n
    have e2 : nI (n + 1) + (-1) = nI n := nI_m1 n
    rw [l_Mod_trims_2, if_neg c, e1, lim_at hm (by omega)]
    simp only [Option.bind, rr_lt, e2]
    by_cases h0 : mg_i σ (C + 1) (200 * s + n) = 0
    · rw [if_pos h0]
      refine lim_trim_l hs hm hk n f (by omega) (by omega) (fun k hk2 => hd k (by omega)) ?_
      rw [← hv, lv, h0, show (0 : Int32).toInt = 0 from rfl]
      omega
    · rw [if_neg h0]
      refine hk (n + 1) h1 hd hv (fun _ h => h0 (i_inj ?_))
      rw [Nat.add_sub_cancel] at h
      rw [h]; rfl
theorem lo_trims {fu C s n : Nat} {σ : rr_M} {A sg : Int} (hfu : 400 < fu) (hm : mrf C σ) (hs : s < 460) (hn : n ≤ 200) (hd : lok (mg_i σ (C + 1)) (200 * s) n) (hv : lv (mg_i σ (C + 1)) (200 * s) n = A) (hsg : (mg_i σ (C + 3) s).toInt = sg) (hsv : sg = 1 ∨ sg = -1 ∨ A = 0) :
    wq (f_Mod_trims fu (nm C) C (nI s) (nI n) σ) (fun y => lm C y.2 s (sg * A) ∧ onl C s σ y.2) := by
  unfold f_Mod_trims
  refine lim_trim_l hs hm ?_ n fu hn (by omega) hd hv
  intro m q1 q2 q3 q4
  have m1 : rr_n (nI s) = s := n_nI (by omega)
  simp only [rr_lt, mrf_2 hm, mrf_3 hm, si_r, ix2 (C := C) hs, ix3 (C := C) hs, m1, if_true]
  have hA := lok_lt q2
  rw [q3] at hA
  by_cases h0 : m = 0
  · subst h0
    rw [if_pos (show nI 0 = 0 from rfl)]
    have hA0 : A = 0 := by simpa [lv] using q3.symm
    subst hA0
    refine wq_some ⟨⟨0, by omega, ?_, fun k hk => absurd hk (by omega), fun h => absurd h (by omega), by simp [lv], ?_⟩, onl_tr onl_long onl_sign⟩
    · show mg_i (ms_i (ms_i σ (C + 2) s _) (C + 3) s _) (C + 2) s = _
      rw [si_row (by omega), si_s]
    · show (mg_i (ms_i (ms_i σ (C + 2) s _) (C + 3) s _) (C + 3) s).toInt = _
      rw [si_s]
      simp
  · have c : ¬ nI m = 0 := nI_ne0 (by omega) (by omega)
    rw [if_neg c]
    have hA1 : 0 < A := by
      rcases Int.lt_or_eq_of_le hA.1 with h | h
      · exact h
      · exfalso
        obtain ⟨k, rfl⟩ : ∃ k, m = k + 1 := ⟨m - 1, by omega⟩
        have h2 := lok_lt (g := mg_i σ (C + 1)) (o := 200 * s) (n := k) (fun j hj => q2 j (by omega))
        have h3 := q4 (by omega)
        have h4 := q2 k (by omega)
        rw [Nat.add_sub_cancel] at h3
        have := Int.mul_le_mul_of_nonneg_right (show 1 ≤ (mg_i σ (C + 1) (200 * s + k)).toInt by omega) (Int.le_of_lt (pL_pos k))
        have := pL_pos k
        rw [lv] at q3
        omega
    refine wq_some ⟨⟨m, q1, ?_, ?_, ?_, ?_, ?_⟩, onl_long⟩
    · show mg_i (ms_i σ (C + 2) s _) (C + 2) s = _
      rw [si_s]
    · show lok (mg_i (ms_i σ (C + 2) s _) (C + 1)) (200 * s) m
      rw [si_row (by omega)]
      exact q2
    · intro h
      show (mg_i (ms_i σ (C + 2) s _) (C + 1) (200 * s + (m - 1))).toInt ≠ 0
      rw [si_row (by omega)]
      exact q4 h
    · show lv (mg_i (ms_i σ (C + 2) s _) (C + 1)) (200 * s) m = _
      rw [si_row (by omega), q3]
      rcases hsv with h | h | h
      · rw [h]; omega
      · rw [h]; omega
      · omega
    · show (mg_i (ms_i σ (C + 2) s _) (C + 3) s).toInt = _
      rw [si_row (by omega), hsg]
      rcases hsv with h | h | h
      · rw [h, Int.one_mul, Int.sign_eq_one_of_pos hA1]
      · rw [h, Int.sign_eq_neg_one_of_neg (by omega)]
      · omega
theorem lim_ag_l {fu C a b n : Nat} {σ : rr_M} (ha : a < 460) (hb : b < 460) (hm : mrf C σ) (hn : n ≤ 200) (hda : lok (mg_i σ (C + 1)) (200 * a) n) (hdb : lok (mg_i σ (C + 1)) (200 * b) n) :
    ∀ (k f : Nat), k ≤ n → k < f → lv (mg_i σ (C + 1)) (200 * a) n - lv (mg_i σ (C + 1)) (200 * a) k = lv (mg_i σ (C + 1)) (200 * b) n - lv (mg_i σ (C + 1)) (200 * b) k →
      l_Mod_against_45 fu (nm C) C (nI a) (nI b) σ f (nI k - 1) (some 0) = some (if lv (mg_i σ (C + 1)) (200 * a) n < lv (mg_i σ (C + 1)) (200 * b) n then -1 else if lv (mg_i σ (C + 1)) (200 * b) n < lv (mg_i σ (C + 1)) (200 * a) n then 1 else 0)
  | 0, f + 1, h1, h2, hv => by
    rw [l_Mod_against_45, if_pos (by decide)]
    simp only [lv] at hv
    rw [if_neg (by omega), if_neg (by omega)]
  | k + 1, f + 1, h1, h2, hv => by
    have e1 : nI (k + 1) - 1 = nI k := nI_pred k
    have c : ¬ nI k < 0 := nI_pos (by omega)
    have e2 : nI k + (-1) = nI k - 1 := (Int32.sub_eq_add_neg (nI k) 1).symm
    rw [l_Mod_against_45, e1, if_neg c, lim_at hm (by omega), lim_at hm (by omega)]
    simp only [Option.bind, rr_lt, e2]
    have la := lok_lt (g := mg_i σ (C + 1)) (o := 200 * a) (n := k) (fun j hj => hda j (by omega))
    have lb := lok_lt (g := mg_i σ (C + 1)) (o := 200 * b) (n := k) (fun j hj => hdb j (by omega))
    have hp := pL_pos k
    simp only [lv] at hv
    by_cases h0 : mg_i σ (C + 1) (200 * a + k) = mg_i σ (C + 1) (200 * b + k)
    · rw [if_pos h0]
      refine lim_ag_l ha hb hm hn hda hdb k f (by omega) (by omega) ?_
      rw [h0] at hv
      omega
    · rw [if_neg h0]
      by_cases h3 : mg_i σ (C + 1) (200 * b + k) ≤ mg_i σ (C + 1) (200 * a + k)
      · rw [if_pos h3]
        rw [Int32.le_iff_toInt_le] at h3
        have h4 : (mg_i σ (C + 1) (200 * b + k)).toInt + 1 ≤ (mg_i σ (C + 1) (200 * a + k)).toInt := by
          rcases Int.lt_or_eq_of_le h3 with h | h
          · omega
          · exact absurd (i_inj h.symm) h0
        have := Int.mul_le_mul_of_nonneg_right h4 (Int.le_of_lt hp)
        rw [Int.add_mul, Int.one_mul] at this
        rw [if_neg (by omega), if_pos (by omega)]
      · rw [if_neg h3]
        rw [Int32.le_iff_toInt_le] at h3
        have := Int.mul_le_mul_of_nonneg_right (show (mg_i σ (C + 1) (200 * a + k)).toInt + 1 ≤ (mg_i σ (C + 1) (200 * b + k)).toInt by omega) (Int.le_of_lt hp)
        rw [Int.add_mul, Int.one_mul] at this
        rw [if_pos (by omega)]
theorem lo_against {fu C a b : Nat} {σ : rr_M} {x y : Int} (hfu : 400 < fu) (hm : mrf C σ) (ha : a < 460) (hb : b < 460) (hx : lm C σ a x) (hy : lm C σ b y) : f_Mod_against fu (nm C) C (nI a) (nI b) σ = some (if x.natAbs < y.natAbs then -1 else if y.natAbs < x.natAbs then 1 else 0) := by
  obtain ⟨n, hn⟩ := hx
  obtain ⟨m, hm2⟩ := hy
  have m1 : rr_n (nI a) = a := n_nI (by omega)
  have m2 : rr_n (nI b) = b := n_nI (by omega)
  have xl := lmn_lt hn
  have yl := lmn_lt hm2
  unfold f_Mod_against
  simp only [rr_lt, mrf_2 hm, ix2 (C := C) ha, ix2 (C := C) hb, m1, m2, if_true, hn.2.1, hm2.2.1]
  have hn1 := hn.1
  have hm1 := hm2.1
  by_cases h : n = m
  · subst h
    rw [if_pos rfl, lim_ag_l ha hb hm hn.1 hn.2.2.1 hm2.2.2.1 n fu (Nat.le_refl _) (by omega) (by omega), hn.2.2.2.2.1, hm2.2.2.2.2.1]
    simp only [Int.ofNat_lt]
  · rw [if_neg (fun hc => h ((nI_eq (by omega) (by omega)).mp hc))]
    rcases Nat.lt_or_ge n m with h1 | h1
    · rw [if_neg (nI_ge h1 (by omega))]
      have h2 := lmn_ge hm2 (by omega)
      have h3 : (65536 : Int) ^ n ≤ 65536 ^ (m - 1) := pw_mono (by decide) (by omega)
      rw [if_pos (by omega)]
    · rw [if_pos (nI_le (by omega) (by omega))]
      have h2 := lmn_ge hn (by omega)
      have h3 : (65536 : Int) ^ m ≤ 65536 ^ (n - 1) := pw_mono (by decide) (by omega)
      rw [if_neg (by omega), if_pos (by omega)]
