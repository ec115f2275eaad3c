/-! ===== limbs: quotients ===== -/
/-- nothing but large numbers has changed -/
def frm (C : Nat) (σ σ' : rr_M) : Prop := mg_r σ' = mg_r σ ∧ (∀ a, a ≠ C + 4 → a ≠ C + 5 → mg_l σ' a = mg_l σ a) ∧ (∀ a, a ≠ C + 1 → a ≠ C + 2 → a ≠ C + 3 → mg_i σ' a = mg_i σ a)
theorem frm_rfl (C : Nat) (σ : rr_M) : frm C σ σ := ⟨rfl, fun _ _ _ => rfl, fun _ _ _ _ => rfl⟩
theorem frm_tr {C : Nat} {σ σ' σ'' : rr_M} (h1 : frm C σ σ') (h2 : frm C σ' σ'') : frm C σ σ'' :=
  ⟨h2.1.trans h1.1, fun a x y => (h2.2.1 a x y).trans (h1.2.1 a x y), fun a x y z => (h2.2.2 a x y z).trans (h1.2.2 a x y z)⟩
theorem onl_frm {C s : Nat} {σ σ' : rr_M} (h : onl C s σ σ') : frm C σ σ' := ⟨h.1, fun a _ _ => by rw [h.2.1], h.2.2.1⟩
theorem mw_msi (σ : rr_M) (d a k : Nat) (g : Nat → Int64) (v : Int32) : ms_i (mw_l σ d g) a k v = mw_l (ms_i σ a k v) d g := rfl
theorem lm_mw {C : Nat} {σ : rr_M} {d s : Nat} {g : Nat → Int64} {z : Int} : lm C (mw_l σ d g) s z ↔ lm C σ s z := Iff.rfl
theorem lv_shift (g : Nat → Int32) (o : Nat) : ∀ n, lv g o (n + 1) = (g o).toInt + 65536 * lv g (o + 1) n
  | 0 => by simp [lv]
  | n + 1 => by
    rw [lv, lv_shift g o n, lv, pL_s, show o + (n + 1) = o + 1 + n by omega]
    generalize (65536 : Int) ^ n = P
    grind
theorem qv_shift (g : Nat → Int64) (o : Nat) : ∀ n, qv g o (n + 1) = (g o).toInt + 65536 * qv g (o + 1) n
  | 0 => by simp [qv]
  | n + 1 => by
    rw [qv, qv_shift g o n, qv, pL_s, show o + (n + 1) = o + 1 + n by omega]
    generalize (65536 : Int) ^ n = P
    grind
theorem prt_up {fu C a la : Nat} {σ : rr_M} {by_ : Int64} (hm : mrf C σ) (ha : a < 460) (hla : la ≤ 200) (hia : mg_i σ (C + 2) a = nI la) (hda : lok (mg_i σ (C + 1)) (200 * a) la) (hb1 : 1 ≤ by_.toInt) (hb2 : by_.toInt ≤ 65536) {kk : Int64 → rr_M → Option (Unit × rr_M)} {Q : Unit × rr_M → Prop}
    (hk : ∀ (g : Nat → Int64) (c : Int64), qok g 0 la → 0 ≤ c.toInt → c.toInt < 65536 → qv g 0 la + c.toInt * 65536 ^ la = by_.toInt * lv (mg_i σ (C + 1)) (200 * a) la → wq (kk c (mw_l σ (C + 4) g)) Q) :
    ∀ (f k : Nat) (c : Int64) (g : Nat → Int64), k ≤ la → la + 1 - k ≤ f → qok g 0 k → 0 ≤ c.toInt → c.toInt < 65536 → qv g 0 k + c.toInt * 65536 ^ k = by_.toInt * lv (mg_i σ (C + 1)) (200 * a) k →
      wq (l_Mod_parts_68 fu (nm C) C (nI a) by_ f c (nI k) (mw_l σ (C + 4) g) kk) Q
  | 0, k, c, g, h1, h2, _, _, _, _ => by omega
  | f + 1, k, c, g, h1, h2, hg, hc1, hc2, hv => by
    have ma : rr_n (nI a) = a := n_nI (by omega)
    have hmw : mrf C (mw_l σ (C + 4) g) := hm
    rw [l_Mod_parts_68]
    simp only [rr_lt, mrf_2 hmw, ix2 (C := C) ha, ma, if_true, mw_i, hia]
    by_cases hkn : k = la
    · subst hkn
      exact wq_ip (nI_le (Nat.le_refl _) (by omega)) (hk g c hg hc1 hc2 hv)
    · have c0 : ¬ nI la ≤ nI k := nI_ge (by omega) (by omega)
      have mk : rr_n (nI k) = k := n_nI (by omega)
      rw [if_neg c0, lim_at hmw (by omega)]
      simp only [Option.bind, mrf_4 hmw, ix4 (C := C) (show k < 401 by omega), mk, if_true, mw_ms, nI_1, mw_i]
      have xa := hda k (by omega)
      have w1 : (mg_i σ (C + 1) (200 * a + k)).toInt64.toInt = (mg_i σ (C + 1) (200 * a + k)).toInt := Jvm.Kit.i64_of_i32 _
      generalize hx : mg_i σ (C + 1) (200 * a + k) = x at *
      have hxy : 0 ≤ x.toInt * by_.toInt ∧ x.toInt * by_.toInt ≤ 65535 * by_.toInt := ⟨Int.mul_nonneg xa.1 (by omega), Int.mul_le_mul_of_nonneg_right (by omega) (by omega)⟩
      have e1 : (x.toInt64 * by_).toInt = x.toInt * by_.toInt := by rw [j_mul (by rw [w1]; omega) (by rw [w1]; omega), w1]
      have e2 : (x.toInt64 * by_ + c).toInt = x.toInt * by_.toInt + c.toInt := by rw [j_add (by rw [e1]; omega) (by rw [e1]; omega), e1]
      generalize x.toInt64 * by_ + c = v at *
      have r1 := jr16 (x := v) (by omega)
      have r2 := jq16 (x := v) (by omega)
      generalize v / 65536 = q at *
      refine prt_up hm ha hla hia hda hb1 hb2 hk f (k + 1) _ _ (by omega) (by omega) ?_ (by omega) (by omega) ?_
      · intro i hi
        rw [Nat.zero_add]
        by_cases hik : i = k
        · subst hik; rw [upL_s, r1]; omega
        · rw [upL_n hik]; have := hg i (by omega); rw [Nat.zero_add] at this; exact this
      · rw [qv, Nat.zero_add, upL_s, qv_congr (g' := g) (o' := 0) (fun i hi => by rw [Nat.zero_add, upL_n (by omega)]), r1, r2, lv, hx, pL_s]
        have := Int.emod_add_mul_ediv v.toInt 65536
        generalize v.toInt % 65536 = r at *
        generalize v.toInt / 65536 = u at *
        generalize (65536 : Int) ^ k = P at *
        grind
theorem prt_dn {fu C a la : Nat} {σ : rr_M} {by_ : Int64} (hm : mrf C σ) (ha : a < 460) (hla : la ≤ 200) (hda : lok (mg_i σ (C + 1)) (200 * a) la) (hb1 : 1 ≤ by_.toInt) (hb2 : by_.toInt ≤ 65536) {kk : rr_M → Option (Unit × rr_M)} {Q : Unit × rr_M → Prop}
    (hk : ∀ (g : Nat → Int64) (c : Int64), qok g 0 la → 0 ≤ c.toInt → c.toInt < 65536 → qv g 0 la + c.toInt * 65536 ^ la = by_.toInt * lv (mg_i σ (C + 1)) (200 * a) la → wq (kk (mw_l σ (C + 5) g)) Q) :
    ∀ (f k : Nat) (c : Int64) (g : Nat → Int64), k ≤ la → la + 1 - k ≤ f → qok g 0 k → 0 ≤ c.toInt → c.toInt < 65536 → qv g 0 k + c.toInt * 65536 ^ k = by_.toInt * lv (mg_i σ (C + 1)) (200 * a) k →
      wq (l_Mod_parts_141 fu (nm C) C (nI a) (nI la) by_ f c (nI k) (mw_l σ (C + 5) g) kk) Q
  | 0, k, c, g, h1, h2, _, _, _, _ => by omega
  | f + 1, k, c, g, h1, h2, hg, hc1, hc2, hv => by
    have hmw : mrf C (mw_l σ (C + 5) g) := hm
    rw [l_Mod_parts_141]
    by_cases hkn : k = la
    · subst hkn
      exact wq_ip (nI_le (Nat.le_refl _) (by omega)) (hk g c hg hc1 hc2 hv)
    · have c0 : ¬ nI la ≤ nI k := nI_ge (by omega) (by omega)
      have mk : rr_n (nI k) = k := n_nI (by omega)
      rw [if_neg c0, lim_at hmw (by omega)]
      simp only [Option.bind, rr_lt, mrf_5 hmw, ix5 (C := C) (show k < 201 by omega), mk, if_true, mw_ms, nI_1, mw_i]
      have xa := hda k (by omega)
      have w1 : (mg_i σ (C + 1) (200 * a + k)).toInt64.toInt = (mg_i σ (C + 1) (200 * a + k)).toInt := Jvm.Kit.i64_of_i32 _
      generalize hx : mg_i σ (C + 1) (200 * a + k) = x at *
      have hxy : 0 ≤ x.toInt * by_.toInt ∧ x.toInt * by_.toInt ≤ 65535 * by_.toInt := ⟨Int.mul_nonneg xa.1 (by omega), Int.mul_le_mul_of_nonneg_right (by omega) (by omega)⟩
      have e1 : (x.toInt64 * by_).toInt = x.toInt * by_.toInt := by rw [j_mul (by rw [w1]; omega) (by rw [w1]; omega), w1]
      have e2 : (x.toInt64 * by_ + c).toInt = x.toInt * by_.toInt + c.toInt := by rw [j_add (by rw [e1]; omega) (by rw [e1]; omega), e1]
      generalize x.toInt64 * by_ + c = v at *
      have r1 := jr16 (x := v) (by omega)
      have r2 := jq16 (x := v) (by omega)
      generalize v / 65536 = q at *
      refine prt_dn hm ha hla hda hb1 hb2 hk f (k + 1) _ _ (by omega) (by omega) ?_ (by omega) (by omega) ?_
      · intro i hi
        rw [Nat.zero_add]
        by_cases hik : i = k
        · subst hik; rw [upL_s, r1]; omega
        · rw [upL_n hik]; have := hg i (by omega); rw [Nat.zero_add] at this; exact this
      · rw [qv, Nat.zero_add, upL_s, qv_congr (g' := g) (o' := 0) (fun i hi => by rw [Nat.zero_add, upL_n (by omega)]), r1, r2, lv, hx, pL_s]
        have := Int.emod_add_mul_ediv v.toInt 65536
        generalize v.toInt % 65536 = r at *
        generalize v.toInt / 65536 = u at *
        generalize (65536 : Int) ^ k = P at *
        grind
theorem prt_dig {fu C t n m : Nat} {σ0 : rr_M} {d : Nat → Int64} (hfu : 70000 < fu) (hm0 : mrf C σ0) (ht : t < 460) (hn1 : 1 ≤ n) (hmn : m + n ≤ 200) (hd : mg_l σ0 (C + 5) = d) (hdk : qok d 0 n) (hv1 : 1 ≤ (d (n - 1)).toInt) {A : Int} {kk : rr_M → Option (Unit × rr_M)} {Q : Unit × rr_M → Prop}
    (hk : ∀ (σ : rr_M) (g : Nat → Int64), onl C t σ0 σ → mg_i σ (C + 2) = mg_i σ0 (C + 2) → mg_i σ (C + 3) = mg_i σ0 (C + 3) → lok (mg_i σ (C + 1)) (200 * t) (m + 1) → qok g 0 n → qv g 0 n < qv d 0 n → A = lv (mg_i σ (C + 1)) (200 * t) (m + 1) * qv d 0 n + qv g 0 n → wq (kk (mw_l σ (C + 4) g)) Q) :
    ∀ (k f : Nat) (σ : rr_M) (g : Nat → Int64), k ≤ m + 1 → k < f → onl C t σ0 σ → mg_i σ (C + 2) = mg_i σ0 (C + 2) → mg_i σ (C + 3) = mg_i σ0 (C + 3) → lok (mg_i σ (C + 1)) (200 * t + k) (m + 1 - k) → qok g 0 (k + n) → qv g k n < qv d 0 n → A = 65536 ^ k * lv (mg_i σ (C + 1)) (200 * t + k) (m + 1 - k) * qv d 0 n + qv g 0 (k + n) →
      wq (l_Mod_parts_196 fu (nm C) C (nI t) (nI n) f (nI k - 1) (mw_l σ (C + 4) g) kk) Q
  | 0, f + 1, σ, g, h1, h2, ho, q2, q3, hl, hg, hR, hA => by
    rw [l_Mod_parts_196, if_pos (by decide)]
    rw [Nat.zero_add] at hg hA
    refine hk σ g ho q2 q3 (by simpa using hl) hg hR ?_
    rw [hA]
    simp
  | k + 1, f + 1, σ, g, h1, h2, ho, q2, q3, hl, hg, hR, hA => by
    have hm := mrf_of hm0 ho.1
    have hmw : mrf C (mw_l σ (C + 4) g) := hm
    have e1 : nI (k + 1) - 1 = nI k := nI_pred k
    have c1 : ¬ nI k < 0 := nI_pos (by omega)
    have e2 : nI k + (-1) = nI k - 1 := (Int32.sub_eq_add_neg (nI k) 1).symm
    have hdσ : mg_l σ (C + 5) = d := by rw [ho.2.1, hd]
    have hgk : qok g k (n + 1) := fun i hi => by
      have := hg (k + i) (by omega)
      rw [Nat.zero_add] at this
      exact this
    have hV := qok_lt hdk
    have hU : qv g k (n + 1) < 65536 * qv d 0 n := by
      rw [qv_shift]
      have := hgk 0 (by omega)
      rw [Nat.add_zero] at this
      omega
    rw [l_Mod_parts_196, e1, if_neg c1]
    refine wq_lt (wq_bd (wq_mo (lo_digit hfu hm (show k + n < 401 by omega) (by omega) hn1 hdσ hdk hgk hv1 hU) ?_))
    rintro y ⟨g', y1, y2, y3, y4, y5, y6, y7, y8⟩
    have mt : rr_n (nI (200 * t + k)) = 200 * t + k := n_nI (by omega)
    rw [y1]
    simp only [rr_lt, mrf_1 hmw, e200, ix1 (C := C) (show 200 * t + k < 92000 by omega), mt, if_true, mw_msi, e2]
    refine prt_dig hfu hm0 ht hn1 hmn hd hdk hv1 hk k f _ g' (by omega) (by omega) (onl_tr ho (onl_limb (by omega) (by omega))) (by rw [si_row (by omega)]; exact q2) (by rw [si_row (by omega)]; exact q3) ?_ ?_ y8 ?_
    · intro i hi
      by_cases hi0 : i = 0
      · subst hi0; rw [show 200 * t + k + 0 = 200 * t + k from rfl, si_s]; exact ⟨y5, y6⟩
      · rw [si_n (Or.inr (by omega))]
        have := hl (i - 1) (by omega)
        rw [show 200 * t + (k + 1) + (i - 1) = 200 * t + k + i by omega] at this
        exact this
    · intro i hi
      rw [Nat.zero_add]
      by_cases hik : i < k
      · rw [y2 i (Or.inl hik)]
        have := hg i (by omega)
        rw [Nat.zero_add] at this
        exact this
      · have := y3 (i - k) (by omega)
        rw [show k + (i - k) = i by omega] at this
        exact this
    · rw [hA, show m + 1 - k = (m + 1 - (k + 1)) + 1 by omega, lv_shift, si_s, lv_congr (g := mg_i (ms_i σ (C + 1) (200 * t + k) y.1) (C + 1)) (g' := mg_i σ (C + 1)) (o := 200 * t + k + 1) (o' := 200 * t + (k + 1)) (fun i hi => by rw [si_n (Or.inr (by omega))]; congr 1),
        qv_split g' 0 k n, qv_congr (g := g') (g' := g) (o := 0) (o' := 0) (n := k) (fun i hi => by rw [Nat.zero_add]; exact y2 i (Or.inl hi)), show k + 1 + n = k + (n + 1) by omega, qv_split g 0 k (n + 1), Nat.zero_add, y7, pL_s]
      generalize (65536 : Int) ^ k = P
      generalize lv (mg_i σ (C + 1)) (200 * t + (k + 1)) (m + 1 - (k + 1)) = X
      generalize qv d 0 n = V
      grind
theorem prt_lft {fu C t n : Nat} {σ0 : rr_M} {by_ : Int64} {g : Nat → Int64} (hm0 : mrf C σ0) (ht : t < 460) (hn : n ≤ 200) (hg4 : mg_l σ0 (C + 4) = g) (hg : qok g 0 n) (hb1 : 1 ≤ by_.toInt) (hb2 : by_.toInt ≤ 65536) {kk : rr_M → Option (Unit × rr_M)} {Q : Unit × rr_M → Prop}
    (hk : ∀ (σ : rr_M) (c : Int), onl C t σ0 σ → mg_i σ (C + 2) = mg_i σ0 (C + 2) → mg_i σ (C + 3) = mg_i σ0 (C + 3) → lok (mg_i σ (C + 1)) (200 * t) n → 0 ≤ c → c < by_.toInt → lv (mg_i σ (C + 1)) (200 * t) n * by_.toInt + c = qv g 0 n → wq (kk σ) Q) :
    ∀ (k f : Nat) (c : Int64) (σ : rr_M), k ≤ n → k < f → onl C t σ0 σ → mg_i σ (C + 2) = mg_i σ0 (C + 2) → mg_i σ (C + 3) = mg_i σ0 (C + 3) → lok (mg_i σ (C + 1)) (200 * t + k) (n - k) → 0 ≤ c.toInt → c.toInt < by_.toInt → 65536 ^ k * (lv (mg_i σ (C + 1)) (200 * t + k) (n - k) * by_.toInt + c.toInt) + qv g 0 k = qv g 0 n →
      wq (l_Mod_parts_266 fu (nm C) C (nI t) by_ f c (nI k - 1) σ kk) Q
  | 0, f + 1, c, σ, h1, h2, ho, q2, q3, hl, hc1, hc2, hA => by
    rw [l_Mod_parts_266, if_pos (by decide)]
    refine hk σ c.toInt ho q2 q3 (by simpa using hl) hc1 hc2 ?_
    rw [← hA]
    simp [qv]
  | k + 1, f + 1, c, σ, h1, h2, ho, q2, q3, hl, hc1, hc2, hA => by
    have hm := mrf_of hm0 ho.1
    have e1 : nI (k + 1) - 1 = nI k := nI_pred k
    have c1 : ¬ nI k < 0 := nI_pos (by omega)
    have e2 : nI k + (-1) = nI k - 1 := (Int32.sub_eq_add_neg (nI k) 1).symm
    have mk : rr_n (nI k) = k := n_nI (by omega)
    have mt : rr_n (nI (200 * t + k)) = 200 * t + k := n_nI (by omega)
    have hby : ¬ by_ = 0 := fun h => by rw [h] at hb1; exact absurd hb1 (by decide)
    have hgσ : mg_l σ (C + 4) = g := by rw [ho.2.1, hg4]
    have e65 : (65536 : Int64).toInt = 65536 := rfl
    rw [l_Mod_parts_266, e1, if_neg c1]
    simp only [rr_lt, mrf_4 hm, mrf_1 hm, ix4 (C := C) (show k < 401 by omega), mk, if_true, hgσ, if_neg hby, e200, ix1 (C := C) (show 200 * t + k < 92000 by omega), mt, e2]
    have xg := hg k (by omega)
    rw [Nat.zero_add] at xg
    have s1 : (c * 65536).toInt = c.toInt * 65536 := j_mul (x := c) (y := 65536) (by rw [e65]; omega) (by rw [e65]; omega)
    have s2 : (g k + c * 65536).toInt = (g k).toInt + c.toInt * 65536 := by rw [j_add (by rw [s1]; omega) (by rw [s1]; omega), s1]
    generalize hv : g k + c * 65536 = v at *
    have hv0 : 0 ≤ v.toInt := by omega
    have r1 : (v / by_).toInt = v.toInt / by_.toInt := by rw [Jvm.Kit.i64_div (by omega), Int.tdiv_eq_ediv_of_nonneg hv0]
    have r2 : (v - v / by_ * by_).toInt = v.toInt % by_.toInt := Jvm.Kit.i64_rem_nonneg hv0
    have d1 := Int.emod_add_mul_ediv v.toInt by_.toInt
    have d2 := Int.emod_nonneg v.toInt (show by_.toInt ≠ 0 by omega)
    have d3 := Int.emod_lt_of_pos v.toInt (show 0 < by_.toInt by omega)
    have d4 : 0 ≤ v.toInt / by_.toInt := Int.ediv_nonneg hv0 (by omega)
    have d5 : v.toInt / by_.toInt < 65536 := by
      apply Int.ediv_lt_of_lt_mul (by omega)
      have := Int.mul_le_mul_of_nonneg_left (show c.toInt + 1 ≤ by_.toInt by omega) (show (0 : Int) ≤ 65536 by decide)
      omega
    have r3 : ((v / by_).toInt32).toInt = v.toInt / by_.toInt := by rw [Jvm.Kit.i32_of_i64 (by omega) (by omega), r1]
    generalize (v / by_).toInt32 = w at *
    generalize v - v / by_ * by_ = c' at *
    refine prt_lft hm0 ht hn hg4 hg hb1 hb2 hk k f _ _ (by omega) (by omega) (onl_tr ho (onl_limb (by omega) (by omega))) (by rw [si_row (by omega)]; exact q2) (by rw [si_row (by omega)]; exact q3) ?_ (by omega) (by omega) ?_
    · intro i hi
      by_cases hi0 : i = 0
      · subst hi0; rw [show 200 * t + k + 0 = 200 * t + k from rfl, si_s]; omega
      · rw [si_n (Or.inr (by omega))]
        have := hl (i - 1) (by omega)
        rw [show 200 * t + (k + 1) + (i - 1) = 200 * t + k + i by omega] at this
        exact this
    · rw [← hA, show n - k = (n - (k + 1)) + 1 by omega, lv_shift, si_s, lv_congr (g := mg_i (ms_i σ (C + 1) (200 * t + k) w) (C + 1)) (g' := mg_i σ (C + 1)) (o := 200 * t + k + 1) (o' := 200 * t + (k + 1)) (fun i hi => by rw [si_n (Or.inr (by omega))]; congr 1), qv, Nat.zero_add, pL_s, r3, r2]
      generalize lv (mg_i σ (C + 1)) (200 * t + (k + 1)) (n - (k + 1)) = X
      generalize v.toInt / by_.toInt = q at *
      generalize v.toInt % by_.toInt = r at *
      generalize (65536 : Int) ^ k = P
      have : (g k).toInt = r + by_.toInt * q - c.toInt * 65536 := by omega
      rw [this]
      grind
