/-! ===== limbs: products, longs, powers of 2 ===== -/
theorem lim_mul_z {fu C t n : Nat} {σ0 : rr_M} (ht : t < 460) (hn : n ≤ 200) (hm0 : mrf C σ0) {kk : rr_M → Option (Unit × rr_M)} {Q : Unit × rr_M → Prop}
    (hk : ∀ (σ : rr_M), onl C t σ0 σ → mg_i σ (C + 2) = mg_i σ0 (C + 2) → mg_i σ (C + 3) = mg_i σ0 (C + 3) → (∀ j, j < n → mg_i σ (C + 1) (200 * t + j) = 0) → wq (kk σ) Q) :
    ∀ (f k : Nat) (σ : rr_M), k ≤ n → n + 1 - k ≤ f → onl C t σ0 σ → mg_i σ (C + 2) = mg_i σ0 (C + 2) → mg_i σ (C + 3) = mg_i σ0 (C + 3) → (∀ j, j < k → mg_i σ (C + 1) (200 * t + j) = 0) →
      wq (l_Mod_multiplies_18 fu (nm C) C (nI t) (nI n) f (nI k) σ kk) Q
  | 0, k, σ, h1, h2, _, _, _, _ => by omega
  | f + 1, k, σ, h1, h2, ho, q2, q3, q5 => by
    have hm := mrf_of hm0 ho.1
    rw [l_Mod_multiplies_18]
    by_cases hkn : k = n
    · subst hkn
      exact wq_ip (nI_le (Nat.le_refl _) (by omega)) (hk σ ho q2 q3 q5)
    · have c : ¬ nI n ≤ nI k := nI_ge (by omega) (by omega)
      have m2 : rr_n (nI (200 * t + k)) = 200 * t + k := n_nI (by omega)
      simp only [if_neg c, rr_lt, mrf_1 hm, e200, ix1 (C := C) (show 200 * t + k < 92000 by omega), m2, if_true, nI_1]
      refine lim_mul_z ht hn hm0 hk f (k + 1) _ (by omega) (by omega) (onl_tr ho (onl_limb (by omega) (by omega))) (by rw [si_row (by omega)]; exact q2) (by rw [si_row (by omega)]; exact q3) ?_
      intro j hj
      by_cases hjt : j = k
      · subst hjt; rw [si_s]
      · rw [si_n (Or.inr (by omega))]; exact q5 j (by omega)
theorem lv_z {g : Nat → Int32} {o : Nat} : ∀ {n : Nat}, (∀ j, j < n → g (o + j) = 0) → lv g o n = 0
  | 0, _ => rfl
  | n + 1, h => by
    rw [lv, lv_z (fun j hj => h j (by omega)), h n (by omega), show (0 : Int32).toInt = 0 from rfl]
    omega
theorem lim_mul_o {fu C t a b la lb : Nat} {σ0 : rr_M} (hfu : 400 < fu) (ht : t < 460) (ha : a < 460) (hb : b < 460) (hat : a ≠ t) (hbt : b ≠ t) (hn : la + lb ≤ 200) (hm0 : mrf C σ0) (hia : mg_i σ0 (C + 2) a = nI la) (hib : mg_i σ0 (C + 2) b = nI lb) (hda : lok (mg_i σ0 (C + 1)) (200 * a) la) (hdb : lok (mg_i σ0 (C + 1)) (200 * b) lb) {kk : rr_M → Option (Unit × rr_M)} {Q : Unit × rr_M → Prop}
    (hk : ∀ (σ : rr_M), onl C t σ0 σ → mg_i σ (C + 2) = mg_i σ0 (C + 2) → mg_i σ (C + 3) = mg_i σ0 (C + 3) → lok (mg_i σ (C + 1)) (200 * t) (la + lb) → lv (mg_i σ (C + 1)) (200 * t) (la + lb) = lv (mg_i σ0 (C + 1)) (200 * a) la * lv (mg_i σ0 (C + 1)) (200 * b) lb → wq (kk σ) Q) :
    ∀ (f i : Nat) (σ : rr_M), i ≤ la → la + 1 - i ≤ f → onl C t σ0 σ → mg_i σ (C + 2) = mg_i σ0 (C + 2) → mg_i σ (C + 3) = mg_i σ0 (C + 3) → lok (mg_i σ (C + 1)) (200 * t) (la + lb) → (∀ q, i + lb ≤ q → q < la + lb → mg_i σ (C + 1) (200 * t + q) = 0) → lv (mg_i σ (C + 1)) (200 * t) (la + lb) = lv (mg_i σ0 (C + 1)) (200 * a) i * lv (mg_i σ0 (C + 1)) (200 * b) lb →
      wq (l_Mod_multiplies_48 fu (nm C) C (nI t) (nI a) (nI b) f (nI i) σ kk) Q
  | 0, i, σ, h1, h2, _, _, _, _, _, _ => by omega
  | f + 1, i, σ, h1, h2, ho, q2, q3, hd, hz, hv => by
    have hm := mrf_of hm0 ho.1
    have ma : rr_n (nI a) = a := n_nI (by omega)
    have mb : rr_n (nI b) = b := n_nI (by omega)
    rw [l_Mod_multiplies_48]
    simp only [rr_lt, mrf_2 hm, ix2 (C := C) ha, ma, if_true, q2, hia]
    by_cases hin : i = la
    · subst hin
      exact wq_ip (nI_le (Nat.le_refl _) (by omega)) (hk σ ho q2 q3 hd hv)
    · have c0 : ¬ nI la ≤ nI i := nI_ge (by omega) (by omega)
      have ra : mg_i σ (C + 1) (200 * a + i) = mg_i σ0 (C + 1) (200 * a + i) := ho.2.2.2.1 _ (by omega)
      have rb : ∀ j, j < 200 → mg_i σ (C + 1) (200 * b + j) = mg_i σ0 (C + 1) (200 * b + j) := fun j hj => ho.2.2.2.1 _ (by omega)
      rw [if_neg c0, lim_at hm (by omega), ra]
      simp only [Option.bind]
      have xa := hda i (by omega)
      have w1 : (mg_i σ0 (C + 1) (200 * a + i)).toInt64.toInt = (mg_i σ0 (C + 1) (200 * a + i)).toInt := Jvm.Kit.i64_of_i32 _
      refine lim_mul_i (a := a) (la := la) (n := la + lb) (i := i) (lb := lb) ht hb hbt hn (by omega) hm (by rw [q2]; exact hib) (fun j hj => by rw [rb j (by omega)]; exact hdb j hj) hd (by rw [w1]; exact xa.1) (by rw [w1]; exact xa.2) ?_ fu 0 0 σ (by omega) (by omega) (onl_rfl _ _ _) rfl rfl hd (fun _ _ => rfl) (by decide) (by decide) (by simp [lv])
      intro σ1 c o1 o2 o3 od oq oc1 oc2 ov
      have hm1 := mrf_of hm o1.1
      have e9 : (200 * nI t) + nI i + nI lb = nI (200 * t + (i + lb)) := by rw [e200, nI_add, Nat.add_assoc]
      have mt : rr_n (nI (200 * t + (i + lb))) = 200 * t + (i + lb) := n_nI (by omega)
      have cb : c.toInt32.toInt = c.toInt := Jvm.Kit.i32_of_i64 (by omega) (by omega)
      simp only [mrf_1 hm1, mrf_2 hm1, ix2 (C := C) hb, mb, if_true, o2, q2, hib, e9, ix1 (C := C) (show 200 * t + (i + lb) < 92000 by omega), mt, nI_1]
      have hold : mg_i σ1 (C + 1) (200 * t + (i + lb)) = 0 := by rw [oq _ (Nat.le_refl _)]; exact hz _ (Nat.le_refl _) (by omega)
      refine lim_mul_o hfu ht ha hb hat hbt hn hm0 hia hib hda hdb hk f (i + 1) _ (by omega) (by omega) (onl_tr ho (onl_tr o1 (onl_limb (by omega) (by omega)))) (by rw [si_row (by omega), o2]; exact q2) (by rw [si_row (by omega), o3]; exact q3) ?_ ?_ ?_
      · intro k hk2
        by_cases hkk : k = i + lb
        · subst hkk; rw [si_s, cb]; omega
        · rw [si_n (Or.inr (by omega))]; exact od k hk2
      · intro k hk1 hk2
        rw [si_n (Or.inr (by omega)), oq k (by omega)]
        exact hz k (by omega) hk2
      · rw [lv_upd (by omega), hold, cb, show (0 : Int32).toInt = 0 from rfl, Int.sub_zero, ov, hv, w1, lv, lv_congr (g' := mg_i σ0 (C + 1)) (o' := 200 * b) (fun j hj => rb j (by omega))]
        generalize (65536 : Int) ^ i = P
        generalize lv (mg_i σ0 (C + 1)) (200 * b) lb = Y
        grind
theorem lo_mul {fu C t a b m1 m2 : Nat} {σ : rr_M} {x y : Int} (hfu : 400 < fu) (hm : mrf C σ) (ht : t < 460) (ha : a < 460) (hb : b < 460) (hat : a ≠ t) (hbt : b ≠ t) (hx : lm C σ a x) (hy : lm C σ b y) (sx : szn m1 x) (sy : szn m2 y) (hm12 : m1 + m2 ≤ 200) :
    wq (f_Mod_multiplies fu (nm C) C (nI t) (nI a) (nI b) σ) (fun r => lm C r.2 t (x * y) ∧ onl C t σ r.2) := by
  obtain ⟨na, xa⟩ := hx
  obtain ⟨nb, yb⟩ := hy
  have la := lmn_sz xa sx
  have lb := lmn_sz yb sy
  obtain ⟨x1, x2, x3, x4, x5, x6⟩ := xa
  obtain ⟨y1, y2, y3, y4, y5, y6⟩ := yb
  have ma : rr_n (nI a) = a := n_nI (by omega)
  have mb : rr_n (nI b) = b := n_nI (by omega)
  have mt : rr_n (nI t) = t := n_nI (by omega)
  unfold f_Mod_multiplies
  dsimp only [rr_lt, rr_jn]
  simp only [mrf_2 hm, ix2 (C := C) ha, ix2 (C := C) hb, ma, mb, if_true, x2, y2, nI_add]
  refine lim_mul_z (n := na + nb) ht (by omega) hm ?_ fu 0 σ (by omega) (by omega) (onl_rfl _ _ _) rfl rfl (fun j hj => absurd hj (by omega))
  intro σ1 o1 p2 p3 pz
  have hm1 := mrf_of hm o1.1
  have ra : ∀ j, j < 200 → mg_i σ1 (C + 1) (200 * a + j) = mg_i σ (C + 1) (200 * a + j) := fun j hj => o1.2.2.2.1 _ (by omega)
  have rb : ∀ j, j < 200 → mg_i σ1 (C + 1) (200 * b + j) = mg_i σ (C + 1) (200 * b + j) := fun j hj => o1.2.2.2.1 _ (by omega)
  have va : lv (mg_i σ1 (C + 1)) (200 * a) na = x.natAbs := by rw [← x5]; exact lv_congr (fun j hj => ra j (by omega))
  have vb : lv (mg_i σ1 (C + 1)) (200 * b) nb = y.natAbs := by rw [← y5]; exact lv_congr (fun j hj => rb j (by omega))
  refine lim_mul_o (la := na) (lb := nb) hfu ht ha hb hat hbt (by omega) hm1 (by rw [p2]; exact x2) (by rw [p2]; exact y2) (fun j hj => by rw [ra j (by omega)]; exact x3 j hj) (fun j hj => by rw [rb j (by omega)]; exact y3 j hj) ?_ fu 0 σ1 (by omega) (by omega) (onl_rfl _ _ _) rfl rfl (fun j hj => by rw [pz j hj]; decide) (fun q _ h => pz q h) (by rw [lv_z pz]; simp [lv])
  intro σ2 o2 q2 q3 qd qv
  have hm2 := mrf_of hm1 o2.1
  rw [va, vb] at qv
  simp only [mrf_3 hm2, ix3 (C := C) ha, ix3 (C := C) hb, ix3 (C := C) ht, ma, mb, mt, if_true, q3, p3]
  have hsg : (mg_i σ (C + 3) a * mg_i σ (C + 3) b).toInt = x.sign * y.sign := by
    have h1 := sign_cases x
    have h2 := sign_cases y
    rw [Jvm.Kit.i32_mul (by rw [x6, y6]; rcases h1 with h | h | h <;> rw [h.1] <;> omega) (by rw [x6, y6]; rcases h1 with h | h | h <;> rw [h.1] <;> omega), x6, y6]
  have hon : onl C t σ (ms_i σ2 (C + 3) t (mg_i σ (C + 3) a * mg_i σ (C + 3) b)) := onl_tr o1 (onl_tr o2 onl_sign)
  refine wq_bd (wq_mo (lo_trims (A := (x.natAbs : Int) * y.natAbs) (sg := x.sign * y.sign) hfu (mrf_of hm hon.1) ht (show na + nb ≤ 200 by omega) ?_ ?_ ?_ ?_) ?_)
  · rw [si_row (by omega)]; exact qd
  · rw [si_row (by omega)]; exact qv
  · rw [si_s]; exact hsg
  · rcases sign_cases x with h | h | h
    · rcases sign_cases y with h2 | h2 | h2
      · left; rw [h.1, h2.1]; rfl
      · right; left; rw [h.1, h2.1]; rfl
      · right; right; rw [h2.2]; simp
    · rcases sign_cases y with h2 | h2 | h2
      · right; left; rw [h.1, h2.1]; rfl
      · left; rw [h.1, h2.1]; rfl
      · right; right; rw [h2.2]; simp
    · right; right; rw [h.2]; simp
  · rintro r ⟨r1, r2⟩
    refine wq_some ⟨?_, onl_tr hon r2⟩
    have e : x.sign * y.sign * ((x.natAbs : Int) * y.natAbs) = x * y := by
      have e1 : x.sign * (x.natAbs : Int) = x := Int.sign_mul_natAbs x
      have e2 : y.sign * (y.natAbs : Int) = y := Int.sign_mul_natAbs y
      calc x.sign * y.sign * ((x.natAbs : Int) * y.natAbs) = (x.sign * x.natAbs) * (y.sign * y.natAbs) := by grind
        _ = x * y := by rw [e1, e2]
    rw [← e]
    exact r1
theorem lim_lon_l {fu C s n : Nat} {σ : rr_M} (hs : s < 460) (hm : mrf C σ) (hn : n ≤ 200) (hd : lok (mg_i σ (C + 1)) (200 * s) n) {A : Int} (hA : A < 4611686018427387904) {kk : Int64 → Option Int64} {Q : Int64 → Prop} (hk : ∀ v : Int64, v.toInt = A → wq (kk v) Q) :
    ∀ (k f : Nat) (v : Int64), k ≤ n → k < f → 0 ≤ v.toInt → v.toInt * 65536 ^ k + lv (mg_i σ (C + 1)) (200 * s) k = A → wq (l_Mod_longOf_12 fu (nm C) C (nI s) σ f v (nI k - 1) kk) Q
  | 0, f + 1, v, h1, h2, h3, hv => by
    rw [l_Mod_longOf_12, if_pos (by decide)]
    exact hk v (by simpa [lv] using hv)
  | k + 1, f + 1, v, h1, h2, h3, hv => by
    have e1 : nI (k + 1) - 1 = nI k := nI_pred k
    have c1 : ¬ nI k < 0 := nI_pos (by omega)
    have e2 : nI k + (-1) = nI k - 1 := (Int32.sub_eq_add_neg (nI k) 1).symm
    rw [l_Mod_longOf_12, e1, if_neg c1, lim_at hm (by omega)]
    simp only [Option.bind, rr_lt, e2]
    have hp := pL_pos k
    have hd2 := hd k (by omega)
    have hlt := lok_lt (g := mg_i σ (C + 1)) (o := 200 * s) (n := k) (fun j hj => hd j (by omega))
    rw [lv, pL_s] at hv
    have w1 : (mg_i σ (C + 1) (200 * s + k)).toInt64.toInt = (mg_i σ (C + 1) (200 * s + k)).toInt := Jvm.Kit.i64_of_i32 _
    have hnew : (v.toInt * 65536 + (mg_i σ (C + 1) (200 * s + k)).toInt) * 65536 ^ k + lv (mg_i σ (C + 1)) (200 * s) k = A := by
      rw [← hv]
      generalize (65536 : Int) ^ k = P
      grind
    have hS1 : v.toInt * 65536 + (mg_i σ (C + 1) (200 * s + k)).toInt < 4611686018427387904 := by
      apply Int.not_le.mp
      intro h
      have := Int.mul_le_mul_of_nonneg_right h (Int.le_of_lt hp)
      have := Int.mul_le_mul_of_nonneg_left (show (1 : Int) ≤ 65536 ^ k by omega) (show (0 : Int) ≤ 4611686018427387904 by decide)
      omega
    have s1 : (v * 65536).toInt = v.toInt * 65536 := j_mul (x := v) (y := 65536) (by rw [show (65536 : Int64).toInt = 65536 from rfl]; omega) (by rw [show (65536 : Int64).toInt = 65536 from rfl]; omega)
    have s2 : (v * 65536 + (mg_i σ (C + 1) (200 * s + k)).toInt64).toInt = v.toInt * 65536 + (mg_i σ (C + 1) (200 * s + k)).toInt := by
      rw [j_add (by rw [s1, w1]; omega) (by rw [s1, w1]; omega), s1, w1]
    exact lim_lon_l hs hm hn hd hA hk k f _ (by omega) (by omega) (by rw [s2]; omega) (by rw [s2]; exact hnew)
theorem lo_long {fu C s : Nat} {σ : rr_M} {x : Int} (hfu : 400 < fu) (hm : mrf C σ) (hs : s < 460) (hx : lm C σ s x) (h1 : -4611686018427387904 < x) (h2 : x < 4611686018427387904) : wq (f_Mod_longOf fu (nm C) C (nI s) σ) (fun v => v.toInt = x) := by
  obtain ⟨n, x1, x2, x3, x4, x5, x6⟩ := hx
  have ms : rr_n (nI s) = s := n_nI (by omega)
  unfold f_Mod_longOf
  simp only [rr_lt, mrf_2 hm, ix2 (C := C) hs, ms, if_true, x2]
  refine lim_lon_l (A := x.natAbs) hs hm x1 x3 (by omega) ?_ n fu 0 (Nat.le_refl _) (by omega) (by decide) (by rw [x5, show (0 : Int64).toInt = 0 from rfl]; omega)
  intro v hv
  simp only [mrf_3 hm, ix3 (C := C) hs, if_true]
  refine wq_some ?_
  have w1 : (mg_i σ (C + 3) s).toInt64.toInt = x.sign := by rw [Jvm.Kit.i64_of_i32]; exact x6
  have h3 := sign_cases x
  rw [j_mul (by rw [w1, hv]; rcases h3 with h | h | h <;> rw [h.1] <;> omega) (by rw [w1, hv]; rcases h3 with h | h | h <;> rw [h.1] <;> omega), w1, hv]
  exact Int.sign_mul_natAbs x
