/-! ===== limbs: quotients, whole; all numbers of the model at once ===== -/
theorem tdiv_of {x y : Int} {Q R : Int} (hy : y ≠ 0) (hQ : 0 ≤ Q) (hR : 0 ≤ R) (hR2 : R < y.natAbs) (h : (x.natAbs : Int) = Q * y.natAbs + R) : x.tdiv y = x.sign * y.sign * Q ∧ x.tmod y = x.sign * R := by
  have hq : (x.natAbs : Int) / y.natAbs = Q := by
    rw [h, Int.add_comm, Int.add_mul_ediv_right _ _ (by omega), Int.ediv_eq_zero_of_lt hR hR2, Int.zero_add]
  have ht : x.tdiv y = x.sign * y.sign * Q := by
    have e1 : x = x.sign * (x.natAbs : Int) := (Int.sign_mul_natAbs x).symm
    have e2 : y = y.sign * (y.natAbs : Int) := (Int.sign_mul_natAbs y).symm
    have e0 : (x.natAbs : Int).tdiv (y.natAbs : Int) = Q := by rw [Int.tdiv_eq_ediv_of_nonneg (by omega), hq]
    rcases sign_cases x with s | s | s <;> rcases sign_cases y with t | t | t
    · rw [s.1, t.1, ← e0, show (x.natAbs : Int) = x by omega, show (y.natAbs : Int) = y by omega]; omega
    · rw [s.1, t.1, ← e0, show (x.natAbs : Int) = x by omega, show (y.natAbs : Int) = -y by omega, Int.tdiv_neg]; omega
    · exact absurd t.2 hy
    · rw [s.1, t.1, ← e0, show (x.natAbs : Int) = -x by omega, show (y.natAbs : Int) = y by omega, Int.neg_tdiv]; omega
    · rw [s.1, t.1, ← e0, show (x.natAbs : Int) = -x by omega, show (y.natAbs : Int) = -y by omega, Int.neg_tdiv_neg]; omega
    · exact absurd t.2 hy
    · rw [s.1, s.2]; simp
    · rw [s.1, s.2]; simp
    · exact absurd t.2 hy
  refine ⟨ht, ?_⟩
  have h3 := Int.tmod_add_mul_tdiv x y
  rw [ht] at h3
  have e1 : x = x.sign * (x.natAbs : Int) := (Int.sign_mul_natAbs x).symm
  have e2 : y.sign * y = (y.natAbs : Int) := by
    rcases sign_cases y with t | t | t <;> rw [t.1] <;> omega
  have h4 : x.tmod y = x.sign * (x.natAbs : Int) - x.sign * (y.sign * y) * Q := by
    have : y * (x.sign * y.sign * Q) = x.sign * (y.sign * y) * Q := by grind
    omega
  rw [h4, e2, h]
  grind
theorem lo_parts {fu C t u a b : Nat} {σ : rr_M} {x y : Int} (hfu : 70000 < fu) (hm : mrf C σ) (ht : t < 460) (hu : u < 460) (ha : a < 460) (hb : b < 460) (hta : t ≠ a) (htb : t ≠ b) (hua : u ≠ a) (hut : u ≠ t) (hx : lm C σ a x) (hy : lm C σ b y) (hy0 : y ≠ 0) :
    wq (f_Mod_parts fu (nm C) C (nI t) (nI u) (nI a) (nI b) σ) (fun r => lm C r.2 t (x.tdiv y) ∧ lm C r.2 u (x.tmod y) ∧ (∀ s z, s ≠ t → s ≠ u → lm C σ s z → lm C r.2 s z) ∧ frm C σ r.2) := by
  have hfu4 : 400 < fu := by omega
  unfold f_Mod_parts
  rw [lo_against hfu4 hm ha hb hx hy]
  simp only [Option.bind]
  by_cases hc : x.natAbs < y.natAbs
  · rw [if_pos hc, if_neg (by decide)]
    refine wq_bd (wq_mo (lo_copies hfu4 hm ha hu hx) ?_)
    rintro r ⟨r1, r2⟩
    refine wq_bd (wq_mo (lo_sets hfu4 (mrf_of hm r2.1) ht (v := 0) (by decide)) ?_)
    rintro r' ⟨p1, p2⟩
    have hz := tdiv_of (x := x) (y := y) (Q := 0) (R := x.natAbs) hy0 (by omega) (by omega) (by omega) (by omega)
    refine wq_some ⟨?_, ?_, ?_, frm_tr (onl_frm r2) (onl_frm p2)⟩
    · rw [hz.1, Int.mul_zero]; exact p1
    · rw [hz.2, Int.sign_mul_natAbs]; exact lm_onl p2 hut r1
    · intro s z h1 h2 h3
      exact lm_onl p2 h1 (lm_onl r2 h2 h3)
  · rw [if_neg hc]
    have hr : (0 : Int32) ≤ (if y.natAbs < x.natAbs then (1 : Int32) else 0) := by split <;> decide
    rw [if_pos hr]
    obtain ⟨na, xa⟩ := hx
    obtain ⟨nb, yb⟩ := hy
    have zb := lmn_zero yb
    have hlen : nb ≤ na := by
      apply Nat.le_of_not_lt
      intro h
      have h1 := lmn_ge yb (by omega)
      have h2 := lmn_lt xa
      have h3 : (65536 : Int) ^ na ≤ 65536 ^ (nb - 1) := pw_mono (by decide) (by omega)
      omega
    have hyge := lmn_ge yb (by omega)
    have hxlt := lmn_lt xa
    obtain ⟨x1, x2, x3, x4, x5, x6⟩ := xa
    obtain ⟨y1, y2, y3, y4, y5, y6⟩ := yb
    have hnb : 1 ≤ nb := by omega
    have ma : rr_n (nI a) = a := n_nI (by omega)
    have mb : rr_n (nI b) = b := n_nI (by omega)
    have mt : rr_n (nI t) = t := n_nI (by omega)
    have mu : rr_n (nI u) = u := n_nI (by omega)
    have mna : rr_n (nI na) = na := n_nI (by omega)
    have e1 : nI nb - 1 = nI (nb - 1) := nI_sub (b := 1) hnb
    have e2 : nI na - nI nb = nI (na - nb) := nI_sub hlen
    dsimp only [rr_lt, rr_jn]
    simp only [mrf_2 hm, ix2 (C := C) ha, ix2 (C := C) hb, ma, mb, mt, mu, if_true, x2, y2]
    rw [e1, lim_at hm (by omega)]
    simp only [Option.bind]
    have ytop := y3 (nb - 1) (by omega)
    have w1 : (mg_i σ (C + 1) (200 * b + (nb - 1))).toInt64.toInt = (mg_i σ (C + 1) (200 * b + (nb - 1))).toInt := Jvm.Kit.i64_of_i32 _
    generalize hbt : mg_i σ (C + 1) (200 * b + (nb - 1)) = bt9 at *
    have w2 : (bt9.toInt64 + 1).toInt = bt9.toInt + 1 := by
      rw [j_add (by rw [w1, show (1 : Int64).toInt = 1 from rfl]; omega) (by rw [w1, show (1 : Int64).toInt = 1 from rfl]; omega), w1]
      rfl
    have w3 : ¬ bt9.toInt64 + 1 = 0 := fun h => by rw [h] at w2; have : (0 : Int64).toInt = 0 := rfl; omega
    rw [if_neg w3]
    have w4 : (65536 / (bt9.toInt64 + 1)).toInt = 65536 / (bt9.toInt + 1) := by
      rw [Jvm.Kit.i64_div (by rw [w2]; omega), w2, show (65536 : Int64).toInt = 65536 from rfl, Int.tdiv_eq_ediv_of_nonneg (by decide)]
    have hby2 : (bt9.toInt + 1) * (65536 / (bt9.toInt + 1)) ≤ 65536 := Int.mul_ediv_self_le (by omega)
    have hby1 : 1 ≤ 65536 / (bt9.toInt + 1) := by
      apply (Int.le_ediv_iff_mul_le (by omega)).mpr
      omega
    have hby3 : 65536 / (bt9.toInt + 1) ≤ 65536 := Int.ediv_le_self _ (by decide)
    rw [← w4] at hby1 hby2 hby3
    generalize 65536 / (bt9.toInt64 + 1) = D at *
    have h0 : σ = mw_l σ (C + 4) (mg_l σ (C + 4)) := (mw_id σ (C + 4)).symm
    rw [h0]
    refine prt_up (la := na) hm ha x1 x2 x3 hby1 hby3 ?_ fu 0 0 _ (by omega) (by omega) (fun k hk => absurd hk (by omega)) (by decide) (by decide) (by simp [qv, lv])
    intro g c g1 c1 c2 gv
    have hm1 : mrf C (mw_l σ (C + 4) g) := hm
    simp only [mrf_4 hm1, mrf_2 hm1, ix2 (C := C) ha, if_true, mw_i, x2, ix4 (C := C) (show na < 401 by omega), mna, mw_ms]
    -- what stands above
    have hup : qok (vp_updL g na c) 0 (na + 1) := by
      intro k hk
      rw [Nat.zero_add]
      by_cases hkn : k = na
      · subst hkn; rw [upL_s]; omega
      · rw [upL_n hkn]
        have := g1 k (by omega)
        rw [Nat.zero_add] at this
        exact this
    have hupv : qv (vp_updL g na c) 0 (na + 1) = D.toInt * x.natAbs := by
      rw [qv, Nat.zero_add, upL_s, qv_congr (g' := g) (o' := 0) (fun i hi => by rw [Nat.zero_add, upL_n (by omega)]), gv, x5]
    generalize hG : vp_updL g na c = G at *
    have h5 : mw_l σ (C + 4) G = mw_l (mw_l σ (C + 4) G) (C + 5) (mg_l σ (C + 5)) := by
      have : mg_l σ (C + 5) = mg_l (mw_l σ (C + 4) G) (C + 5) := (mw_gn _ (by omega)).symm
      rw [this, mw_id]
    rw [h5]
    refine prt_dn (σ := mw_l σ (C + 4) G) (la := nb) hm hb y1 y3 hby1 hby3 ?_ fu 0 0 _ (by omega) (by omega) (fun k hk => absurd hk (by omega)) (by decide) (by decide) (by simp [qv, lv])
    intro d c' d1 d2 d3 dv9
    rw [show mg_i (mw_l σ (C + 4) G) = mg_i σ from rfl, y5] at dv9
    have hd9 := qok_lt d1
    have hPn := pL_pos nb
    -- the number below has no further digit
    have hylt : D.toInt * (y.natAbs : Int) < 65536 ^ nb := by
      obtain ⟨k, hk⟩ : ∃ k, nb = k + 1 := ⟨nb - 1, by omega⟩
      have hlow := lok_lt (g := mg_i σ (C + 1)) (o := 200 * b) (n := k) (fun i hi => y3 i (by omega))
      have h6 : (y.natAbs : Int) < (bt9.toInt + 1) * 65536 ^ k := by
        rw [← y5, hk, lv]
        rw [hk, Nat.add_sub_cancel] at hbt
        rw [hbt, Int.add_mul, Int.one_mul]
        omega
      rw [hk, pL_s]
      have h7 := Int.mul_lt_mul_of_pos_left h6 (show 0 < D.toInt by omega)
      have h8 : D.toInt * ((bt9.toInt + 1) * 65536 ^ k) = ((bt9.toInt + 1) * D.toInt) * 65536 ^ k := by grind
      have h9 := Int.mul_le_mul_of_nonneg_right hby2 (Int.le_of_lt (pL_pos k))
      omega
    have hc' : c'.toInt = 0 := by
      apply Int.le_antisymm
      · apply Int.not_lt.mp
        intro h
        have := Int.mul_le_mul_of_nonneg_right (show 1 ≤ c'.toInt by omega) (Int.le_of_lt hPn)
        omega
      · exact d2
    have hV : qv d 0 nb = D.toInt * y.natAbs := by rw [hc'] at dv9; omega
    have hVge : (65536 : Int) ^ (nb - 1) ≤ qv d 0 nb := by
      rw [hV]
      have := Int.mul_le_mul_of_nonneg_right hby1 (show 0 ≤ (y.natAbs : Int) by omega)
      omega
    have hdtop : 1 ≤ (d (nb - 1)).toInt := by
      obtain ⟨k, hk⟩ : ∃ k, nb = k + 1 := ⟨nb - 1, by omega⟩
      have hlow := qok_lt (g := d) (o := 0) (n := k) (fun i hi => d1 i (by omega))
      have h6 := d1 k (by omega)
      rw [hk, Nat.add_sub_cancel, qv] at hVge
      rw [hk, Nat.add_sub_cancel]
      rw [Nat.zero_add] at h6 hVge
      apply Int.not_lt.mp
      intro h
      have : (d k).toInt = 0 := by omega
      rw [this] at hVge
      omega
    -- the digits
    rw [mw_comm σ (show C + 4 ≠ C + 5 by omega)]
    have hm2 : mrf C (mw_l σ (C + 5) d) := hm
    rw [e2]
    have e3 : nI (na - nb) = nI (na - nb + 1) - 1 := (nI_pred _).symm
    rw [e3]
    have hsm : qv G (na - nb + 1) nb < qv d 0 nb := by
      have h6 := qv_split G 0 (na - nb + 1) nb
      rw [show na - nb + 1 + nb = na + 1 by omega, hupv, Nat.zero_add] at h6
      have h7 := qok_lt (g := G) (o := 0) (n := na - nb + 1) (fun i hi => hup i (by omega))
      have h8 : (x.natAbs : Int) < 65536 ^ (na - nb + 1) * y.natAbs := by
        have h9 : (65536 : Int) ^ na = 65536 ^ (na - nb + 1) * 65536 ^ (nb - 1) := by rw [← Int.pow_add]; congr 1; omega
        have := Int.mul_le_mul_of_nonneg_left hyge (Int.le_of_lt (pL_pos (na - nb + 1)))
        omega
      have h9 := Int.mul_lt_mul_of_pos_left h8 (show 0 < D.toInt by omega)
      rw [hV]
      apply Int.not_le.mp
      intro h10
      have := Int.mul_le_mul_of_nonneg_left h10 (Int.le_of_lt (pL_pos (na - nb + 1)))
      have e9 : D.toInt * (65536 ^ (na - nb + 1) * (y.natAbs : Int)) = 65536 ^ (na - nb + 1) * (D.toInt * y.natAbs) := by grind
      omega
    refine prt_dig (n := nb) (m := na - nb) (A := D.toInt * x.natAbs) hfu hm2 ht hnb (by omega) (by rw [mw_gs]) d1 hdtop ?_ (na - nb + 1) fu _ G (Nat.le_refl _) (by omega) (onl_rfl _ _ _) rfl rfl (fun k hk => absurd hk (by omega)) (by rw [show na - nb + 1 + nb = na + 1 by omega]; exact hup) hsm ?_
    · intro σ2 g2 o1 q2 q3 qd qg qR qA
      have hm3 : mrf C (mw_l σ2 (C + 4) g2) := mrf_of hm2 o1.1
      have hsgT : (mg_i σ (C + 3) a * mg_i σ (C + 3) b).toInt = x.sign * y.sign := by
        have h1 := sign_cases x
        have h2 := sign_cases y
        rw [Jvm.Kit.i32_mul (by rw [x6, y6]; rcases h1 with h | h | h <;> rw [h.1] <;> omega) (by rw [x6, y6]; rcases h1 with h | h | h <;> rw [h.1] <;> omega), x6, y6]
      simp only [mrf_3 hm3, ix3 (C := C) ha, ix3 (C := C) hb, ix3 (C := C) ht, if_true, mw_i, q3, nI_pred, nI_1, mw_msi]
      have hx0 : x ≠ 0 := by omega
      have hsg1 : x.sign * y.sign = 1 ∨ x.sign * y.sign = -1 := by
        rcases sign_cases x with s | s | s <;> rcases sign_cases y with t | t | t <;> rw [s.1, t.1] <;> omega
      have o2 : onl C t (mw_l σ (C + 5) d) (ms_i σ2 (C + 3) t (mg_i σ (C + 3) a * mg_i σ (C + 3) b)) := onl_tr o1 onl_sign
      generalize hX2 : ms_i σ2 (C + 3) t (mg_i σ (C + 3) a * mg_i σ (C + 3) b) = σ3 at *
      have i3 : mg_i σ3 (C + 1) = mg_i σ2 (C + 1) := by rw [← hX2, si_row (by omega)]
      refine wq_bd (wq_mo (lo_trims (σ := mw_l σ3 (C + 4) g2) (A := lv (mg_i σ2 (C + 1)) (200 * t) (na - nb + 1)) (sg := x.sign * y.sign) hfu4 (mrf_of hm2 o2.1) ht (by omega) ?_ ?_ ?_ (by omega)) ?_)
      · rw [mw_i, i3]; exact qd
      · rw [mw_i, i3]
      · rw [mw_i, ← hX2, si_s]; exact hsgT
      · rintro r ⟨r1, r2⟩
        -- what is left
        have hm4 : mrf C r.2 := mrf_of (mrf_of hm2 o2.1) r2.1
        have hr4 : mg_l r.2 (C + 4) = g2 := by rw [r2.2.1, mw_gs]
        have e4 : nI (nb - 1) = nI nb - 1 := e1.symm
        rw [e4]
        have hR9 := qok_lt qg
        have hQ9 := lok_lt qd
        generalize hQ : lv (mg_i σ2 (C + 1)) (200 * t) (na - nb + 1) = Qq at *
        refine prt_lft (σ0 := r.2) (n := nb) (g := g2) hm4 hu y1 hr4 qg hby1 hby3 ?_ nb fu 0 r.2 (Nat.le_refl _) (by omega) (onl_rfl _ _ _) rfl rfl (fun k hk => absurd hk (by omega)) (by decide) (by show (0 : Int64).toInt < D.toInt; rw [show (0 : Int64).toInt = 0 from rfl]; omega) (by rw [Nat.sub_self]; simp [lv])
        intro σ5 c5 o5 p2 p3 pd pc1 pc2 pv
        have hm5 := mrf_of hm4 o5.1
        -- the rest is a multiple
        have hmul : D.toInt * ((x.natAbs : Int) - Qq * y.natAbs) = qv g2 0 nb := by
          rw [hV] at qA
          have : D.toInt * ((x.natAbs : Int) - Qq * y.natAbs) = D.toInt * x.natAbs - Qq * (D.toInt * y.natAbs) := by grind
          omega
        have hRR : lv (mg_i σ5 (C + 1)) (200 * u) nb = (x.natAbs : Int) - Qq * y.natAbs := by
          generalize (x.natAbs : Int) - Qq * y.natAbs = R' at *
          generalize lv (mg_i σ5 (C + 1)) (200 * u) nb = Y at *
          have h7 : (R' - Y) * D.toInt = c5 := by
            have : (R' - Y) * D.toInt = D.toInt * R' - Y * D.toInt := by grind
            omega
          rcases Int.lt_trichotomy (R' - Y) 0 with h | h | h
          · have := Int.mul_le_mul_of_nonneg_right (show R' - Y ≤ -1 by omega) (show 0 ≤ D.toInt by omega)
            omega
          · omega
          · have := Int.mul_le_mul_of_nonneg_right (show 1 ≤ R' - Y by omega) (show 0 ≤ D.toInt by omega)
            omega
        have hR0 : 0 ≤ (x.natAbs : Int) - Qq * y.natAbs ∧ (x.natAbs : Int) - Qq * y.natAbs < y.natAbs := by
          have hlv := lok_lt pd
          rw [hRR] at hlv
          refine ⟨hlv.1, ?_⟩
          apply Int.not_le.mp
          intro h
          have := Int.mul_le_mul_of_nonneg_left h (show 0 ≤ D.toInt by omega)
          omega
        have hz := tdiv_of (x := x) (y := y) (Q := Qq) (R := (x.natAbs : Int) - Qq * y.natAbs) hy0 hQ9.1 hR0.1 hR0.2 (by omega)
        have hsa : mg_i σ5 (C + 3) a = mg_i σ (C + 3) a := by
          rw [p3, r2.2.2.2.2.2 a (by omega), mw_i, o2.2.2.2.2.2 a (by omega), mw_i]
        simp only [mrf_3 hm5, ix3 (C := C) ha, ix3 (C := C) hu, if_true, hsa]
        refine wq_bd (wq_mo (lo_trims (σ := ms_i σ5 (C + 3) u (mg_i σ (C + 3) a)) (A := (x.natAbs : Int) - Qq * y.natAbs) (sg := x.sign) hfu4 hm5 hu y1 ?_ ?_ ?_ ?_) ?_)
        · rw [si_row (by omega)]; exact pd
        · rw [si_row (by omega)]; exact hRR
        · rw [si_s]; exact x6
        · rcases sign_cases x with s | s | s <;> omega
        · rintro r' ⟨v1, v2⟩
          have o6 : onl C u r.2 r'.2 := onl_tr o5 (onl_tr onl_sign v2)
          refine wq_some ⟨?_, ?_, ?_, ?_⟩
          · rw [hz.1]
            exact lm_onl o6 (Ne.symm hut) r1
          · rw [hz.2]; exact v1
          · intro s z h1 h2 h3
            have h3' : lm C (mw_l σ (C + 5) d) s z := h3
            have h4' : lm C (mw_l σ3 (C + 4) g2) s z := (lm_onl o2 h1 h3' : lm C σ3 s z)
            exact lm_onl o6 h2 (lm_onl r2 h1 h4')
          · have f1 : frm C σ (mw_l σ (C + 5) d) := ⟨rfl, fun a _ h => mw_gn _ h, fun _ _ _ _ => rfl⟩
            have f2 : frm C σ3 (mw_l σ3 (C + 4) g2) := ⟨rfl, fun a h _ => mw_gn _ h, fun _ _ _ _ => rfl⟩
            rw [mw_id]
            exact frm_tr f1 (frm_tr (onl_frm o2) (frm_tr f2 (frm_tr (onl_frm r2) (onl_frm o6))))
    · rw [Nat.sub_self, show na - nb + 1 + nb = na + 1 by omega, hupv]
      simp [lv]
-- all numbers at once
def LM (C : Nat) (σ : rr_M) (Y : Nat → Int) : Prop := mrf C σ ∧ ∀ s, s < 460 → lm C σ s (Y s)
def yup (Y : Nat → Int) (s : Nat) (z : Int) : Nat → Int := fun j => if j = s then z else Y j
theorem yup_s (Y : Nat → Int) (s : Nat) (z : Int) : yup Y s z s = z := by simp [yup]
theorem yup_n {Y : Nat → Int} {s j : Nat} {z : Int} (h : j ≠ s) : yup Y s z j = Y j := by simp [yup, h]
theorem LM_onl {C s : Nat} {σ σ' : rr_M} {Y : Nat → Int} {z : Int} (h : LM C σ Y) (ho : onl C s σ σ') (hz : lm C σ' s z) : LM C σ' (yup Y s z) := by
  refine ⟨mrf_of h.1 ho.1, fun j hj => ?_⟩
  by_cases hjs : j = s
  · subst hjs; rw [yup_s]; exact hz
  · rw [yup_n hjs]; exact lm_onl ho hjs (h.2 j hj)
theorem LM_frm {C : Nat} {σ σ' : rr_M} {Y : Nat → Int} (h : LM C σ Y) (h1 : mg_r σ' = mg_r σ) (h2 : mg_i σ' (C + 1) = mg_i σ (C + 1)) (h3 : mg_i σ' (C + 2) = mg_i σ (C + 2)) (h4 : mg_i σ' (C + 3) = mg_i σ (C + 3)) : LM C σ' Y := by
  refine ⟨mrf_of h.1 h1, fun j hj => ?_⟩
  obtain ⟨n, z1, z2, z3, z4, z5, z6⟩ := h.2 j hj
  exact ⟨n, z1, by rw [h3]; exact z2, by rw [h2]; exact z3, by rw [h2]; exact z4, by rw [h2]; exact z5, by rw [h4]; exact z6⟩
theorem mo_sets {fu C s : Nat} {σ : rr_M} {Y : Nat → Int} {v : Int64} (hfu : 70000 < fu) (h : LM C σ Y) (hs : s < 460) (hv : -9223372036854775808 < v.toInt) : wq (f_Mod_sets fu (nm C) C (nI s) v σ) (fun r => LM C r.2 (yup Y s v.toInt) ∧ frm C σ r.2) :=
  wq_mo (lo_sets (by omega) h.1 hs hv) (fun _ hr => ⟨LM_onl h hr.2 hr.1, onl_frm hr.2⟩)
theorem mo_copies {fu C s t : Nat} {σ : rr_M} {Y : Nat → Int} (hfu : 70000 < fu) (h : LM C σ Y) (hs : s < 460) (ht : t < 460) : wq (f_Mod_copies fu (nm C) C (nI t) (nI s) σ) (fun r => LM C r.2 (yup Y t (Y s)) ∧ frm C σ r.2) :=
  wq_mo (lo_copies (by omega) h.1 hs ht (h.2 s hs)) (fun _ hr => ⟨LM_onl h hr.2 hr.1, onl_frm hr.2⟩)
theorem mo_adds {fu C t a b : Nat} {σ : rr_M} {Y : Nat → Int} {by_ : Int32} {e : Int} (hfu : 70000 < fu) (h : LM C σ Y) (ht : t < 460) (ha : a < 460) (hb : b < 460) (he : e = 1 ∨ e = -1) (hby : by_.toInt = e) (sx : szn 199 (Y a)) (sy : szn 199 (Y b)) : wq (f_Mod_adds fu (nm C) C (nI t) (nI a) (nI b) by_ σ) (fun r => LM C r.2 (yup Y t (Y a + e * Y b)) ∧ frm C σ r.2) :=
  wq_mo (lo_adds (by omega) h.1 ht ha hb (h.2 a ha) (h.2 b hb) he hby sx sy) (fun _ hr => ⟨LM_onl h hr.2 hr.1, onl_frm hr.2⟩)
theorem mo_mul {fu C t a b m1 m2 : Nat} {σ : rr_M} {Y : Nat → Int} (hfu : 70000 < fu) (h : LM C σ Y) (ht : t < 460) (ha : a < 460) (hb : b < 460) (hat : a ≠ t) (hbt : b ≠ t) (sx : szn m1 (Y a)) (sy : szn m2 (Y b)) (hm12 : m1 + m2 ≤ 200) : wq (f_Mod_multiplies fu (nm C) C (nI t) (nI a) (nI b) σ) (fun r => LM C r.2 (yup Y t (Y a * Y b)) ∧ frm C σ r.2) :=
  wq_mo (lo_mul (by omega) h.1 ht ha hb hat hbt (h.2 a ha) (h.2 b hb) sx sy hm12) (fun _ hr => ⟨LM_onl h hr.2 hr.1, onl_frm hr.2⟩)
theorem mo_pow {fu C t s : Nat} {σ : rr_M} {Y : Nat → Int} (hfu : 70000 < fu) (h : LM C σ Y) (ht : t < 460) (hs : s < 3000) : wq (f_Mod_setsPower fu (nm C) C (nI t) (nI s) σ) (fun r => LM C r.2 (yup Y t (2 ^ s)) ∧ frm C σ r.2) :=
  wq_mo (lo_pow (by omega) h.1 ht hs) (fun _ hr => ⟨LM_onl h hr.2 hr.1, onl_frm hr.2⟩)
theorem mo_long {fu C s : Nat} {σ : rr_M} {Y : Nat → Int} (hfu : 70000 < fu) (h : LM C σ Y) (hs : s < 460) (h1 : -4611686018427387904 < Y s) (h2 : Y s < 4611686018427387904) : wq (f_Mod_longOf fu (nm C) C (nI s) σ) (fun v => v.toInt = Y s) := lo_long (by omega) h.1 hs (h.2 s hs) h1 h2
theorem mo_parts {fu C t u a b : Nat} {σ : rr_M} {Y : Nat → Int} (hfu : 70000 < fu) (h : LM C σ Y) (ht : t < 460) (hu : u < 460) (ha : a < 460) (hb : b < 460) (hta : t ≠ a) (htb : t ≠ b) (hua : u ≠ a) (hut : u ≠ t) (hy0 : Y b ≠ 0) :
    wq (f_Mod_parts fu (nm C) C (nI t) (nI u) (nI a) (nI b) σ) (fun r => LM C r.2 (yup (yup Y t ((Y a).tdiv (Y b))) u ((Y a).tmod (Y b))) ∧ frm C σ r.2) := by
  refine wq_mo (lo_parts hfu h.1 ht hu ha hb hta htb hua hut (h.2 a ha) (h.2 b hb) hy0) ?_
  rintro r ⟨r1, r2, r3, r4⟩
  refine ⟨⟨mrf_of h.1 r4.1, fun j hj => ?_⟩, r4⟩
  by_cases hju : j = u
  · subst hju; rw [yup_s]; exact r2
  · rw [yup_n hju]
    by_cases hjt : j = t
    · subst hjt; rw [yup_s]; exact r1
    · rw [yup_n hjt]; exact r3 j _ hjt hju (h.2 j hj)
theorem mo_sign {C s : Nat} {σ : rr_M} {Y : Nat → Int} (h : LM C σ Y) (hs : s < 460) : mg_i σ (C + 3) s = sgI (Y s) := by
  obtain ⟨n, z1, z2, z3, z4, z5, z6⟩ := h.2 s hs
  exact i_inj (by rw [z6, sgI_t])
