/-! ===== the model: signs and changes, finer sizes ===== -/
theorem sgb_l {fu C eF row d e : Nat} {σ0 : rr_M} {Y0 : Nat → Int} {f : Pl} {x w : Int} (hfu : 70000 < fu) (hrow : row < 48) (hd : d < 9) (hrw : rwY Y0 row f) (h15 : Y0 15 = x) (h16 : Y0 16 = w) (sf : ∀ t, szb eF (f t)) (sx : szb e x) (sw : szb e w) (hee : eF + d * (e + 1) ≤ 3000) {kk : rr_M → Option (Int32 × rr_M)} {Q : Int32 × rr_M → Prop}
    (hk : ∀ (σ : rr_M) (Y : Nat → Int), LM C σ Y → frm C σ0 σ → (∀ s, s ≠ 17 → s ≠ 18 → s ≠ 19 → Y s = Y0 s) → Y 18 = hv f x w d d → wq (kk σ) Q) :
    ∀ (fl t : Nat) (σ : rr_M) (Y : Nat → Int), t ≤ d → t < fl → LM C σ Y → frm C σ0 σ → (∀ s, s ≠ 17 → s ≠ 18 → s ≠ 19 → Y s = Y0 s) → Y 17 = w ^ (d - t) → Y 18 = hv f x w d (d - t) →
      wq (l_Mod_signAt_39 fu (nm C) C (nI row) fl (nI t - 1) σ kk) Q
  | 0, t, σ, Y, h1, h2, _, _, _, _, _ => by omega
  | fl + 1, 0, σ, Y, h1, h2, hY, hF, hO, h17, h18 => by
    rw [l_Mod_signAt_39, if_pos (by decide)]
    exact hk σ Y hY hF hO h18
  | fl + 1, t + 1, σ, Y, h1, h2, hY, hF, hO, h17, h18 => by
    have e1 : nI (t + 1) - 1 = nI t := nI_pred t
    have c1 : ¬ nI t < 0 := nI_pos (by omega)
    have e2 : nI t + (-1) = nI t - 1 := (Int32.sub_eq_add_neg (nI t) 1).symm
    have y16 : Y 16 = w := by rw [hO 16 (by omega) (by omega) (by omega)]; exact h16
    have y15 : Y 15 = x := by rw [hO 15 (by omega) (by omega) (by omega)]; exact h15
    obtain ⟨m, hm⟩ : ∃ m, m = d - (t + 1) := ⟨_, rfl⟩
    rw [← hm] at h17 h18
    have hmd : (m + 1) * (e + 1) ≤ d * (e + 1) := Nat.mul_le_mul_right _ (by omega)
    have hsm : (m + 1) * (e + 1) = m * (e + 1) + (e + 1) := Nat.succ_mul _ _
    have hem : e * (m + 1) ≤ (m + 1) * (e + 1) := by rw [Nat.mul_comm e]; exact Nat.mul_le_mul_left _ (by omega)
    have hem2 : e * m + e = e * (m + 1) := (Nat.mul_succ e m).symm
    rw [l_Mod_signAt_39, e1, if_neg c1]
    refine wq_bd (wq_mo (mo_mulb (t := 19) (a := 17) (b := 16) (e1 := e * m) (e2 := e) hfu hY (by omega) (by omega) (by omega) (by omega) (by omega) (by rw [h17]; exact szb_pow sw m) (by rw [y16]; exact sw) (by omega)) ?_)
    rintro r1 ⟨L1, F1⟩
    refine wq_bd (wq_mo (mo_copies (t := 17) (s := 19) hfu L1 (by omega) (by omega)) ?_)
    rintro r2 ⟨L2, F2⟩
    rw [yup_s, h17, y16, ← Int.pow_succ] at L2
    have a18 : yup (yup Y 19 (w ^ (m + 1))) 17 (w ^ (m + 1)) 18 = hv f x w d m := by rw [yup_n (by omega), yup_n (by omega)]; exact h18
    have a15 : yup (yup Y 19 (w ^ (m + 1))) 17 (w ^ (m + 1)) 15 = x := by rw [yup_n (by omega), yup_n (by omega)]; exact y15
    have L2' : LM C r2.2 (yup (yup Y 19 (w ^ (m + 1))) 17 (w ^ (m + 1))) := L2
    refine wq_bd (wq_mo (mo_mulb (t := 19) (a := 18) (b := 15) (e1 := eF + m * (e + 1)) (e2 := e) hfu L2' (by omega) (by omega) (by omega) (by omega) (by omega) (by rw [a18]; exact hv_bit sf sx sw (Nat.le_refl _) m) (by rw [a15]; exact sx) (by omega)) ?_)
    rintro r3 ⟨L3, F3⟩
    rw [a18, a15] at L3
    rw [slot_ok]
    have sl := slt_ge row t
    have at_ : yup (yup (yup Y 19 (w ^ (m + 1))) 17 (w ^ (m + 1))) 19 (hv f x w d m * x) (slt row t) = f t := by
      rw [yup_n (by omega), yup_n (by omega), yup_n (by omega), hO _ (by omega) (by omega) (by omega)]
      exact hrw t (by omega)
    have a17 : yup (yup (yup Y 19 (w ^ (m + 1))) 17 (w ^ (m + 1))) 19 (hv f x w d m * x) 17 = w ^ (m + 1) := by rw [yup_n (by omega), yup_s]
    refine wq_ob (wq_some (wq_bd (wq_mo (mo_mulb (t := 18) (b := 17) (e1 := eF) (e2 := e * (m + 1)) hfu L3 (by omega) (slt_lt hrow (show t < 9 by omega)) (by omega) (by omega) (by omega) (by rw [at_]; exact sf t) (by rw [a17]; exact szb_pow sw (m + 1)) (by omega)) ?_)))
    rintro r4 ⟨L4, F4⟩
    rw [at_, a17] at L4
    have b19 : yup (yup (yup (yup Y 19 (w ^ (m + 1))) 17 (w ^ (m + 1))) 19 (hv f x w d m * x)) 18 (f t * w ^ (m + 1)) 19 = hv f x w d m * x := by rw [yup_n (by omega), yup_s]
    have b18 : yup (yup (yup (yup Y 19 (w ^ (m + 1))) 17 (w ^ (m + 1))) 19 (hv f x w d m * x)) 18 (f t * w ^ (m + 1)) 18 = f t * w ^ (m + 1) := yup_s _ _ _
    refine wq_bd (wq_mo (mo_addb (t := 18) (a := 19) (b := 18) (by_ := 1) (e := 1) (e1 := 3000) hfu L4 (by omega) (by omega) (by omega) (Or.inl rfl) rfl (by rw [b19]; exact szb_mono (szb_mul (hv_bit sf sx sw (Nat.le_refl _) m) sx) (by omega)) (by rw [b18]; exact szb_mono (szb_mul (sf t) (szb_pow sw (m + 1))) (by omega)) (by omega)) ?_)
    rintro r5 ⟨L5, F5⟩
    rw [b19, b18] at L5
    dsimp only [rr_lt]
    rw [e2]
    refine sgb_l hfu hrow hd hrw h15 h16 sf sx sw hee hk fl t r5.2 _ (by omega) (by omega) L5 (frm_tr hF (frm_tr F1 (frm_tr F2 (frm_tr F3 (frm_tr F4 F5))))) ?_ ?_ ?_
    · intro s s1 s2 s3
      rw [yup_n s2, yup_n s2, yup_n s3, yup_n s1, yup_n s3]
      exact hO s s1 s2 s3
    · rw [yup_n (by omega), yup_n (by omega), yup_n (by omega), yup_s]
      congr 1
      omega
    · rw [yup_s, show d - t = m + 1 by omega, hv, show d - (m + 1) = t by omega]
      omega
theorem sgb_ok {fu C eF row d e s : Nat} {σ : rr_M} {Y : Nat → Int} {f : Pl} {x l : Int} (hfu : 70000 < fu) (hY : LM C σ Y) (hrow : row < 48) (hd : d < 9) (hrw : rwY Y row f) (hdg : mg_i σ (C + 6) row = nI d) (hlo : (mg_i σ (C + 7) row).toInt = l) (hl : l = 1 ∨ l = -1) (hfd : pbd (d + 1) f) (h15 : Y 15 = x) (sf : ∀ t, szb eF (f t)) (sx : szb e x) (hse : s ≤ e) (hee : eF + d * (e + 1) ≤ 3000) (hs : s < 3000) :
    wq (f_Mod_signAt fu (nm C) C (nI row) (nI s) σ) (fun y => y.1 = sgI (l * hv f x (2 ^ s) d d) ∧ frm C σ y.2 ∧ ∃ Y', LM C y.2 Y' ∧ (∀ t, t ≠ 16 → t ≠ 17 → t ≠ 18 → t ≠ 19 → Y' t = Y t)) := by
  have sw : szb e ((2 : Int) ^ s) := by
    unfold szb
    rw [Int.natAbs_pow]
    exact Nat.pow_le_pow_right (by decide) hse
  have mr : rr_n (nI row) = row := n_nI (by omega)
  unfold f_Mod_signAt
  refine wq_bd (wq_mo (mo_pow (t := 16) hfu hY (by omega) hs) ?_)
  rintro r1 ⟨L1, F1⟩
  refine wq_bd (wq_mo (mo_sets (s := 17) (v := 1) hfu L1 (by omega) (by decide)) ?_)
  rintro r2 ⟨L2, F2⟩
  have d2 : mg_i r2.2 (C + 6) row = nI d := by rw [frm_i F2 (by omega) (by omega) (by omega), frm_i F1 (by omega) (by omega) (by omega)]; exact hdg
  dsimp only [rr_lt]
  rw [mrf_6 L2.1, mr, d2, slot_ok]
  refine wq_ip (ix6 hrow) (wq_ob (wq_some ?_))
  refine wq_bd (wq_mo (mo_copies (t := 18) hfu L2 (slt_lt hrow hd) (by omega)) ?_)
  rintro r3 ⟨L3, F3⟩
  have sl := slt_ge row d
  have big : ∀ j, j < 9 → yup (yup Y 16 (2 ^ s)) 17 (1 : Int64).toInt (slt row j) = f j := fun j hj => by
    have := slt_ge row j
    rw [yup_n (by omega), yup_n (by omega)]; exact hrw j hj
  rw [big d hd] at L3
  have d3 : mg_i r3.2 (C + 6) row = nI d := by rw [frm_i F3 (by omega) (by omega) (by omega)]; exact d2
  rw [mrf_6 L3.1, d3]
  refine wq_ip (ix6 hrow) ?_
  refine sgb_l (σ0 := r3.2) (Y0 := yup (yup (yup Y 16 (2 ^ s)) 17 (1 : Int64).toInt) 18 (f d)) (f := f) (x := x) (w := 2 ^ s) (e := e) hfu hrow hd (fun j hj => by have := slt_ge row j; rw [yup_n (by omega)]; exact big j hj) (by rw [yup_n (by omega), yup_n (by omega), yup_n (by omega)]; exact h15) (by rw [yup_n (by omega), yup_n (by omega), yup_s]) sf sx sw hee ?_ fu d r3.2 _ (Nat.le_refl _) (by omega) L3 (frm_rfl _ _) (fun _ _ _ _ => rfl) (by rw [yup_n (by omega), yup_s, Nat.sub_self, Int.pow_zero]; rfl) (by rw [yup_s, Nat.sub_self]; rfl)
  intro σ4 Y4 L4 F4 O4 V4
  have Fall : frm C σ σ4 := frm_tr F1 (frm_tr F2 (frm_tr F3 F4))
  have i18 : rr_ix 18 (nm C (C + 3)) = true := ix3 (s := 18) (by omega)
  have m18 : rr_n 18 = 18 := rfl
  have l4 : mg_i σ4 (C + 7) row = mg_i σ (C + 7) row := by rw [frm_i Fall (by omega) (by omega) (by omega)]
  rw [mrf_7 L4.1, mrf_3 L4.1, m18, mo_sign L4 (show 18 < 460 by omega), V4, l4]
  refine wq_ip (ix7 hrow) (wq_ip i18 (wq_some ⟨?_, Fall, Y4, L4, ?_⟩))
  · show mg_i σ (C + 7) row * sgI (hv f x (2 ^ s) d d) = sgI (l * hv f x (2 ^ s) d d)
    apply i_inj
    have hm : (mg_i σ (C + 7) row * sgI (hv f x (2 ^ s) d d)).toInt = l * (hv f x (2 ^ s) d d).sign := by
      have hsc := sign_cases (hv f x (2 ^ s) d d)
      rw [Jvm.Kit.i32_mul (by rw [hlo, sgI_t]; rcases hl with a | a <;> rcases hsc with b | b | b <;> rw [a, b.1] <;> decide) (by rw [hlo, sgI_t]; rcases hl with a | a <;> rcases hsc with b | b | b <;> rw [a, b.1] <;> decide), hlo, sgI_t]
    rw [hm, sgI_t, Int.sign_mul]
    rcases hl with a | a <;> rw [a] <;> rfl
  · intro t t1 t2 t3 t4
    rw [O4 t t2 t3 t4, yup_n t3, yup_n t2, yup_n t1]
theorem chh_l {fu C first s' M e s : Nat} {σ0 : rr_M} {Y0 : Nat → Int} {p q : Pl} {x : Int} (hfu : 70000 < fu) (h : gdp p q s') (he : ends p q M) (hM : M ≤ 10) (hf : first + 11 ≤ 48) (h15 : Y0 15 = x) (sx : szb e x) (hse : s ≤ e) (hee : 64 + dgg p * (e + 1) ≤ 3000 ∧ 600 + (dgg p - 1) * (e + 1) ≤ 3000) (hqp : dgg q < dgg p) (hs : s < 3000) (hR : mrs C first (M - 1) σ0 Y0 p q) {kk : Int32 → rr_M → Option (Int32 × rr_M)} {Q : Int32 × rr_M → Prop} {V : Nat} (hV : V ≤ 100)
    (hk : ∀ (σ : rr_M) (Y : Nat → Int), LM C σ Y → frm C σ0 σ → (∀ t, t ≠ 16 → t ≠ 17 → t ≠ 18 → t ≠ 19 → Y t = Y0 t) → wq (kk (nI V) σ) Q) :
    ∀ (m : Nat) (f k : Nat) (had : Int) (c : Nat) (σ : rr_M) (Y : Nat → Int), m + k = M → m < f → LM C σ Y → frm C σ0 σ → (∀ t, t ≠ 16 → t ≠ 17 → t ≠ 18 → t ≠ 19 → Y t = Y0 t) → (had = 1 ∨ had = -1 ∨ had = 0) → c + scv had (if m = 0 then [] else srw (fun i => vl (cc p q i)) ((x : Rat) / (2 : Rat) ^ s) k (m - 1)) = V →
      wq (l_Mod_changes_9 fu (nm C) C (nI first) (nI M) (nI s) f (sgI had) (nI c) (nI k) σ kk) Q
  | 0, f + 1, k, had, c, σ, Y, h1, h2, hY, hF, hO, hh, hc => by
    rw [l_Mod_changes_9]
    rw [if_pos rfl] at hc
    have : c = V := hc
    rw [this]
    exact wq_ip (nI_le (by omega) (by omega)) (hk σ Y hY hF hO)
  | m + 1, f + 1, k, had, c, σ, Y, h1, h2, hY, hF, hO, hh, hc => by
    have c0 : ¬ nI M ≤ nI k := nI_ge (by omega) (by omega)
    obtain ⟨a1, a2, a3⟩ := hR k (by omega)
    obtain ⟨l1, l2, l3⟩ := ends_sg h he (show k < M by omega)
    obtain ⟨q1, q2⟩ := sgp_hv h he (show k < M by omega) x s
    have h8 := dgg_lt (mm p q k)
    obtain ⟨eF, sf, hdd⟩ : ∃ eF, (∀ t, szb eF (mm p q k t)) ∧ eF + dgg (mm p q k) * (e + 1) ≤ 3000 := by
      have hm1 : mmn p q k := fun i hi => he.2.1 i (by omega)
      by_cases hk0 : k = 0
      · subst hk0
        exact ⟨64, fun t => szb_mono (gdp_0 h t) h.2.2.2.2.2.2.2.2.2, hee.1⟩
      · refine ⟨600, fun t => szb_mono (mm_bit h (fun i hi => hm1 i (by omega)) (fun i hi h3 => he.2.2.1 i (by omega) h3) t) (by have := (bits_ok h (k := k) (by omega) hm1 (fun i hi h3 => he.2.2.1 i (by omega) h3)).2.2.2.1; omega), ?_⟩
        have := ends_dec h.1 h.2.1 h.2.2.2.2.1 (k - 1) (fun i hi => he.2.1 i (by omega)) (fun i hi h3 => he.2.2.1 i (by omega) h3)
        rw [show k - 1 + 1 = k by omega] at this
        have hd1 : dgg (mm p q k) * (e + 1) ≤ (dgg p - 1) * (e + 1) := Nat.mul_le_mul_right _ (by omega)
        omega
    have rw1 : rwY Y (first + k) (mm p q k) := fun j hj => by
      have := slt_ge (first + k) j
      rw [hO _ (by omega) (by omega) (by omega) (by omega)]; exact a1 j hj
    rw [l_Mod_changes_9, if_neg c0, nI_add]
    refine wq_bd (wq_mo (sgb_ok (row := first + k) (d := dgg (mm p q k)) (f := mm p q k) (x := x) (l := lo p q k) (e := e) hfu hY (by omega) (by omega) rw1 (by rw [frm_i hF (by omega) (by omega) (by omega)]; exact a2) (by rw [frm_i hF (by omega) (by omega) (by omega)]; exact a3) l1 l2.2 (by rw [hO 15 (by omega) (by omega) (by omega) (by omega)]; exact h15) sf sx hse hdd hs) ?_)
    rintro y ⟨y1, F1, Y1, L1, O1⟩
    rw [y1, q1]
    have hv0 : (sgI (hv (cc p q k) x (2 ^ s) (dgg (mm p q k)) (dgg (mm p q k)))) = sgI (sgp p q x s k) := sgI_eq.mpr (by rw [q2]; unfold sgp; rcases sgq_t (vl (cc p q k) ((x : Rat) / (2 : Rat) ^ s)) with z | z | z <;> rw [z.1] <;> rfl)
    rw [hv0]
    have hO2 : ∀ t, t ≠ 16 → t ≠ 17 → t ≠ 18 → t ≠ 19 → Y1 t = Y0 t := fun t t1 t2 t3 t4 => by rw [O1 t t1 t2 t3 t4]; exact hO t t1 t2 t3 t4
    rw [if_neg (by omega), show m + 1 - 1 = m by omega] at hc
    have hlist : srw (fun i => vl (cc p q i)) ((x : Rat) / (2 : Rat) ^ s) k m = sgp p q x s k :: (if m = 0 then [] else srw (fun i => vl (cc p q i)) ((x : Rat) / (2 : Rat) ^ s) (k + 1) (m - 1)) := by
      match m with
      | 0 => rfl
      | m + 1 => rfl
    rw [hlist] at hc
    have hsg : sgp p q x s k = 1 ∨ sgp p q x s k = -1 ∨ sgp p q x s k = 0 := by unfold sgp; rcases sgq_t (vl (cc p q k) ((x : Rat) / (2 : Rat) ^ s)) with z | z | z <;> rw [z.1] <;> omega
    dsimp only [rr_lt, rr_jn]
    simp only [scv] at hc
    by_cases hz : sgp p q x s k = 0
    · rw [hz, if_pos (show sgI 0 = 0 from rfl), nI_1]
      rw [if_pos hz] at hc
      exact chh_l hfu h he hM hf h15 sx hse hee hqp hs hR hV hk m f (k + 1) had c y.2 Y1 (by omega) (by omega) L1 (frm_tr hF F1) hO2 hh hc
    · rw [if_neg hz] at hc
      have hne : ¬ sgI (sgp p q x s k) = 0 := fun hh2 => hz (sgI_0.mp hh2)
      rw [if_neg hne, nI_1]
      have goon : ∀ t : Nat, t = c + (if sgp p q x s k = -had then 1 else 0) → wq (l_Mod_changes_9 fu (nm C) C (nI first) (nI M) (nI s) f (sgI (sgp p q x s k)) (nI t) (nI (k + 1)) y.2 kk) Q := by
        intro t ht
        exact chh_l hfu h he hM hf h15 sx hse hee hqp hs hR hV hk m f (k + 1) (sgp p q x s k) t y.2 Y1 (by omega) (by omega) L1 (frm_tr hF F1) hO2 hsg (by rw [ht]; omega)
      have z0 : nI c + 0 = nI c := Int32.add_zero _
      rw [z0, nI_1]
      by_cases h0 : had = 0
      · rw [h0, if_pos (show sgI 0 = 0 from rfl)]
        exact goon c (by rw [h0, if_neg (by omega)]; omega)
      · rw [if_neg (fun hh2 => h0 (sgI_0.mp hh2))]
        by_cases heq : sgp p q x s k = had
        · rw [heq, if_pos rfl]
          rw [heq] at goon
          exact goon c (by rw [if_neg (by omega)]; omega)
        · have hn : ¬ sgI (sgp p q x s k) = sgI had := fun hh2 => heq (by
            have := sgI_eq.mp hh2
            rcases hsg with a | a | a <;> rcases hh with b | b | b <;> rw [a, b] at this ⊢ <;> first | rfl | (simp at this))
          rw [if_neg hn]
          exact goon (c + 1) (by rw [if_pos (by omega)])
theorem chh_ok {fu C first s' M e s : Nat} {σ : rr_M} {Y : Nat → Int} {p q : Pl} {x : Int} (hfu : 70000 < fu) (hY : LM C σ Y) (h : gdp p q s') (he : ends p q M) (hM : M ≤ 10) (hf : first + 11 ≤ 48) (h15 : Y 15 = x) (sx : szb e x) (hse : s ≤ e) (hee : 64 + dgg p * (e + 1) ≤ 3000 ∧ 600 + (dgg p - 1) * (e + 1) ≤ 3000) (hqp : dgg q < dgg p) (hs : s < 3000) (hR : mrs C first (M - 1) σ Y p q) :
    wq (f_Mod_changes fu (nm C) C (nI first) (nI M) (nI s) σ) (fun y => y.1 = nI (vcs (cc p q) (M - 1) ((x : Rat) / (2 : Rat) ^ s)) ∧ frm C σ y.2 ∧ ∃ Y', LM C y.2 Y' ∧ (∀ t, t ≠ 16 → t ≠ 17 → t ≠ 18 → t ≠ 19 → Y' t = Y t)) := by
  have h2 := he.1
  have hv := vcs_le (cc p q) (M - 1) ((x : Rat) / (2 : Rat) ^ s)
  unfold f_Mod_changes
  refine chh_l (V := vcs (cc p q) (M - 1) ((x : Rat) / (2 : Rat) ^ s)) hfu h he hM hf h15 sx hse hee hqp hs hR (by omega) ?_ M fu 0 0 0 σ Y (by omega) (by omega) hY (frm_rfl _ _) (fun _ _ _ _ _ => rfl) (Or.inr (Or.inr rfl)) ?_
  · intro σ1 Y1 L1 F1 O1
    exact wq_some ⟨rfl, F1, Y1, L1, O1⟩
  · rw [if_neg (by omega), Nat.zero_add]
    rfl
