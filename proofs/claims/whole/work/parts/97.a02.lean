/-! ===== the model: primitive parts ===== -/
def shg (G : Pl) (t c : Nat) : Prop := (∀ k, t ≤ k → k < 9 → c ∣ (G k).natAbs) ∧ (∀ l, (∀ k, t ≤ k → k < 9 → l ∣ (G k).natAbs) → l ∣ c)
theorem ctt_l {fu C row e : Nat} {σ0 : rr_M} {Y0 : Nat → Int} {G : Pl} (hfu : 70000 < fu) (hrow : row < 48) (hG : rwY Y0 row G) (sG : ∀ t, szb e (G t)) (he : e ≤ 600) {kk : rr_M → Option (Unit × rr_M)} {Q : Unit × rr_M → Prop}
    (hk : ∀ (σ : rr_M) (Y : Nat → Int), LM C σ Y → frm C σ0 σ → (∀ s, s ≠ 11 → s ≠ 12 → s ≠ 13 → s ≠ 14 → Y s = Y0 s) → Y 11 ≠ 0 → shg G 0 (Y 11).natAbs → wq (kk σ) Q) :
    ∀ (t f : Nat) (σ : rr_M) (Y : Nat → Int), t ≤ 8 → t < f → LM C σ Y → frm C σ0 σ → (∀ s, s ≠ 11 → s ≠ 12 → s ≠ 13 → s ≠ 14 → Y s = Y0 s) → Y 11 ≠ 0 → shg G t (Y 11).natAbs →
      wq (l_Mod_contents_33 fu (nm C) C (nI row) f (nI t - 1) σ kk) Q
  | 0, f + 1, σ, Y, h1, h2, hY, hF, hO, h11, hs => by
    rw [l_Mod_contents_33, if_pos (by decide)]
    exact hk σ Y hY hF hO h11 hs
  | t + 1, f + 1, σ, Y, h1, h2, hY, hF, hO, h11, hs => by
    have e1 : nI (t + 1) - 1 = nI t := nI_pred t
    have c1 : ¬ nI t < 0 := nI_pos (by omega)
    have e2 : nI t + (-1) = nI t - 1 := (Int32.sub_eq_add_neg (nI t) 1).symm
    have sl := slt_ge row t
    have hYt : Y (slt row t) = G t := by rw [hO _ (by omega) (by omega) (by omega) (by omega)]; exact hG t (by omega)
    rw [l_Mod_contents_33, e1, if_neg c1, slot_ok]
    refine wq_ob (wq_some (wq_bd (wq_mo (mo_copies (t := 12) hfu hY (slt_lt hrow (show t < 9 by omega)) (by omega)) ?_)))
    rintro r1 ⟨L1, F1⟩
    rw [hYt] at L1
    have hlt : (yup Y 12 (G t) 12).natAbs < 2 ^ (e + 1) := by
      rw [yup_s]
      have := sG t
      unfold szb at this
      rw [Nat.pow_succ]
      have : 0 < 2 ^ e := Nat.pow_pos (by decide)
      omega
    refine ctt_e (σ0 := r1.2) (Y0 := yup Y 12 (G t)) (G := Nat.gcd (Y 11).natAbs (G t).natAbs) hfu ?_ (e + 1) fu r1.2 _ hlt (by omega) L1 (frm_rfl _ _) (fun _ _ _ _ _ => rfl) (by rw [yup_n (by omega)]; exact h11) (by rw [yup_n (by omega), yup_s])
    intro σ2 Y2 L2 F2 O2 h211 hg
    rw [e2]
    refine ctt_l hfu hrow hG sG he hk t f σ2 Y2 (by omega) (by omega) L2 (frm_tr hF (frm_tr F1 F2)) (fun s s1 s2 s3 s4 => ?_) h211 ?_
    · rw [O2 s s1 s2 s3 s4, yup_n s2]; exact hO s s1 s2 s3 s4
    · rw [hg]
      refine ⟨fun k hk1 hk2 => ?_, fun l hl => ?_⟩
      · by_cases hkt : k = t
        · subst hkt; exact Nat.gcd_dvd_right _ _
        · exact Nat.dvd_trans (Nat.gcd_dvd_left _ _) (hs.1 k (by omega) hk2)
      · exact Nat.dvd_gcd (hs.2 l (fun k hk1 hk2 => hl k (by omega) hk2)) (hl t (Nat.le_refl _) (by omega))
theorem shg_ctf {G : Pl} {c : Nat} (h : shg G 0 c) : c = ctf 9 G :=
  Nat.dvd_antisymm (ctf_gr G c 9 (fun k hk => h.1 k (Nat.zero_le _) hk)) (h.2 _ (fun k _ hk => ctf_dvd G 9 k hk))
theorem ctt_ok {fu C row e : Nat} {σ : rr_M} {Y : Nat → Int} {G : Pl} (hfu : 70000 < fu) (hY : LM C σ Y) (hrow : row < 48) (hG : rwY Y row G) (h9 : pbd 9 G) (hG0 : 0 < dln G) (hdg : mg_i σ (C + 6) row = nI (dgg G)) (sG : ∀ t, szb e (G t)) (he : e ≤ 600) :
    wq (f_Mod_contents fu (nm C) C (nI row) σ) (fun y => frm C σ y.2 ∧ ∃ Y', LM C y.2 Y' ∧ (∀ s, s ≠ 11 → s ≠ 12 → s ≠ 13 → s ≠ 14 → Y' s = Y s) ∧ Y' 11 = (ctf 9 G : Int)) := by
  obtain ⟨hd, h8⟩ := dln_top h9 hG0
  have mr : rr_n (nI row) = row := n_nI (by omega)
  have i11 : rr_ix 11 (nm C (C + 3)) = true := ix3 (s := 11) (by omega)
  have m11 : rr_n 11 = 11 := rfl
  unfold f_Mod_contents
  dsimp only [rr_lt]
  rw [mrf_6 hY.1, mr, hdg, slot_ok]
  refine wq_ip (ix6 hrow) (wq_ob (wq_some ?_))
  refine wq_bd (wq_mo (mo_copies (t := 11) hfu hY (slt_lt hrow h8) (by omega)) ?_)
  rintro r1 ⟨L1, F1⟩
  rw [hG _ h8] at L1
  have L2 := LM_abs L1 (show 11 < 460 by omega) (by rw [yup_s]; exact hd.1)
  rw [yup_s] at L2
  have d1 : mg_i (ms_i r1.2 (C + 3) 11 1) (C + 6) row = nI (dgg G) := by rw [si_row (by omega), frm_i F1 (by omega) (by omega) (by omega)]; exact hdg
  rw [mrf_3 L1.1, m11]
  refine wq_ip i11 ?_
  rw [mrf_6 L2.1, d1]
  refine wq_ip (ix6 hrow) ?_
  have F2 : frm C σ (ms_i r1.2 (C + 3) 11 1) := frm_tr F1 (onl_frm (onl_sign (s := 11)))
  refine ctt_l (σ0 := ms_i r1.2 (C + 3) 11 1) (Y0 := yup (yup Y 11 (G (dgg G))) 11 ((G (dgg G)).natAbs : Int)) (G := G) (e := e) hfu hrow (fun j hj => by have := slt_ge row j; rw [yup_n (by omega), yup_n (by omega)]; exact hG j hj) sG he ?_ (dgg G) fu _ _ (by omega) (by omega) L2 (frm_rfl _ _) (fun _ _ _ _ _ => rfl) (by rw [yup_s]; have := hd.1; omega) ?_
  · intro σ3 Y3 L3 F3 O3 h311 hs3
    rw [mrf_3 L3.1]
    refine wq_ip i11 (wq_some ⟨frm_tr F2 (frm_tr F3 (onl_frm (onl_sign (s := 11)))), _, LM_abs L3 (show 11 < 460 by omega) h311, fun s s1 s2 s3 s4 => ?_, ?_⟩)
    · rw [yup_n s1, O3 s s1 s2 s3 s4, yup_n s1, yup_n s1]
    · rw [yup_s, shg_ctf hs3]
  · rw [yup_s]
    simp only [Int.natAbs_natCast]
    refine ⟨fun k hk1 hk2 => ?_, fun l hl => hl _ (Nat.le_refl _) h8⟩
    by_cases hk : k = dgg G
    · subst hk; exact Nat.dvd_refl _
    · rw [hd.2 k (by omega)]; exact Nat.dvd_zero _
theorem pln_l {fu C row rp : Nat} {σ0 : rr_M} {Y0 : Nat → Int} {G : Pl} {w : Int32} (hfu : 70000 < fu) (hrow : row < 48) (hrp : rp < 22) (hG : rwY Y0 row G) (h9 : pbd 9 G) (hG0 : 0 < dln G) (hdg : mg_i σ0 (C + 6) row = nI (dgg G)) (h11 : Y0 11 = (ctf 9 G : Int)) (hw : w.toInt = (G (dgg G)).sign) (hsz : ∀ k, -1099511627776 ≤ ppt G k ∧ ppt G k ≤ 1099511627776) {kk : rr_M → Option (Unit × rr_M)} {Q : Unit × rr_M → Prop}
    (hk : ∀ (σ : rr_M) (Y : Nat → Int), LM C σ Y → mg_r σ = mg_r σ0 → (∀ a, a ≠ C + 1 → a ≠ C + 2 → a ≠ C + 3 → mg_i σ a = mg_i σ0 a) → (∀ a, a ≠ C + 4 → a ≠ C + 5 → a ≠ C + 8 → mg_l σ a = mg_l σ0 a) → (∀ i, (i < 9 * rp ∨ 9 * rp + 9 ≤ i) → mg_l σ (C + 8) i = mg_l σ0 (C + 8) i) → (∀ s, s ≠ 13 → s ≠ 14 → Y s = Y0 s) → mpo C σ rp (ppt G) → wq (kk σ) Q) :
    ∀ (f k : Nat) (σ : rr_M) (Y : Nat → Int), k ≤ 9 → 10 - k ≤ f → LM C σ Y → mg_r σ = mg_r σ0 → (∀ a, a ≠ C + 1 → a ≠ C + 2 → a ≠ C + 3 → mg_i σ a = mg_i σ0 a) → (∀ a, a ≠ C + 4 → a ≠ C + 5 → a ≠ C + 8 → mg_l σ a = mg_l σ0 a) → (∀ i, (i < 9 * rp ∨ 9 * rp + 9 ≤ i) → mg_l σ (C + 8) i = mg_l σ0 (C + 8) i) → (∀ s, s ≠ 13 → s ≠ 14 → Y s = Y0 s) → (∀ j, j < k → (mg_l σ (C + 8) (9 * rp + j)).toInt = ppt G j) →
      wq (l_Mod_plains_24 fu (nm C) C (nI rp) (nI row) w f (nI k) σ kk) Q
  | 0, k, σ, Y, h1, h2, _, _, _, _, _, _, _ => by omega
  | f + 1, k, σ, Y, h1, h2, hY, hr, hi, hll, hl8, hO, hN => by
    obtain ⟨g1, g2, g3, g4, g5, g6⟩ := ppt_ok h9 hG0
    obtain ⟨hd, h8⟩ := dln_top h9 hG0
    rw [l_Mod_plains_24]
    by_cases hk9 : k = 9
    · subst hk9
      exact wq_ip (by decide) (hk σ Y hY hr hi hll hl8 hO hN)
    · have c0 : ¬ (9 : Int32) ≤ nI k := nI_ge (b := 9) (by omega) (by omega)
      have mr : rr_n (nI row) = row := n_nI (by omega)
      have d1 : mg_i σ (C + 6) row = nI (dgg G) := by rw [hi _ (by omega) (by omega) (by omega)]; exact hdg
      rw [if_neg c0]
      dsimp only [rr_lt, rr_jn]
      rw [mrf_6 hY.1, mr, d1]
      refine wq_ip (ix6 hrow) ?_
      have fin : ∀ (v : Int64) (σ1 : rr_M) (Y1 : Nat → Int), LM C σ1 Y1 → frm C σ σ1 → (∀ s, s ≠ 13 → s ≠ 14 → Y1 s = Y s) → v.toInt = ppt G k → wq (rr_bd (f_Mod_puts (nm C) C (nI rp) (nI k) v σ1) fun _ σ_12 => l_Mod_plains_24 fu (nm C) C (nI rp) (nI row) w f (nI k + 1) σ_12 kk) Q := by
        intro v σ1 Y1 L1 F1 O1 hv
        rw [mput_ok L1.1 (by omega) (by omega)]
        refine wq_bd (wq_some ?_)
        dsimp only
        rw [nI_1]
        refine pln_l hfu hrow hrp hG h9 hG0 hdg h11 hw hsz hk f (k + 1) _ Y1 (by omega) (by omega) (LM_frm L1 rfl rfl rfl rfl) (by rw [sl_r, F1.1]; exact hr) (fun a x y z => by rw [sl_i, F1.2.2 a x y z]; exact hi a x y z) (fun a x y z => by rw [rr_oL z, F1.2.1 a x y]; exact hll a x y z) (fun i hi2 => by rw [sl_n (Or.inr (by omega)), F1.2.1 _ (by omega) (by omega)]; exact hl8 i hi2) (fun s s1 s2 => by rw [O1 s s1 s2]; exact hO s s1 s2) (fun j hj => ?_)
        by_cases hjk : j = k
        · subst hjk; rw [sl_s]; exact hv
        · rw [sl_n (Or.inr (by omega)), F1.2.1 _ (by omega) (by omega)]; exact hN j (by omega)
      by_cases hkd : dgg G < k
      · rw [if_pos (nI_lt hkd (by omega))]
        refine fin 0 σ Y hY (frm_rfl _ _) (fun _ _ _ => rfl) ?_
        rw [g5.2 k (by omega)]
        rfl
      · rw [if_neg (nI_nlt (by omega) (by omega)), slot_ok]
        have y11 : Y 11 = (ctf 9 G : Int) := by rw [hO 11 (by omega) (by omega)]; exact h11
        have hcp := ctf_pos (n := 9) (k := dgg G) h8 hd.1
        have sl := slt_ge row k
        have yk : Y (slt row k) = G k := by rw [hO _ (by omega) (by omega)]; exact hG k (by omega)
        refine wq_ob (wq_some (wq_bd (wq_mo (mo_parts (t := 13) (u := 14) (a := slt row k) (b := 11) hfu hY (by omega) (by omega) (slt_lt hrow (by omega)) (by omega) (by omega) (by omega) (by omega) (by omega) (by rw [y11]; omega)) ?_)))
        rintro r1 ⟨L1, F1⟩
        rw [yk, y11] at L1
        have hval : (G k).tdiv (ctf 9 G : Int) = (G (dgg G)).sign * ppt G k := by
          have e := congrFun g3 k
          have e : (G (dgg G)).sign * (ctf 9 G : Int) * ppt G k = G k := e
          rw [← e, show (G (dgg G)).sign * (ctf 9 G : Int) * ppt G k = (G (dgg G)).sign * ppt G k * (ctf 9 G : Int) by grind]
          exact Int.mul_tdiv_cancel _ (by omega)
        have hs := sign_pm hd.1
        have hb := hsz k
        have y13 : yup (yup Y 13 ((G k).tdiv (ctf 9 G : Int))) 14 ((G k).tmod (ctf 9 G : Int)) 13 = (G (dgg G)).sign * ppt G k := by rw [yup_n (by omega), yup_s]; exact hval
        refine wq_ob (wq_mo (mo_long (s := 13) hfu L1 (by omega) (by rw [y13]; rcases hs with a | a <;> rw [a] <;> omega) (by rw [y13]; rcases hs with a | a <;> rw [a] <;> omega)) ?_)
        intro v hv
        rw [y13] at hv
        refine fin (w.toInt64 * v) r1.2 _ L1 F1 (fun s s1 s2 => by rw [yup_n s2, yup_n s1]) ?_
        have w1 : w.toInt64.toInt = (G (dgg G)).sign := by rw [Jvm.Kit.i64_of_i32]; exact hw
        have e9 : (G (dgg G)).sign * ((G (dgg G)).sign * ppt G k) = ppt G k := by rw [← Int.mul_assoc, pm_sq hs, Int.one_mul]
        rw [j_mul (by rw [w1, hv, e9]; omega) (by rw [w1, hv, e9]; omega), w1, hv, e9]
