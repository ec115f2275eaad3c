/-! ===== laced, chain ===== -/
theorem gdp_pok {P Q : Pl} (hP : pok P) (hQ : pok Q) (h1 : 0 < dln P) (h2 : 0 < dln Q) (hd : dgg Q ≤ dgg P) : gdp P Q 32 := by
  have h8 := dgg_lt P
  have b : ∀ R : Pl, pok R → nsz (dgg R + 1) R ≤ 2 ^ 32 := fun R hR => by
    have := dgg_lt R
    have := nsz_le (f := R) (c := 100000000) (dgg R + 1) (fun k => by have := hR.2 k; omega)
    have h3 : (dgg R + 1) * 100000000 ≤ 9 * 100000000 := Nat.mul_le_mul_right _ (by omega)
    have : (9 * 100000000 : Nat) ≤ 2 ^ 32 := by decide
    omega
  exact ⟨hP.1, hQ.1, h1, h2, hd, b P hP, b Q hQ, by omega, by omega, by omega⟩
def LCD (P Q : Pl) : Prop := WI P ≠ 0 ∧ WI Q ≠ 0 ∧ dgg Q ≤ dgg P ∧ dgg P ≤ dgg Q + 1 ∧ ∀ M, ends P Q M → (chL P Q (M - 1) : Int) - chR P Q (M - 1) = (P (dgg P)).sign * (Q (dgg Q)).sign * ((dgg P : Int) - dgg (mm P Q (M - 1)))
def lcS (P Q : Pl) (r : Int32) : Prop := (r = 1 ∧ LCD P Q) ∨ (r = 0 ∧ ¬ LCD P Q)
theorem lcS_u {P Q : Pl} {a b : Int32} (h : lcS P Q a) (h' : lcS P Q b) : a = b := by
  rcases h with ⟨x, h⟩ | ⟨x, h⟩ <;> rcases h' with ⟨y, h'⟩ | ⟨y, h'⟩
  · rw [x, y]
  · exact absurd h h'
  · exact absurd h' h
  · rw [x, y]
theorem WI_d {P : Pl} (h : WI P ≠ 0) : 0 < dln P := by
  unfold WI at h
  by_cases hw : 0 < dln P ∧ NR P = dgg P
  · exact hw.1
  · rw [if_neg hw] at h
    exact absurd rfl h
theorem lcd_M {P Q : Pl} {M : Nat} (he : ends P Q M) (h1 : WI P ≠ 0) (h2 : WI Q ≠ 0) (h3 : dgg Q ≤ dgg P) (h4 : dgg P ≤ dgg Q + 1) : LCD P Q ↔ (chL P Q (M - 1) : Int) - chR P Q (M - 1) = (P (dgg P)).sign * (Q (dgg Q)).sign * ((dgg P : Int) - dgg (mm P Q (M - 1))) := by
  constructor
  · intro h
    exact h.2.2.2.2 M he
  · intro h
    refine ⟨h1, h2, h3, h4, fun M' he' => ?_⟩
    rw [ends_uniq he' he]
    exact h
theorem lac_x {fu B t u : Nat} {T : Nat → Pl} {σ : rr_M} (hfu : 70000 < fu) (ht : t < 8) (hu : u < 8) (hX : IXc B σ T) (hv : prvd B t σ (T t)) (hw : prvd B u σ (T u)) : wq (f_Roo_areLaced fu (nx B) B (B + (2 + 7 * t)) (B + (2 + 7 * u)) σ) (fun x => lcS (T t) (T u) x.1 ∧ xok B T σ x.2) := by
  obtain ⟨q0, q1, q2, q3, q4, q5, q6, q7, q8⟩ := roo_t hX.1
  obtain ⟨b1, b2, b3⟩ := hX.2.2.2 t ht
  obtain ⟨d1, d2, d3⟩ := hX.2.2.2 u hu
  have n9 : nx B (B + (3 + 7 * t)) = 9 := by rw [nx_at]; exact (nx_tr t ht).1
  have n9' : nx B (B + (3 + 7 * u)) = 9 := by rw [nx_at]; exact (nx_tr u hu).1
  have fin0 : ¬ LCD (T t) (T u) → ∀ {σ'}, xok B T σ σ' → wq (if rr_b1 0 = true then some ((0 : Int32), σ') else none) (fun x => lcS (T t) (T u) x.1 ∧ xok B T σ x.2) := fun hn σ' ho => wq_ip (by decide) (wq_some ⟨Or.inr ⟨rfl, hn⟩, ho⟩)
  unfold f_Roo_areLaced
  dsimp only [rr_lt]
  rw [hv.2.1, hw.2.1, (q7 t ht).2, (q7 u hu).2, num_deg (fu := fu) (o := 3 + 7 * t) (f := T t) (by omega) n9 b2, num_deg (fu := fu) (o := 3 + 7 * u) (f := T u) (by omega) n9' d2, q5]
  by_cases w1 : WI (T t) = 0
  · exact wq_ip w1 (fin0 (fun h => h.1 w1) (xok_rf hX))
  by_cases w2 : WI (T u) = 0
  · exact wq_in w1 (wq_ip w2 (fin0 (fun h => h.2.1 w2) (xok_rf hX)))
  have l1 := WI_d w1
  have l2 := WI_d w2
  have p8 := dgg_lt (T t)
  have r8 := dgg_lt (T u)
  rw [show nI (dln (T t)) - 1 = nI (dgg (T t)) from nI_pr l1, show nI (dln (T u)) - 1 = nI (dgg (T u)) from nI_pr l2]
  refine wq_in w1 (wq_in w2 (wq_ob (wq_some (wq_ob (wq_some ?_)))))
  have hs : (nI (dgg (T t)) - nI (dgg (T u))).toInt = (dgg (T t) : Int) - dgg (T u) := nI_subT (by omega) (by omega)
  by_cases c1 : dgg (T t) < dgg (T u)
  · refine wq_ip ?_ (fin0 (fun h => by have := h.2.2.1; omega) (xok_rf hX))
    rw [Int32.lt_iff_toInt_lt, hs]
    show _ < (0 : Int)
    omega
  refine wq_in ?_ ?_
  · rw [Int32.lt_iff_toInt_lt, hs]
    show ¬ _ < (0 : Int)
    omega
  by_cases c2 : dgg (T u) + 1 < dgg (T t)
  · refine wq_in ?_ (fin0 (fun h => by have := h.2.2.2.1; omega) (xok_rf hX))
    rw [Int32.le_iff_toInt_le, hs]
    show ¬ _ ≤ (1 : Int)
    omega
  refine wq_ip ?_ ?_
  · rw [Int32.le_iff_toInt_le, hs]
    show _ ≤ (1 : Int)
    omega
  have G := gdp_pok b1 d1 l1 l2 (show dgg (T u) ≤ dgg (T t) by omega)
  have hX' := hX
  obtain ⟨c0, ⟨Z, z1, z2⟩, ⟨a, b, hp⟩, _⟩ := hX
  refine wq_bd (wq_mo (run_ok (op := 3 + 7 * t) (oq := 3 + 7 * u) (by omega) G c0 z1 n9 n9' (isB_lo (by omega)) (isB_lo (by omega)) b2 d2) ?_)
  rintro ⟨x, σ'⟩ ⟨g1, Z', M, g2, g3, g4, g5, g6, g7⟩
  dsimp only at g1 g2 g6 g7 ⊢
  have m2 := g4.1
  have c1' := crf_frs c0 g1
  obtain ⟨q0', q1', q2', q3', q4', q5', q6', q7', q8'⟩ := roo_t c1'
  have ho : xok B T σ σ' := by
    refine ⟨icx_fr hX' (fun o k ho => by rw [g1.1]) (fun o ho => g1.2.1 o (isB_lo (by omega)) (by omega) (by omega) (by omega)) (fun o ho => g1.2.2 o (isB_lo (by omega))) g2 (by rw [g3 339 (by omega)]; exact z2) ⟨a, b, by unfold prf at hp ⊢; rw [g1.1]; exact hp⟩, ?_, ?_⟩
    · exact g1.2.1 58 (by decide) (by omega) (by omega) (by omega)
    · exact g1.2.1 59 (by decide) (by omega) (by omega) (by omega)
  rw [q5', cld_dg (fu := fu) (s := 0) g4 g5 c1' g6 g7, sq_2 c1', nx_66]
  refine wq_ob (wq_some (wq_ip (by decide) (wq_ip (by decide) (wq_ob (wq_mo (cjp_ok (by omega) G g4 g5 c1' g6 g7) ?_)))))
  rintro v rfl
  have n0 : rr_n 0 = 0 := by decide
  have n1 : rr_n 1 = 1 := by decide
  rw [n0, n1, (g7 0 (by omega)).2.2, (g7 1 (by omega)).2.2, cc_0, cc_1, dgg_p, dgg_q]
  have cl := chL_le (T t) (T u) (M - 1)
  have cr := chR_le (T t) (T u) (M - 1)
  have e8 := dgg_lt (mm (T t) (T u) (M - 1))
  obtain ⟨⟨x1, _⟩, _⟩ := dln_top b1.1 l1
  obtain ⟨⟨y1, _⟩, _⟩ := dln_top d1.1 l2
  have hm := pm_mul (sgI_pm x1) (sgI_pm y1)
  have hJ : (nI (chL (T t) (T u) (M - 1)) - nI (chR (T t) (T u) (M - 1))).toInt = (chL (T t) (T u) (M - 1) : Int) - chR (T t) (T u) (M - 1) := nI_subT (by omega) (by omega)
  have hE : (nI (dgg (T t)) - nI (dgg (mm (T t) (T u) (M - 1)))).toInt = (dgg (T t) : Int) - dgg (mm (T t) (T u) (M - 1)) := nI_subT (by omega) (by omega)
  have hR : (sgI (T t (dgg (T t))) * sgI (T u (dgg (T u))) * (nI (dgg (T t)) - nI (dgg (mm (T t) (T u) (M - 1))))).toInt = (T t (dgg (T t))).sign * (T u (dgg (T u))).sign * ((dgg (T t) : Int) - dgg (mm (T t) (T u) (M - 1))) := by
    rw [Jvm.Kit.i32_mul, hm.1, hE, sgI_t, sgI_t]
    · rw [hE]; rcases hm.2 with e | e <;> rw [e] <;> omega
    · rw [hE]; rcases hm.2 with e | e <;> rw [e] <;> omega
  have hiff := lcd_M g4 w1 w2 (show dgg (T u) ≤ dgg (T t) by omega) (by omega)
  by_cases hL : LCD (T t) (T u)
  · refine wq_ip ?_ (wq_ip (by decide) (wq_some ⟨Or.inl ⟨rfl, hL⟩, ho⟩))
    apply i_inj
    rw [hJ, hR]
    exact hiff.mp hL
  · refine wq_in ?_ (fin0 hL ho)
    intro hh
    apply hL
    apply hiff.mpr
    rw [← hJ, ← hR, hh]
/-- the model's number by a sign -/
theorem LM_sg {C s : Nat} {σ : rr_M} {Y : Nat → Int} {a : Int} {v : Int32} (h : LM C σ Y) (hs : s < 460) (ha : a = 1 ∨ a = -1) (hv : v.toInt = a) : LM C (ms_i σ (C + 3) s (mg_i σ (C + 3) s * v)) (yup Y s (a * Y s)) := by
  refine LM_onl h onl_sign ?_
  obtain ⟨n, z1, z2, z3, z4, z5, z6⟩ := h.2 s hs
  have hz : (Y s).sign = 0 ∨ (Y s).sign = 1 ∨ (Y s).sign = -1 := by
    rcases Int.lt_trichotomy (Y s) 0 with h | h | h
    · right; right; exact Int.sign_eq_neg_one_of_neg h
    · left; rw [h]; rfl
    · right; left; exact Int.sign_eq_one_of_pos h
  refine ⟨n, z1, by rw [si_row (by omega)]; exact z2, by rw [si_row (by omega)]; exact z3, by rw [si_row (by omega)]; exact z4, ?_, ?_⟩
  · rw [si_row (by omega), z5, Int.natAbs_mul]
    rcases ha with e | e <;> rw [e] <;> simp
  · rw [si_s, Jvm.Kit.i32_mul, z6, hv, Int.sign_mul]
    · rcases ha with e | e <;> rw [e] <;> rcases hz with y | y | y <;> rw [y] <;> rfl
    · rw [z6, hv]
      rcases ha with e | e <;> rw [e] <;> rcases hz with y | y | y <;> rw [y] <;> decide
    · rw [z6, hv]
      rcases ha with e | e <;> rw [e] <;> rcases hz with y | y | y <;> rw [y] <;> decide
theorem tsg_l {fu C row : Nat} {a : Int} {v : Int32} {σ0 : rr_M} {Y0 : Nat → Int} (hrow : row < 48) (ha : a = 1 ∨ a = -1) (hv : v.toInt = a) {kk : rr_M → Option (Int32 × rr_M)} {Q : Int32 × rr_M → Prop}
    (hk : ∀ σ Y, LM C σ Y → frm C σ0 σ → (∀ s, (∀ j, j < 9 → s ≠ slt row j) → Y s = Y0 s) → (∀ j, j < 9 → Y (slt row j) = a * Y0 (slt row j)) → wq (kk σ) Q) :
    ∀ (fl j : Nat) (σ : rr_M) (Y : Nat → Int), j ≤ 9 → 10 - j ≤ fl → LM C σ Y → frm C σ0 σ → (∀ s, (∀ i, i < j → s ≠ slt row i) → Y s = Y0 s) → (∀ i, i < j → Y (slt row i) = a * Y0 (slt row i)) → wq (l_Mod_areLaced_101 fu (nm C) C (nI row) v fl (nI j) σ kk) Q
  | 0, j, σ, Y, h1, h2, _, _, _, _ => by omega
  | fl + 1, j, σ, Y, h1, h2, hY, hF, hO, hV => by
    rw [l_Mod_areLaced_101]
    by_cases hj : j = 9
    · subst hj
      exact wq_ip (by decide) (hk σ Y hY hF hO hV)
    have sl := slt_lt (r := row) (k := j) hrow (by omega)
    refine wq_in (show ¬ (9 : Int32) ≤ nI j from nI_ge (b := 9) (by omega) (by omega)) ?_
    dsimp only [rr_lt]
    rw [mrf_3 hY.1, slot_ok]
    refine wq_ob (wq_some (wq_ip (ix3 sl) (wq_ip (ix3 sl) ?_)))
    rw [n_nI (show slt row j < 2 ^ 31 by omega), nI_1]
    refine tsg_l hrow ha hv hk fl (j + 1) _ _ (by omega) (by omega) (LM_sg hY sl ha hv) (frm_tr hF (onl_frm onl_sign)) (fun s hs => ?_) (fun i hi => ?_)
    · rw [yup_n (hs j (by omega))]
      exact hO s (fun i hi => hs i (by omega))
    · by_cases hij : i = j
      · subst hij
        rw [yup_s, hO _ (fun k hk => by unfold slt; omega)]
      · rw [yup_n (by unfold slt; omega)]
        exact hV i (by omega)
theorem lac_m {fu C t u : Nat} {T : Nat → Pl} {σ : rr_M} (hfu : 70000 < fu) (ht : t < 8) (hu : u < 8) (hM : IMc C σ T) (b1 : pok (T t)) (d1 : pok (T u)) : wq (f_Mod_areLaced fu (nm C) C (nI t) (nI u) σ) (fun y => lcS (T t) (T u) y.1 ∧ mok C T σ y.2) := by
  obtain ⟨Y1, L1⟩ := hM.1
  have p8 := dgg_lt (T t)
  have r8 := dgg_lt (T u)
  have fin0 : ¬ LCD (T t) (T u) → ∀ {σ'}, mok C T σ σ' → wq (if rr_b1 0 = true then some ((0 : Int32), σ') else none) (fun x => lcS (T t) (T u) x.1 ∧ mok C T σ x.2) := fun hn σ' ho => wq_ip (by decide) (wq_some ⟨Or.inr ⟨rfl, hn⟩, ho⟩)
  have hr : mok C T σ σ := ⟨hM, mfr_rf⟩
  unfold f_Mod_areLaced
  rw [mdg_ok (fu := fu) (r := t) (by omega) L1.1 (by omega) (hM.2 t ht), mdg_ok (fu := fu) (r := u) (by omega) L1.1 (by omega) (hM.2 u hu)]
  refine wq_ob (wq_some (wq_ob (wq_some ?_)))
  by_cases z1 : dln (T t) = 0
  · rw [z1]
    exact wq_ip (by decide) (fin0 (fun h => by have := WI_d h.1; omega) hr)
  have e1 : nI (dln (T t)) - 1 = nI (dgg (T t)) := nI_pr (by omega)
  rw [e1]
  refine wq_in (nI_pos (by omega)) ?_
  by_cases z2 : dln (T u) = 0
  · rw [z2]
    exact wq_ip (by decide) (fin0 (fun h => by have := WI_d h.2.1; omega) hr)
  have e2 : nI (dln (T u)) - 1 = nI (dgg (T u)) := nI_pr (by omega)
  rw [e2]
  refine wq_in (nI_pos (by omega)) ?_
  dsimp only [rr_jn]
  have hs1 : (nI (dgg (T t)) - 1).toInt = (dgg (T t) : Int) - 1 := nI_subT (b := 1) (by omega) (by omega)
  have main : dgg (T u) ≤ dgg (T t) → dgg (T t) ≤ dgg (T u) + 1 → wq (rr_bd (f_Mod_isWhole fu (nm C) C (nI t) σ) fun r_7 σ_8 =>
    if r_7 = 0 then (if rr_b1 0 then some (0, σ_8) else none) else
    rr_bd (f_Mod_isWhole fu (nm C) C (nI u) σ_8) fun r_11 σ_12 =>
    if r_11 = 0 then (if rr_b1 0 then some (0, σ_12) else none) else
    rr_bd (f_Mod_takes fu (nm C) C 36 (nI t) σ_12) fun _ σ_15 =>
    rr_bd (f_Mod_takes fu (nm C) C 37 (nI u) σ_15) fun _ σ_17 =>
    l_Mod_areLaced_72 fu (nm C) C fu 36 σ_17 (fun σ_33 =>
    rr_bd (f_Mod_leavesAll fu (nm C) C 36 σ_33) fun r_34 σ_35 =>
    Option.bind (f_Mod_changesOut fu (nm C) C 36 r_34 1 σ_35) fun r_37 =>
    Option.bind (f_Mod_changesOut fu (nm C) C 36 r_34 0 σ_35) fun r_39 =>
    rr_lt (mg_r σ_35 C 6) fun p_41 =>
    (if rr_ix ((36 + r_34) - 1) (nm C p_41) then
    if (r_37 - r_39) = (nI (dgg (T t)) - (mg_i σ_35 p_41 (rr_n ((36 + r_34) - 1)))) then (if rr_b1 1 then some (1, σ_35) else none) else
    if rr_b1 0 then some (0, σ_35) else none else none))) (fun y => lcS (T t) (T u) y.1 ∧ mok C T σ y.2) := by
    intro c1 c2
    refine wq_bd (wq_mo (whl_m hfu ht hM b1) ?_)
    rintro ⟨w, σ1⟩ ⟨k1, k2⟩
    dsimp only at k1 k2 ⊢
    subst k1
    by_cases w1 : WI (T t) = 0
    · exact wq_ip w1 (fin0 (fun h => h.1 w1) k2)
    refine wq_in w1 (wq_bd (wq_mo (whl_m hfu hu k2.1 d1) ?_))
    rintro ⟨w, σ2⟩ ⟨k3, k4⟩
    dsimp only at k3 k4 ⊢
    subst k3
    have o2 : mok C T σ σ2 := ⟨k4.1, mfr_tr k2.2 k4.2⟩
    by_cases w2 : WI (T u) = 0
    · exact wq_ip w2 (fin0 (fun h => h.2.1 w2) o2)
    refine wq_in w2 ?_
    have G := gdp_pok b1 d1 (show 0 < dln (T t) by omega) (show 0 < dln (T u) by omega) c1
    obtain ⟨Y2, L2⟩ := o2.1.1
    refine wq_bd (wq_mo (tks_ok (row := 36) (r := t) hfu L2 (by omega) (by omega) (o2.1.2 t ht) (fun k _ => by have := b1.2 k; omega)) ?_)
    rintro ⟨_, σ3⟩ ⟨Y3, a1, a2, a3, a4, a5, a6⟩
    dsimp only at a1 a2 a3 a6 ⊢
    have F3 := frq_mfr a2
    refine wq_bd (wq_mo (tks_ok (row := 37) (r := u) hfu a1 (by omega) (by omega) (mpo_mfr F3 hu (o2.1.2 u hu)) (fun k _ => by have := d1.2 k; omega)) ?_)
    rintro ⟨_, σ4⟩ ⟨Y4, g1, g2, g3, g4, g5, g6⟩
    dsimp only at g1 g2 g3 g6 ⊢
    have F4 := mfr_tr F3 (frq_mfr g2)
    have d36 : mg_i σ4 (C + 6) 36 = nI (dgg (T t)) := by rw [(g2.2.2.2 36 (by omega)).1, a6, e1]
    have d37 : mg_i σ4 (C + 6) 37 = nI (dgg (T u)) := by rw [g6, e2]
    have r36 : rwY Y4 36 (T t) := fun k hk => by rw [g4 _ (fun j hj => by unfold slt; omega)]; exact a5 k hk
    obtain ⟨⟨x1, x2⟩, _⟩ := dln_top b1.1 (show 0 < dln (T t) by omega)
    obtain ⟨⟨y1, y2⟩, _⟩ := dln_top d1.1 (show 0 < dln (T u) by omega)
    obtain ⟨f, hf⟩ : ∃ f, fu = f + 3 := ⟨fu - 3, by omega⟩
    have n36 : rr_n 36 = 36 := by decide
    have n37 : rr_n (36 + 1) = 37 := by decide
    have sl36 := slt_lt (r := 36) (k := dgg (T t)) (by omega) (by omega)
    have sl37 := slt_lt (r := 37) (k := dgg (T u)) (by omega) (by omega)
    have st : ∀ fl, wq (l_Mod_areLaced_72 fu (nm C) C (fl + 3) 36 σ4 (fun σ_33 =>
      rr_bd (f_Mod_leavesAll fu (nm C) C 36 σ_33) fun r_34 σ_35 =>
      Option.bind (f_Mod_changesOut fu (nm C) C 36 r_34 1 σ_35) fun r_37 =>
      Option.bind (f_Mod_changesOut fu (nm C) C 36 r_34 0 σ_35) fun r_39 =>
      rr_lt (mg_r σ_35 C 6) fun p_41 =>
      (if rr_ix ((36 + r_34) - 1) (nm C p_41) then
      if (r_37 - r_39) = (nI (dgg (T t)) - (mg_i σ_35 p_41 (rr_n ((36 + r_34) - 1)))) then (if rr_b1 1 then some (1, σ_35) else none) else
      if rr_b1 0 then some (0, σ_35) else none else none))) (fun y => lcS (T t) (T u) y.1 ∧ mok C T σ y.2) := by
      intro fl
      rw [l_Mod_areLaced_72]
      refine wq_in (by decide) ?_
      dsimp only [rr_lt]
      rw [mrf_3 g1.1, mrf_6 g1.1, n36, d36, show (36 : Int32) = nI 36 from rfl, slot_ok]
      refine wq_ip (ix6 (by omega)) (wq_ob (wq_some (wq_ip (ix3 sl36) ?_)))
      rw [n_nI (show slt 36 (dgg (T t)) < 2 ^ 31 by omega), mo_sign g1 sl36, r36 _ (by omega)]
      refine tsg_l (row := 36) (a := (T t (dgg (T t))).sign) (by omega) (sign_pm x1) (sgI_t _) (σ0 := σ4) (Y0 := Y4) ?_ fu 0 σ4 Y4 (by omega) (by omega) g1 (frm_rfl _ _) (fun _ _ => rfl) (fun i hi => absurd hi (by omega))
      intro σ5 Y5 h1 h2 h3 h4
      rw [l_Mod_areLaced_72]
      refine wq_in (by decide) ?_
      have d37' : mg_i σ5 (C + 6) 37 = nI (dgg (T u)) := by rw [frm_i h2 (by omega) (by omega) (by omega)]; exact d37
      dsimp only [rr_lt]
      rw [mrf_3 h1.1, mrf_6 h1.1, show nI 36 + 1 = nI 37 from rfl, n_nI (show 37 < 2 ^ 31 by omega), d37', slot_ok]
      refine wq_ip (ix6 (by omega)) (wq_ob (wq_some (wq_ip (ix3 sl37) ?_)))
      have y37 : Y5 (slt 37 (dgg (T u))) = T u (dgg (T u)) := by
        rw [h3 _ (fun j hj => by unfold slt; omega)]
        exact g5 _ (by omega)
      rw [n_nI (show slt 37 (dgg (T u)) < 2 ^ 31 by omega), mo_sign h1 sl37, y37]
      refine tsg_l (row := 37) (a := (T u (dgg (T u))).sign) (by omega) (sign_pm y1) (sgI_t _) (σ0 := σ5) (Y0 := Y5) ?_ fu 0 σ5 Y5 (by omega) (by omega) h1 (frm_rfl _ _) (fun _ _ => rfl) (fun i hi => absurd hi (by omega))
      intro σ6 Y6 k1 k2 k3 k4
      rw [l_Mod_areLaced_72]
      refine wq_ip (by decide) ?_
      have rp : rwY Y6 36 (psc (T t (dgg (T t))).sign (T t)) := fun k hk => by
        rw [k3 _ (fun j hj => by unfold slt; omega), h4 k hk, r36 k hk]
        rfl
      have rq : rwY Y6 (36 + 1) (psc (T u (dgg (T u))).sign (T u)) := fun k hk => by
        rw [k4 k hk, h3 _ (fun j hj => by unfold slt; omega), g5 k hk]
        rfl
      have pa := sign_pm x1
      have pb := sign_pm y1
      have G' := gdp_ee pa pb G
      have z36 : mg_i σ6 (C + 6) 36 = nI (dgg (psc (T t (dgg (T t))).sign (T t))) := by
        rw [frm_i k2 (by omega) (by omega) (by omega), frm_i h2 (by omega) (by omega) (by omega), d36, dgg_psc (by omega)]
      have z37 : mg_i σ6 (C + 6) (36 + 1) = nI (dgg (psc (T u (dgg (T u))).sign (T u))) := by
        rw [frm_i k2 (by omega) (by omega) (by omega), d37', dgg_psc (by omega)]
      refine wq_bd (wq_mo (all_ok (first := 36) hfu G' (by omega) k1 rp rq z36 z37) ?_)
      rintro ⟨r, σ7⟩ ⟨Y7, M, m1, m2, m3, m4, m5, m6, m7⟩
      dsimp only at m1 m2 m3 m7 ⊢
      subst m1
      have me : ends (T t) (T u) M := by
        have e0 := Mn_ok G
        obtain ⟨e1', _, _⟩ := ends_ee pa pb G e0
        rw [ends_uniq m5 e1']
        exact e0
      have mg := me.1
      obtain ⟨_, v2, v3⟩ := chs_ee pa pb G me
      have o7 : mok C T σ σ7 := by
        have F := mfr_tr o2.2 (mfr_tr F4 (mfr_tr (frm_mfr h2) (mfr_tr (frm_mfr k2) (frq_mfr m3))))
        exact ⟨imc_mfr hM F m2, F⟩
      refine wq_ob (wq_mo (cho_ok (left := 1) (by omega) (Or.inr rfl) m2 G' m5 m6 m7 (by omega)) ?_)
      rintro v rfl
      refine wq_ob (wq_mo (cho_ok (left := 0) (by omega) (Or.inl rfl) m2 G' m5 m6 m7 (by omega)) ?_)
      rintro v rfl
      have e36 : nI 36 + nI M - 1 = nI (36 + (M - 1)) := by
        rw [nI_add 36 M, nI_pr (by omega)]
        congr 1
        omega
      rw [mrf_6 m2.1, e36, n_nI (show 36 + (M - 1) < 2 ^ 31 by omega), (m7 (M - 1) (by omega)).2.1, v2 (M - 1) (by omega), if_neg (show ¬ (1 : Int32) = 0 by decide), if_pos (rfl : (0 : Int32) = 0)]
      refine wq_ip (ix6 (by omega)) ?_
      have cl := chL_le (psc (T t (dgg (T t))).sign (T t)) (psc (T u (dgg (T u))).sign (T u)) (M - 1)
      have cr := chR_le (psc (T t (dgg (T t))).sign (T t)) (psc (T u (dgg (T u))).sign (T u)) (M - 1)
      have e8 := dgg_lt (mm (T t) (T u) (M - 1))
      have hJ := nI_subT (a := chL (psc (T t (dgg (T t))).sign (T t)) (psc (T u (dgg (T u))).sign (T u)) (M - 1)) (b := chR (psc (T t (dgg (T t))).sign (T t)) (psc (T u (dgg (T u))).sign (T u)) (M - 1)) (by omega) (by omega)
      have hE : (nI (dgg (T t)) - nI (dgg (mm (T t) (T u) (M - 1)))).toInt = (dgg (T t) : Int) - dgg (mm (T t) (T u) (M - 1)) := nI_subT (by omega) (by omega)
      have hiff := lcd_M me w1 w2 c1 c2
      have key : LCD (T t) (T u) ↔ nI (chL (psc (T t (dgg (T t))).sign (T t)) (psc (T u (dgg (T u))).sign (T u)) (M - 1)) - nI (chR (psc (T t (dgg (T t))).sign (T t)) (psc (T u (dgg (T u))).sign (T u)) (M - 1)) = nI (dgg (T t)) - nI (dgg (mm (T t) (T u) (M - 1))) := by
        rw [hiff, ← Int32.toInt_inj, hJ, hE, v3]
        generalize (chL (T t) (T u) (M - 1) : Int) - chR (T t) (T u) (M - 1) = J
        generalize (dgg (T t) : Int) - dgg (mm (T t) (T u) (M - 1)) = E
        rcases pa with x | x <;> rcases pb with y | y <;> rw [x, y] <;> omega
      by_cases hL : LCD (T t) (T u)
      · exact wq_ip (key.mp hL) (wq_ip (by decide) (wq_some ⟨Or.inl ⟨rfl, hL⟩, o7⟩))
      · exact wq_in (fun hh => hL (key.mpr hh)) (fin0 hL o7)
    have := st f
    rw [← hf] at this
    exact this
  by_cases c1 : dgg (T u) = dgg (T t)
  · exact wq_ip (by rw [c1]) (main (by omega) (by omega))
  refine wq_in (fun hh => c1 ((nI_eq (by omega) (by omega)).mp hh)) ?_
  by_cases c2 : dgg (T u) + 1 = dgg (T t)
  · refine wq_ip ?_ (main (by omega) (by omega))
    rw [← c2, nI_pred]
  · refine wq_in ?_ (fin0 (fun h => by have := h.2.2.1; have := h.2.2.2.1; omega) hr)
    intro hh
    have := congrArg Int32.toInt hh
    rw [hs1, nI_toInt (by omega)] at this
    omega
