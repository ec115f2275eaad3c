/-! ===== operate ===== -/
theorem mkM_R {C t : Nat} {T : Nat → Pl} {OK : Prop} {R R' : Pl} {σ : rr_M} {y : Int32 × rr_M} (h : mkM C T t OK R σ y) (e : OK → R = R') : mkM C T t OK R' σ y := by
  obtain ⟨h1, h2⟩ := h
  refine ⟨?_, h2⟩
  rcases h1 with ⟨x1, x2, x3⟩ | x
  · exact Or.inl ⟨x1, x2, by rw [← e x2]; exact x3⟩
  · exact Or.inr x
theorem opx_m {fu C t u op : Nat} {T : Nat → Pl} {σm : rr_M} {a : Int32} (hfu : 70000 < fu) (ht : t < 8) (hu : u < 8) (hM1 : IMc C (ms_i σm C 0 0) T) (b1 : pok (T u)) (ha : -1000 ≤ a.toInt ∧ a.toInt ≤ 1000) (hop : op ≤ 9) (h4 : op ≠ 4) :
    wq (l_Mod_operate_82 fu (nm C) C (nI u) (nI op) a fu 0 (ms_i σm C 0 0) (fun σ_30 =>
      if nI op = 5 then (rr_bd (f_Mod_comes fu (nm C) C (nI t) σ_30) fun r_31 σ_32 => if rr_b1 r_31 = true then some (r_31, σ_32) else none) else
      if nI op = 6 then (rr_bd (f_Mod_comes fu (nm C) C (nI t) σ_30) fun r_31 σ_32 => if rr_b1 r_31 = true then some (r_31, σ_32) else none) else
      if nI op = 9 then (rr_bd (f_Mod_comes fu (nm C) C (nI t) σ_30) fun r_31 σ_32 => if rr_b1 r_31 = true then some (r_31, σ_32) else none) else
      Option.bind (f_Mod_made fu (nm C) C (nI u) (nI op) a 9 σ_30) fun r_37 =>
      if r_37 = 0 then (rr_bd (f_Mod_comes fu (nm C) C (nI t) σ_30) fun r_31 σ_32 => if rr_b1 r_31 = true then some (r_31, σ_32) else none) else
      if rr_b1 0 = true then some (0, σ_30) else none)) (mkM C T t (oOK (T u) a.toInt op) (cut (oR (T u) a.toInt op)) σm) := by
  obtain ⟨Y1, L1⟩ := hM1.1
  have hPb : ∀ j, b8 (T u j) := fun j => b1.2 j
  refine opo_m (σ0 := ms_i σm C 0 0) (by omega) L1.1 hu (hM1.2 u hu) b1.1 hPb ha hop h4 ?_ fu 0 _ (by omega) (by omega) ⟨rfl, rfl, fun _ _ => rfl⟩ (fun j hj => absurd hj (by omega))
  intro σ2 F2 V2
  have hm2 : mrf C σ2 := mrf_of L1.1 F2.1
  have hP2 : mpo C σ2 u (T u) := fun j hj => by rw [F2.2.2 _ (by omega)]; exact hM1.2 u hu j hj
  have I2 := imc_mlf hM1 F2
  have mg : op ≠ 6 → ∀ j, mG (T u) a.toInt op j = oG (T u) a.toInt op j := fun h j => if_neg h
  have oo : op ≠ 6 → oOK (T u) a.toInt op = ∀ j, j < 17 → fl1 (oG (T u) a.toInt op) j := fun h => by
    unfold oOK oR
    rw [if_neg h, if_neg h, if_neg h4]
  have or1 : op ≠ 6 → oR (T u) a.toInt op = oG (T u) a.toInt op := fun h => by
    unfold oR
    rw [if_neg h, if_neg h4]
  -- the end, where what is behind the eighth power is 0
  have fin : op ≠ 6 → (∀ j, 9 ≤ j → j < 17 → oG (T u) a.toInt op j = 0) → wq (rr_bd (f_Mod_comes fu (nm C) C (nI t) σ2) fun r_31 σ_32 => if rr_b1 r_31 = true then some (r_31, σ_32) else none) (mkM C T t (oOK (T u) a.toInt op) (cut (oR (T u) a.toInt op)) σm) := by
    intro h6 hz
    rw [oo h6, or1 h6]
    refine mkm_t (G := oG (T u) a.toInt op) (by omega) ht I2 F2.2.1 (fun j hj => by rw [V2 j hj, mg h6]) (fun j hj => ?_) (fl1_9 hz)
    by_cases h9 : op = 9
    · subst h9
      show _ < T u j * fcz j
      have f1 := fcz_b j hj
      have := abd_m (abd_8 (hPb j)) (abd_n (n := 40320) (x := fcz j) (by omega) (by omega))
      unfold abd at this
      omega
    · obtain ⟨x, _, x2, x3⟩ := mad_m (fu := fu) (op := op) (k := j) (by omega) hm2 hu hP2 b1.1 hPb ha hop (by omega)
      rw [if_neg (by omega)] at x2
      rw [x2] at x3
      unfold abd at x3
      omega
  have ne : ∀ c : Nat, c ≤ 9 → op ≠ c → ¬ nI op = nI c := fun c hc h hh => h ((nI_eq (by omega) (by omega)).mp hh)
  by_cases h5 : op = 5
  · subst h5
    refine wq_ip (by decide) (fin (by omega) (fun j hj _ => ?_))
    show (if j < dln (T u) then _ else 0) = 0
    have l9 : dln (T u) ≤ 9 := lnn_le 9 _
    rw [if_neg (by omega)]
  refine wq_in (ne 5 (by omega) h5) ?_
  by_cases h6 : op = 6
  · subst h6
    refine wq_ip (by decide) ?_
    have e1 : oR (T u) a.toInt 6 = (fun j => if j < 9 then T u j * a.toInt ^ j else 0) := by unfold oR; rw [if_pos rfl]
    have e2 : oOK (T u) a.toInt 6 = OK6 (T u) a.toInt := by unfold oOK; rw [if_pos rfl]
    have e3 : ∀ j, mG (T u) a.toInt 6 j = scF a.toInt j (T u j) := fun j => if_pos rfl
    rw [e2, e1]
    have hOK : OK6 (T u) a.toInt ↔ ∀ j, j < 9 → b8 (mG (T u) a.toInt 6 j) := by
      constructor
      · intro h j hj
        rw [e3]
        exact (scF_ok a.toInt j (T u j)).1.mpr (h j hj)
      · intro h j hj
        have := h j hj
        rw [e3] at this
        exact (scF_ok a.toInt j (T u j)).1.mp this
    refine wq_mo (mkm_t (G := mG (T u) a.toInt 6) (by omega) ht I2 F2.2.1 V2 (fun j hj => ?_) hOK) (fun y hy => mkM_R hy (fun h => ?_))
    · have := scF_b ha j (T u j) (abd_w (abd_8 (hPb j)) (by omega))
      rw [e3]
      unfold abd at this
      omega
    · refine pl_ext (fun j => ?_)
      unfold cut
      by_cases hj : j < 9
      · rw [if_pos hj, if_pos hj]
        show _ = (if j < 9 then T u j * a.toInt ^ j else 0)
        rw [if_pos hj]
        have := hOK.mp h j hj
        rw [e3] at this ⊢
        exact (scF_ok a.toInt j (T u j)).2 this
      · rw [if_neg hj, if_neg hj]
  refine wq_in (ne 6 (by omega) h6) ?_
  by_cases h9 : op = 9
  · subst h9
    refine wq_ip (by decide) (fin (by omega) (fun j hj _ => ?_))
    show T u j * fcz j = 0
    rw [b1.1 j (by omega), Int.zero_mul]
  refine wq_in (ne 9 (by omega) h9) ?_
  obtain ⟨x, x1, x2, x3⟩ := mad_m (fu := fu) (op := op) (k := 9) (by omega) hm2 hu hP2 b1.1 hPb ha hop (by omega)
  rw [if_neg (by omega)] at x2
  rw [show f_Mod_made fu (nm C) C (nI u) (nI op) a 9 σ2 = some x from x1]
  refine wq_ob (wq_some ?_)
  by_cases hx : x = 0
  · refine wq_ip hx (fin h6 (fun j hj hj2 => ?_))
    by_cases hj9 : j = 9
    · subst hj9
      rw [← x2, hx]
      rfl
    · exact oG_hi b1.1 (by omega) (by omega)
  · refine wq_in hx (mkm_0 ?_ I2 (by rw [F2.2.1, si_n (Or.inr (by omega))]) (by rw [F2.2.1, si_n (Or.inr (by omega))]) (by rw [F2.2.1, si_row (by omega)]))
    rw [oo h6]
    intro h
    have := h 9 (by omega)
    unfold fl1 at this
    rw [if_pos (by omega), ← x2] at this
    exact hx (j_eq0.mpr this)
theorem op4_m {fu C t u : Nat} {T : Nat → Pl} {σm : rr_M} {a : Int32} (hfu : 70000 < fu) (ht : t < 8) (hu : u < 8) (hM1 : IMc C (ms_i σm C 0 0) T) (b1 : pok (T u)) (ha : -1000 ≤ a.toInt ∧ a.toInt ≤ 1000) :
    wq (rr_bd (f_Mod_moves fu (nm C) C (nI u) a (ms_i σm C 0 0)) fun r_40 σ_41 =>
      if r_40 = 0 then (if rr_b1 0 = true then some ((0 : Int32), σ_41) else none) else
      rr_bd (f_Mod_comes fu (nm C) C (nI t) σ_41) fun r_44 σ_45 =>
      if r_44 = 0 then (if rr_b1 0 = true then some (0, σ_45) else none) else
      if rr_b1 1 = true then some (1, σ_45) else none) (mkM C T t (oOK (T u) a.toInt 4) (cut (oR (T u) a.toInt 4)) σm) := by
  have e1 : oR (T u) a.toInt 4 = shR (T u) a.toInt 8 := by unfold oR; rw [if_neg (by omega), if_pos rfl]
  have e2 : oOK (T u) a.toInt 4 ↔ ∀ j, j < 9 → b8 (shR (T u) a.toInt 8 j) := by
    unfold oOK
    rw [if_neg (by omega), e1]
    exact fl1_9 (fun j h1 h2 => (shR_hi (T u) a.toInt (by omega) 8).trans (b1.1 j (by omega)))
  rw [e1]
  refine wq_bd (wq_mo (mov_m hfu hu hM1 b1 ha) ?_)
  rintro ⟨r, σ2⟩ ⟨k1, k2⟩
  dsimp only at k1 k2 ⊢
  have j1 : mg_i σ2 C 14 = mg_i σm C 14 := by rw [k1.2.2.2.2.2 14 (by omega) (by omega), si_n (Or.inr (by omega))]
  have j2 : mg_i σ2 C 15 = mg_i σm C 15 := by rw [k1.2.2.2.2.2 15 (by omega) (by omega), si_n (Or.inr (by omega))]
  have j3 : mg_i σ2 (C + 12) = mg_i σm (C + 12) := by rw [k1.2.2.2.2.1 (C + 12) (by omega) (by omega) (by omega) (by omega) (by omega) (by omega) (by omega) (by omega), si_row (by omega)]
  rcases k2 with ⟨e, h⟩ | ⟨e, h⟩
  · subst e
    refine wq_in (by decide) (wq_bd (wq_mo (com_m (G := shR (T u) a.toInt 8) (by omega) ht k1.1 (fun j hj => (h j hj).1) (fun j hj => by have := (h j hj).2; unfold abd at this; omega)) ?_))
    rintro ⟨r2, σ3⟩ ⟨l1, l2⟩
    dsimp only at l1 l2 ⊢
    rcases l2 with ⟨e, h1, h3⟩ | ⟨e, h1, h3⟩
    · subst e
      exact wq_in (by decide) (wq_ip (by decide) (wq_some ⟨Or.inl ⟨rfl, e2.mpr h1, h3⟩, by rw [← j1, ← l1], by rw [← j2, ← l1], by rw [← j3, ← l1]⟩))
    · subst e
      exact wq_ip rfl (mkm_0 (fun hh => h1 (e2.mp hh)) h3 (by rw [← j1, ← l1]) (by rw [← j2, ← l1]) (by rw [← j3, ← l1]))
  · subst e
    exact wq_ip rfl (mkm_0 (fun hh => h (e2.mp hh)) k1.1 j1 j2 j3)
theorem op_operate_ok {fu B C : Nat} (hfu : 70000 < fu) : op_operate fu B C (Inv B C) := by
  rintro a1 a2 a3 a4 σx σm ⟨T, hX, hM, hT⟩
  obtain ⟨hM1, FM1⟩ := imc_0 (v := 0) hM
  obtain ⟨Y1, L1⟩ := hM1.1
  have rx : mkf B σx σx := ⟨rfl, rfl, fun _ _ => rfl⟩
  rcases try_c a1 with ⟨e1, e2⟩ | ⟨t, ht, rfl, e1, e2⟩
  · refine op_mk (T := T) (t := 0) (OK := False) (R := pz) hT ?_ ?_
    · unfold f_Roo_operate
      rw [e1]
      exact wq_ob (wq_some (wq_ip rfl (mkx_0 id hX rx)))
    · unfold f_Mod_operate
      dsimp only [rr_lt]
      rw [e2 C]
      exact wq_ob (wq_some (wq_ip rfl (mkm_00 id hM1)))
  rcases try_c a2 with ⟨f1, f2⟩ | ⟨u, hu, rfl, f1, f2⟩
  · refine op_mk (T := T) (t := 0) (OK := False) (R := pz) hT ?_ ?_
    · unfold f_Roo_operate
      rw [e1, f1]
      exact wq_ob (wq_some (wq_in (by decide) (wq_ob (wq_some (wq_ip rfl (mkx_0 id hX rx))))))
    · unfold f_Mod_operate
      dsimp only [rr_lt]
      rw [e2 C, f2 C]
      exact wq_ob (wq_some (wq_in (by decide) (wq_ob (wq_some (wq_ip rfl (mkm_00 id hM1))))))
  obtain ⟨q0, q1, q2, q3, q4, q5, q6, q7, q8⟩ := roo_t hX.1
  obtain ⟨b1, b2, _⟩ := hX.2.2.2 u hu
  have n9 : nx B (B + (3 + 7 * u)) = 9 := by rw [nx_at]; exact (nx_tr u hu).1
  have rg : (a3.toInt < 0 ∨ (9 : Int) < a3.toInt) ∨ ∃ j, j ≤ 9 ∧ a3 = nI j := rng a3 9 (by omega)
  rcases fac_c a4 with ⟨k1, k2⟩ | ⟨k3, k4, k1, k2⟩
  · refine op_mk (T := T) (t := 0) (OK := False) (R := pz) hT ?_ ?_
    · unfold f_Roo_operate
      rw [e1, f1, k1]
      exact wq_ob (wq_some (wq_in (by decide) (wq_ob (wq_some (wq_in (by decide) (wq_ob (wq_some (wq_ip rfl (mkx_0 id hX rx)))))))))
    · unfold f_Mod_operate
      dsimp only [rr_lt]
      rw [e2 C, f2 C, k2, isin_ok]
      refine wq_ob (wq_some (wq_in (by decide) (wq_ob (wq_some (wq_in (by decide) (wq_ob (wq_some ?_)))))))
      by_cases hc : (0 : Int64).toInt ≤ a3.toInt64.toInt ∧ a3.toInt64.toInt ≤ (9 : Int64).toInt
      · rw [if_pos hc]
        exact wq_in (by decide) (wq_ob (wq_some (wq_ip rfl (mkm_00 id hM1))))
      · rw [if_neg hc]
        exact wq_ip rfl (mkm_00 id hM1)
  rcases rg with hr | ⟨op, hop, rfl⟩
  · have nn : ∀ k : Nat, k ≤ 9 → ¬ a3 = nI k := fun k hk hh => by
      rw [hh, nI_toInt (by omega)] at hr
      omega
    refine op_mk (T := T) (t := t) (OK := False) (R := cut (fun _ => 0)) hT ?_ ?_
    · unfold f_Roo_operate f_Mak_apply
      dsimp only [rr_lt, rr_jn]
      rw [e1, f1, k1, q2, q0, n_nI (show u < 2 ^ 31 by omega), (q7 u hu).1, (q7 u hu).2]
      refine wq_ob (wq_some (wq_in (by decide) (wq_ob (wq_some (wq_in (by decide) (wq_ob (wq_some (wq_in (by decide) (wq_ip (q8 u hu) ?_)))))))))
      refine wq_bd (wq_bd (wq_mo (clr_ok (by omega) hX.1) ?_))
      rintro ⟨x1, σ1⟩ h1
      dsimp only at h1 ⊢
      refine wq_in (nn 0 (by omega)) (wq_in (nn 1 (by omega)) (wq_in (nn 2 (by omega)) (wq_in (nn 3 (by omega)) (wq_in (nn 4 (by omega)) (wq_in (nn 5 (by omega)) (wq_in (nn 6 (by omega)) (wq_in (nn 7 (by omega)) (wq_in (nn 8 (by omega)) (wq_in (nn 9 (by omega)) (wq_ip (by decide) (wq_some ?_)))))))))))
      exact mkx_t (G := fun _ => 0) (by omega) ht hX h1.1 (Or.inr ⟨rfl, id⟩) (fun h => absurd h id)
    · unfold f_Mod_operate
      dsimp only [rr_lt]
      rw [e2 C, f2 C, isin_ok, if_neg (show ¬ ((0 : Int64).toInt ≤ a3.toInt64.toInt ∧ a3.toInt64.toInt ≤ (9 : Int64).toInt) by
        rw [Int32.toInt_toInt64]
        show ¬ ((0 : Int) ≤ _ ∧ _ ≤ (9 : Int))
        omega)]
      exact wq_ob (wq_some (wq_in (by decide) (wq_ob (wq_some (wq_in (by decide) (wq_ob (wq_some (wq_ip rfl (mkm_00 id hM1)))))))))
  refine op_mk (T := T) (t := t) (OK := oOK (T u) a4.toInt op) (R := cut (oR (T u) a4.toInt op)) hT ?_ ?_
  · unfold f_Roo_operate
    dsimp only [rr_lt]
    rw [e1, f1, k1, q2, q0, n_nI (show u < 2 ^ 31 by omega), (q7 u hu).1, (q7 u hu).2]
    refine wq_ob (wq_some (wq_in (by decide) (wq_ob (wq_some (wq_in (by decide) (wq_ob (wq_some (wq_in (by decide) (wq_ip (q8 u hu) ?_)))))))))
    refine wq_bd (wq_mo (apl_x (o := 3 + 7 * u) (P := T u) (by omega) hX.1 (by omega) n9 b2 b1.1 (fun j => b1.2 j) ⟨k3, k4⟩ hop) ?_)
    rintro ⟨r, σ1⟩ ⟨h1, h2, h3⟩
    exact mkx_t (G := oR (T u) a4.toInt op) (by omega) ht hX h1 h2 h3
  · unfold f_Mod_operate
    dsimp only [rr_lt, rr_jn]
    rw [e2 C, f2 C, k2, isin_ok, if_pos (show (0 : Int64).toInt ≤ (nI op).toInt64.toInt ∧ (nI op).toInt64.toInt ≤ (9 : Int64).toInt by
      rw [Int32.toInt_toInt64, nI_toInt (by omega)]
      show ((0 : Int) ≤ _ ∧ _ ≤ (9 : Int))
      omega)]
    refine wq_ob (wq_some (wq_in (by decide) (wq_ob (wq_some (wq_in (by decide) (wq_ob (wq_some (wq_in (by decide) (wq_ob (wq_some (wq_in (by decide) ?_)))))))))))
    by_cases h4 : op = 4
    · subst h4
      exact wq_ip (by decide) (op4_m hfu ht hu hM1 b1 ⟨k3, k4⟩)
    · exact wq_in (fun hh => h4 ((nI_eq (b := 4) (by omega) (by omega)).mp hh)) (opx_m hfu ht hu hM1 b1 ⟨k3, k4⟩ hop h4)
