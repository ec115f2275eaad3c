/-! ===== laced, chain: the calls ===== -/
theorem xok_tr {B : Nat} {T : Nat → Pl} {σ σ' σ'' : rr_M} (h : xok B T σ σ') (h' : xok B T σ' σ'') : xok B T σ σ'' := ⟨h'.1, h'.2.1.trans h.2.1, h'.2.2.trans h.2.2⟩
theorem mok_tr {C : Nat} {T : Nat → Pl} {σ σ' σ'' : rr_M} (h : mok C T σ σ') (h' : mok C T σ' σ'') : mok C T σ σ'' := ⟨h'.1, mfr_tr h.2 h'.2⟩
theorem lac2_x {fu B t u : Nat} {T : Nat → Pl} {σ : rr_M} (hfu : 70000 < fu) (ht : t < 8) (hu : u < 8) (hX : IXc B σ T) {k : Int32 → rr_M → Option (Int32 × rr_M)} {Q : Int32 × rr_M → Prop} (hk : ∀ r σ', lcS (T t) (T u) r → xok B T σ σ' → wq (k r σ') Q) :
    wq (if rr_ix (nI t) (nx B (mg_r σ B 0)) = true then rr_bd (f_Lev_prove fu (nx B) (mg_r σ B 3) (mg_r σ (mg_r σ B 0) (rr_n (nI t))) σ) fun _ σ_10 =>
      if rr_ix (nI u) (nx B (mg_r σ_10 B 0)) = true then rr_bd (f_Lev_prove fu (nx B) (mg_r σ_10 B 3) (mg_r σ_10 (mg_r σ_10 B 0) (rr_n (nI u))) σ_10) fun _ σ_15 =>
      if rr_ix (nI t) (nx B (mg_r σ_15 B 0)) = true then if rr_ix (nI u) (nx B (mg_r σ_15 B 0)) = true then
      rr_bd (f_Roo_areLaced fu (nx B) B (mg_r σ_15 (mg_r σ_15 B 0) (rr_n (nI t))) (mg_r σ_15 (mg_r σ_15 B 0) (rr_n (nI u))) σ_15) fun r_21 σ_22 => k r_21 σ_22 else none else none else none else none) Q := by
  have nt : rr_n (nI t) = t := n_nI (by omega)
  have nu : rr_n (nI u) = u := n_nI (by omega)
  obtain ⟨q0, q1, q2, q3, q4, q5, q6, q7, q8⟩ := roo_t hX.1
  rw [q0, q3, nt, nu, (q7 t ht).1]
  refine wq_ip (q8 t ht) (wq_bd (wq_mo (cpv (by omega) ht hX) ?_))
  rintro ⟨_, σ1⟩ ⟨c1, c2, c3⟩
  dsimp only at c1 c2 c3 ⊢
  obtain ⟨p0, p1, p2, p3, p4, p5, p6, p7, p8⟩ := roo_t c1.1
  rw [p0, p3, (p7 u hu).1]
  refine wq_ip (p8 u hu) (wq_bd (wq_mo (cpv (by omega) hu c1) ?_))
  rintro ⟨_, σ2⟩ ⟨d1, d2, d3⟩
  dsimp only at d1 d2 d3 ⊢
  obtain ⟨o0, o1, o2, o3, o4, o5, o6, o7, o8⟩ := roo_t d1.1
  rw [o0, (o7 u hu).1, (o7 t ht).1]
  have hv : prvd B t σ2 (T t) := by
    by_cases htu : t = u
    · subst htu; exact d2
    · exact prvd_mv hu ht htu d3 c2
  refine wq_ip (o8 t ht) (wq_ip (o8 u hu) (wq_bd (wq_mo (lac_x hfu ht hu d1 hv d2) ?_)))
  rintro ⟨r, σ3⟩ ⟨k1, k2⟩
  exact hk r σ3 k1 (xok_tr (xok_pf ht c1 c3) (xok_tr (xok_pf hu d1 d3) k2))
theorem op_laced_ok {fu B C : Nat} (hfu : 70000 < fu) : op_laced fu B C (Inv B C) := by
  rintro a1 a2 σx σm ⟨T, hX, hM, hT⟩
  obtain ⟨hM1, FM1⟩ := imc_0 (v := 0) hM
  rcases try_c a1 with ⟨e1, e2⟩ | ⟨t, ht, rfl, e1, e2⟩
  · refine op_cb (T := T) (-1) hT ?_ ?_
    · unfold f_Roo_laced
      rw [e1]
      exact wq_ob (wq_some (wq_ip rfl (wq_some ⟨rfl, xok_rf hX⟩)))
    · unfold f_Mod_laced
      dsimp only [rr_lt]
      rw [e2 C]
      exact wq_ob (wq_some (wq_ip rfl (wq_some ⟨rfl, hM1, FM1⟩)))
  rcases try_c a2 with ⟨g1, g2⟩ | ⟨u, hu, rfl, g1, g2⟩
  · refine op_cb (T := T) (-1) hT ?_ ?_
    · unfold f_Roo_laced
      rw [e1, g1]
      exact wq_ob (wq_some (wq_in (by decide) (wq_ob (wq_some (wq_ip rfl (wq_some ⟨rfl, xok_rf hX⟩))))))
    · unfold f_Mod_laced
      dsimp only [rr_lt]
      rw [e2 C, g2 C]
      exact wq_ob (wq_some (wq_in (by decide) (wq_ob (wq_some (wq_ip rfl (wq_some ⟨rfl, hM1, FM1⟩))))))
  obtain ⟨b1, _, _⟩ := hX.2.2.2 t ht
  obtain ⟨d1, _, _⟩ := hX.2.2.2 u hu
  refine op_cr (T := T) (lcS (T t) (T u)) (fun a b h h' => lcS_u h h') hT ?_ ?_
  · unfold f_Roo_laced
    dsimp only [rr_lt]
    rw [e1, g1]
    refine wq_ob (wq_some (wq_in (by decide) (wq_ob (wq_some (wq_in (by decide) (lac2_x hfu ht hu hX (fun r σ' h ho => ?_)))))))
    rcases h with ⟨h1, h2⟩ | ⟨h1, h2⟩
    · subst h1
      exact wq_in (by decide) (wq_some ⟨Or.inl ⟨rfl, h2⟩, ho⟩)
    · subst h1
      exact wq_ip rfl (wq_some ⟨Or.inr ⟨rfl, h2⟩, ho⟩)
  · unfold f_Mod_laced
    dsimp only [rr_lt]
    rw [e2 C, g2 C]
    refine wq_ob (wq_some (wq_in (by decide) (wq_ob (wq_some (wq_in (by decide) (wq_bd (wq_mo (lac_m hfu ht hu hM1 b1 d1) ?_)))))))
    rintro ⟨r, σ'⟩ ⟨h, ho⟩
    dsimp only at h ho ⊢
    have ho' : mok C T σm σ' := ⟨ho.1, mfr_tr FM1 ho.2⟩
    rcases h with ⟨h1, h2⟩ | ⟨h1, h2⟩
    · subst h1
      exact wq_in (by decide) (wq_some ⟨Or.inl ⟨rfl, h2⟩, ho'⟩)
    · subst h1
      exact wq_ip rfl (wq_some ⟨Or.inr ⟨rfl, h2⟩, ho'⟩)
def chS (T : Nat → Pl) (a b : Nat) (r : Int32) : Prop := (∃ k, a ≤ k ∧ k < b ∧ ¬ LCD (T (k + 1)) (T k) ∧ (∀ j, a ≤ j → j < k → LCD (T (j + 1)) (T j)) ∧ r = nI k) ∨ ((∀ j, a ≤ j → j < b → LCD (T (j + 1)) (T j)) ∧ r = -1)
theorem chS_u {T : Nat → Pl} {a b : Nat} {r r' : Int32} (h : chS T a b r) (h' : chS T a b r') : r = r' := by
  rcases h with ⟨k, h1, h2, h3, h4, h5⟩ | ⟨h1, h2⟩ <;> rcases h' with ⟨k', g1, g2, g3, g4, g5⟩ | ⟨g1, g2⟩
  · have e : k = k' := by
      rcases Nat.lt_trichotomy k k' with h | h | h
      · exact absurd (g4 k h1 h) h3
      · exact h
      · exact absurd (h4 k' g1 h) g3
    rw [h5, g5, e]
  · exact absurd (g1 k h1 h2) h3
  · exact absurd (h1 k' g1 g2) g3
  · rw [h2, g2]
theorem chn_x {fu B a b : Nat} {T : Nat → Pl} {σ0 : rr_M} (hfu : 70000 < fu) (hb : b < 8) : ∀ (fl j : Nat) (σ : rr_M), a ≤ j → j < 8 → 9 - j ≤ fl → xok B T σ0 σ → (∀ i, a ≤ i → i < j → LCD (T (i + 1)) (T i)) → wq (l_Roo_chain_19 fu (nx B) B (nI b) fl (nI j) σ (fun σ => some (-1, σ))) (fun x => chS T a b x.1 ∧ xok B T σ0 x.2)
  | 0, j, σ, _, h2, h3, _, _ => by omega
  | fl + 1, j, σ, h1, h2, h3, hX, hL => by
    rw [l_Roo_chain_19]
    by_cases hbj : b ≤ j
    · exact wq_ip (nI_le hbj (by omega)) (wq_some ⟨Or.inr ⟨fun i x y => hL i x (by omega), rfl⟩, hX⟩)
    refine wq_in (nI_ge (by omega) (by omega)) ?_
    dsimp only [rr_lt]
    rw [nI_1]
    refine lac2_x hfu (show j + 1 < 8 by omega) h2 hX.1 (fun r σ' h ho => ?_)
    have ho' := xok_tr hX ho
    rcases h with ⟨e1, e2⟩ | ⟨e1, e2⟩
    · subst e1
      refine wq_in (by decide) (chn_x hfu hb fl (j + 1) σ' (by omega) (by omega) (by omega) ho' (fun i x y => ?_))
      by_cases hij : i = j
      · subst hij; exact e2
      · exact hL i x (by omega)
    · subst e1
      exact wq_ip rfl (wq_some ⟨Or.inl ⟨j, h1, by omega, e2, hL, rfl⟩, ho'⟩)
theorem chn_m {fu C a b : Nat} {T : Nat → Pl} {σ0 : rr_M} (hfu : 70000 < fu) (hb : b < 8) (hP : ∀ t, t < 8 → pok (T t)) : ∀ (fl j : Nat) (σ : rr_M), a ≤ j → j < 8 → 9 - j ≤ fl → mok C T σ0 σ → (∀ i, a ≤ i → i < j → LCD (T (i + 1)) (T i)) → wq (l_Mod_chain_26 fu (nm C) C (nI b) fl (nI j) σ (fun σ => some (-1, σ))) (fun x => chS T a b x.1 ∧ mok C T σ0 x.2)
  | 0, j, σ, _, h2, h3, _, _ => by omega
  | fl + 1, j, σ, h1, h2, h3, hX, hL => by
    rw [l_Mod_chain_26]
    by_cases hbj : b ≤ j
    · exact wq_ip (nI_le hbj (by omega)) (wq_some ⟨Or.inr ⟨fun i x y => hL i x (by omega), rfl⟩, hX⟩)
    refine wq_in (nI_ge (by omega) (by omega)) ?_
    dsimp only [rr_lt]
    rw [nI_1]
    refine wq_bd (wq_mo (lac_m hfu (show j + 1 < 8 by omega) h2 hX.1 (hP _ (by omega)) (hP _ h2)) ?_)
    rintro ⟨r, σ'⟩ ⟨h, ho⟩
    dsimp only at h ho ⊢
    have ho' := mok_tr hX ho
    rcases h with ⟨e1, e2⟩ | ⟨e1, e2⟩
    · subst e1
      refine wq_in (by decide) (chn_m hfu hb hP fl (j + 1) σ' (by omega) (by omega) (by omega) ho' (fun i x y => ?_))
      by_cases hij : i = j
      · subst hij; exact e2
      · exact hL i x (by omega)
    · subst e1
      exact wq_ip rfl (wq_some ⟨Or.inl ⟨j, h1, by omega, e2, hL, rfl⟩, ho'⟩)
theorem op_chain_ok {fu B C : Nat} (hfu : 70000 < fu) : op_chain fu B C (Inv B C) := by
  rintro a1 a2 σx σm ⟨T, hX, hM, hT⟩
  obtain ⟨hM1, FM1⟩ := imc_0 (v := 0) hM
  rcases try_c a1 with ⟨e1, e2⟩ | ⟨t, ht, rfl, e1, e2⟩
  · refine op_cb (T := T) (-2) hT ?_ ?_
    · unfold f_Roo_chain
      rw [e1]
      exact wq_ob (wq_some (wq_ip rfl (wq_some ⟨rfl, xok_rf hX⟩)))
    · unfold f_Mod_chain
      dsimp only [rr_lt]
      rw [e2 C]
      exact wq_ob (wq_some (wq_ip rfl (wq_some ⟨rfl, hM1, FM1⟩)))
  rcases try_c a2 with ⟨g1, g2⟩ | ⟨u, hu, rfl, g1, g2⟩
  · refine op_cb (T := T) (-2) hT ?_ ?_
    · unfold f_Roo_chain
      rw [e1, g1]
      exact wq_ob (wq_some (wq_in (by decide) (wq_ob (wq_some (wq_ip rfl (wq_some ⟨rfl, xok_rf hX⟩))))))
    · unfold f_Mod_chain
      dsimp only [rr_lt]
      rw [e2 C, g2 C]
      exact wq_ob (wq_some (wq_in (by decide) (wq_ob (wq_some (wq_ip rfl (wq_some ⟨rfl, hM1, FM1⟩))))))
  refine op_cr (T := T) (chS T t u) (fun a b h h' => chS_u h h') hT ?_ ?_
  · unfold f_Roo_chain
    rw [e1, g1]
    exact wq_ob (wq_some (wq_in (by decide) (wq_ob (wq_some (wq_in (by decide) (chn_x hfu hu fu t σx (Nat.le_refl _) ht (by omega) (xok_rf hX) (fun i x y => absurd x (by omega))))))))
  · unfold f_Mod_chain
    dsimp only [rr_lt]
    rw [e2 C, g2 C]
    refine wq_ob (wq_some (wq_in (by decide) (wq_ob (wq_some (wq_in (by decide) (wq_mo (chn_m (σ0 := ms_i σm C 0 0) hfu hu (fun t ht => (hX.2.2.2 t ht).1) fu t _ (Nat.le_refl _) ht (by omega) ⟨hM1, mfr_rf⟩ (fun i x y => absurd x (by omega))) ?_))))))
    rintro y ⟨h1, h2⟩
    exact ⟨h1, h2.1, mfr_tr FM1 h2.2⟩
