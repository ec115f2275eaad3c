/-! ===== what comes in a tray of the model; join, times ===== -/
theorem i21 {C k : Nat} {σ : rr_M} (hm : mrf C σ) (hk : k < 9) : f_Mod_at (nm C) C 21 (nI k) σ = some (mg_l σ (C + 8) (189 + k)) := mat_ok (r := 21) hm (by omega) hk
theorem p21 {C k : Nat} {σ : rr_M} {v : Int64} (hm : mrf C σ) (hk : k < 9) : f_Mod_puts (nm C) C 21 (nI k) v σ = some ((), ms_l σ (C + 8) (189 + k) v) := mpt_ok (r := 21) hm (by omega) hk
theorem isp_m {fu C : Nat} {σ : rr_M} {G : Nat → Int} (hfu : 400 < fu) (hm : mrf C σ) (hv : ∀ j, j < 9 → (mg_l σ (C + 8) (189 + j)).toInt = G j) (hb : ∀ j, j < 9 → -9223372036854775808 < G j) : wq (f_Mod_isPoly fu (nm C) C 21 σ) (fun r => (r = 1 ∧ ∀ j, j < 9 → b8 (G j)) ∨ (r = 0 ∧ ¬ ∀ j, j < 9 → b8 (G j))) := by
  have z8 : (100000000 : Int64).toInt = 100000000 := by decide
  have key : ∀ (fl k : Nat), k ≤ 9 → 10 - k ≤ fl → (∀ j, j < k → b8 (G j)) → wq (l_Mod_isPoly_2 fu (nm C) C 21 σ fl (nI k) (if rr_b1 1 = true then some 1 else none)) (fun r => (r = 1 ∧ ∀ j, j < 9 → b8 (G j)) ∨ (r = 0 ∧ ¬ ∀ j, j < 9 → b8 (G j))) := by
    intro fl
    induction fl with
    | zero => intro k h1 h2; omega
    | succ fl ih =>
      intro k h1 h2 hL
      rw [l_Mod_isPoly_2]
      by_cases hk : k = 9
      · subst hk
        exact wq_ip (by decide) (wq_ip (by decide) (wq_some (Or.inl ⟨rfl, hL⟩)))
      refine wq_in (show ¬ (9 : Int32) ≤ nI k from nI_ge (b := 9) (by omega) (by omega)) ?_
      have v := hv k (by omega)
      have b := hb k (by omega)
      obtain ⟨w, e1, e2⟩ := siz_m (a := mg_l σ (C + 8) (189 + k)) (by omega)
      rw [i21 hm (show k < 9 by omega), nI_1]
      refine wq_ob (wq_some ?_)
      rw [e1]
      refine wq_ob (wq_some ?_)
      rw [v] at e2
      by_cases c : w ≤ 100000000
      · refine wq_ip c (ih (k + 1) (by omega) (by omega) (fun j hj => ?_))
        rw [j_le, e2, z8] at c
        by_cases hjk : j = k
        · subst hjk; unfold b8; omega
        · exact hL j (by omega)
      · refine wq_in c (wq_ip (by decide) (wq_some (Or.inr ⟨rfl, fun hh => ?_⟩)))
        have := hh k (by omega)
        unfold b8 at this
        rw [j_le, e2, z8] at c
        omega
  unfold f_Mod_isPoly
  exact key fu 0 (by omega) (by omega) (fun j hj => absurd hj (by omega))
theorem com_l {fu C t : Nat} {σ1 : rr_M} (hm : mrf C σ1) (ht : t < 8) {kk : rr_M → Option (Int32 × rr_M)} {Q : Int32 × rr_M → Prop}
    (hk : ∀ σ, mg_r σ = mg_r σ1 → mg_i σ = mg_i σ1 → (∀ i, i < 9 * t ∨ 9 * t + 9 ≤ i → mg_l σ (C + 8) i = mg_l σ1 (C + 8) i) → (∀ j, j < 9 → mg_l σ (C + 8) (9 * t + j) = mg_l σ1 (C + 8) (189 + j)) → wq (kk σ) Q) :
    ∀ (fl k : Nat) (σ : rr_M), k ≤ 9 → 10 - k ≤ fl → mg_r σ = mg_r σ1 → mg_i σ = mg_i σ1 → (∀ i, i < 9 * t ∨ 9 * t + 9 ≤ i → mg_l σ (C + 8) i = mg_l σ1 (C + 8) i) → (∀ j, j < k → mg_l σ (C + 8) (9 * t + j) = mg_l σ1 (C + 8) (189 + j)) → wq (l_Mod_comes_13 fu (nm C) C (nI t) fl (nI k) σ kk) Q
  | 0, k, σ, h1, h2, _, _, _, _ => by omega
  | fl + 1, k, σ, h1, h2, e1, e2, e3, e4 => by
    rw [l_Mod_comes_13]
    by_cases h9 : k = 9
    · subst h9
      exact wq_ip (by decide) (hk σ e1 e2 e3 e4)
    have hm' : mrf C σ := mrf_of hm e1
    refine wq_in (show ¬ (9 : Int32) ≤ nI k from nI_ge (b := 9) (by omega) (by omega)) ?_
    rw [i21 hm' (show k < 9 by omega), nI_1]
    refine wq_ob (wq_some ?_)
    rw [mpt_ok hm' (show t < 23 by omega) (show k < 9 by omega)]
    refine wq_bd (wq_some ?_)
    dsimp only [rr_lt]
    refine com_l hm ht hk fl (k + 1) _ (by omega) (by omega) e1 e2 (fun i hi => ?_) (fun j hj => ?_)
    · rw [sl_n (Or.inr (by omega))]
      exact e3 i hi
    · by_cases hjk : j = k
      · subst hjk
        rw [sl_s]
        exact e3 _ (by omega)
      · rw [sl_n (Or.inr (by omega))]
        exact e4 j (by omega)
theorem com_m {fu C t : Nat} {σ : rr_M} {T : Nat → Pl} {G : Nat → Int} (hfu : 400 < fu) (ht : t < 8) (hM : IMc C σ T) (hv : ∀ j, j < 9 → (mg_l σ (C + 8) (189 + j)).toInt = G j) (hb : ∀ j, j < 9 → -9223372036854775808 < G j) : wq (f_Mod_comes fu (nm C) C (nI t) σ) (fun y => mg_i y.2 = mg_i σ ∧ ((y.1 = 1 ∧ (∀ j, j < 9 → b8 (G j)) ∧ IMc C y.2 (upT T t (cut G))) ∨ (y.1 = 0 ∧ (¬ ∀ j, j < 9 → b8 (G j)) ∧ IMc C y.2 T))) := by
  obtain ⟨⟨Y, L⟩, h2⟩ := hM
  unfold f_Mod_comes
  refine wq_ob (wq_mo (isp_m hfu L.1 hv hb) ?_)
  rintro r (⟨e, h⟩ | ⟨e, h⟩)
  · subst e
    refine wq_in (by decide) (com_l L.1 ht ?_ fu 0 σ (by omega) (by omega) rfl rfl (fun _ _ => rfl) (fun j hj => absurd hj (by omega)))
    intro σ2 e1 e2 e3 e4
    refine wq_ip (by decide) (wq_some ⟨e2, Or.inl ⟨rfl, h, ?_⟩⟩)
    refine imc_new (σ := σ) h2 (LM_frm L e1 (by rw [e2]) (by rw [e2]) (by rw [e2])) (fun i _ hi => e3 i hi) (fun j hj => ?_)
    show (mg_l σ2 (C + 8) (9 * t + j)).toInt = cut G j
    rw [e4 j hj, hv j hj]
    exact (if_pos hj).symm
  · subst e
    exact wq_ip rfl (wq_ip (by decide) (wq_some ⟨rfl, Or.inr ⟨rfl, h, ⟨Y, L⟩, h2⟩⟩))
theorem mkm_0 {C t : Nat} {T : Nat → Pl} {σ σ' : rr_M} {R : Pl} {OK : Prop} (h : ¬ OK) (hM : IMc C σ' T) (h1 : mg_i σ' C 14 = mg_i σ C 14) (h2 : mg_i σ' C 15 = mg_i σ C 15) (h3 : mg_i σ' (C + 12) = mg_i σ (C + 12)) : wq (if rr_b1 0 = true then some ((0 : Int32), σ') else none) (mkM C T t OK R σ) := wq_ip (by decide) (wq_some ⟨Or.inr ⟨rfl, h, hM⟩, h1, h2, h3⟩)
theorem mkm_00 {C t : Nat} {T : Nat → Pl} {σ : rr_M} {R : Pl} {OK : Prop} (h : ¬ OK) (hM : IMc C (ms_i σ C 0 0) T) : wq (if rr_b1 0 = true then some ((0 : Int32), ms_i σ C 0 0) else none) (mkM C T t OK R σ) := mkm_0 h hM (si_n (Or.inr (by omega))) (si_n (Or.inr (by omega))) (si_row (by omega))
/-- only the row aside has changed -/
def mlf (C : Nat) (σ σ' : rr_M) : Prop := mg_r σ' = mg_r σ ∧ mg_i σ' = mg_i σ ∧ ∀ i, i < 189 → mg_l σ' (C + 8) i = mg_l σ (C + 8) i
theorem mlf_s {C k : Nat} {σ σ' : rr_M} {v : Int64} (h : mlf C σ σ') : mlf C σ (ms_l σ' (C + 8) (189 + k) v) := ⟨h.1, h.2.1, fun i hi => (sl_n (Or.inr (by omega))).trans (h.2.2 i hi)⟩
theorem imc_mlf {C : Nat} {σ σ' : rr_M} {T : Nat → Pl} (h : IMc C σ T) (F : mlf C σ σ') : IMc C σ' T := by
  obtain ⟨⟨Y, L⟩, h2⟩ := h
  exact ⟨⟨Y, LM_frm L F.1 (by rw [F.2.1]) (by rw [F.2.1]) (by rw [F.2.1])⟩, fun t ht k hk => by rw [F.2.2 _ (by omega)]; exact h2 t ht k hk⟩
/-- the model's call comes to its end -/
theorem mkm_t {fu C t : Nat} {T : Nat → Pl} {σm σ : rr_M} {G : Nat → Int} {OK : Prop} (hfu : 400 < fu) (ht : t < 8) (hM : IMc C σ T) (hi : mg_i σ = mg_i (ms_i σm C 0 0)) (hv : ∀ j, j < 9 → (mg_l σ (C + 8) (189 + j)).toInt = G j) (hb : ∀ j, j < 9 → -9223372036854775808 < G j) (hOK : OK ↔ ∀ j, j < 9 → b8 (G j)) : wq (rr_bd (f_Mod_comes fu (nm C) C (nI t) σ) fun r_26 σ_27 => if rr_b1 r_26 = true then some (r_26, σ_27) else none) (mkM C T t OK (cut G) σm) := by
  refine wq_bd (wq_mo (com_m hfu ht hM hv hb) ?_)
  rintro ⟨r, σ2⟩ ⟨k1, k2⟩
  dsimp only at k1 k2 ⊢
  have j1 : mg_i σ2 C 14 = mg_i σm C 14 := by rw [k1, hi, si_n (Or.inr (by omega))]
  have j2 : mg_i σ2 C 15 = mg_i σm C 15 := by rw [k1, hi, si_n (Or.inr (by omega))]
  have j3 : mg_i σ2 (C + 12) = mg_i σm (C + 12) := by rw [k1, hi, si_row (by omega)]
  rcases k2 with ⟨e, h, h3⟩ | ⟨e, h, h3⟩
  · subst e
    exact wq_ip (by decide) (wq_some ⟨Or.inl ⟨rfl, hOK.mpr h, h3⟩, j1, j2, j3⟩)
  · subst e
    exact wq_ip (by decide) (wq_some ⟨Or.inr ⟨rfl, fun hh => h (hOK.mp hh), h3⟩, j1, j2, j3⟩)
theorem jnm_l {fu C u w : Nat} {σ0 : rr_M} {P R : Pl} {a b : Int32} (hm : mrf C σ0) (hu : u < 8) (hw : w < 8) (hP : mpo C σ0 u P) (hR : mpo C σ0 w R) (hPb : ∀ j, b8 (P j)) (hRb : ∀ j, b8 (R j)) (ha : -1000 ≤ a.toInt ∧ a.toInt ≤ 1000) (hb : -1000 ≤ b.toInt ∧ b.toInt ≤ 1000) {kk : rr_M → Option (Int32 × rr_M)} {Q : Int32 × rr_M → Prop}
    (hk : ∀ σ, mlf C σ0 σ → (∀ j, j < 9 → (mg_l σ (C + 8) (189 + j)).toInt = a.toInt * P j + b.toInt * R j) → wq (kk σ) Q) :
    ∀ (fl k : Nat) (σ : rr_M), k ≤ 9 → 10 - k ≤ fl → mlf C σ0 σ → (∀ j, j < k → (mg_l σ (C + 8) (189 + j)).toInt = a.toInt * P j + b.toInt * R j) → wq (l_Mod_join_64 fu (nm C) C (nI u) (nI w) a b fl (nI k) σ kk) Q
  | 0, k, σ, h1, h2, _, _ => by omega
  | fl + 1, k, σ, h1, h2, hF, hV => by
    rw [l_Mod_join_64]
    by_cases h9 : k = 9
    · subst h9
      exact wq_ip (by decide) (hk σ hF hV)
    have hm' : mrf C σ := mrf_of hm hF.1
    refine wq_in (show ¬ (9 : Int32) ≤ nI k from nI_ge (b := 9) (by omega) (by omega)) ?_
    have v1 := hP k (by omega)
    have v2 := hR k (by omega)
    rw [← hF.2.2 _ (by omega)] at v1 v2
    have p1 := hPb k
    have p2 := hRb k
    unfold b8 at p1 p2
    rw [mat_ok hm' (show u < 23 by omega) (show k < 9 by omega), mat_ok hm' (show w < 23 by omega) (show k < 9 by omega), nI_1]
    refine wq_ob (wq_some (wq_ob (wq_some ?_)))
    rw [p21 hm' (show k < 9 by omega)]
    refine wq_bd (wq_some ?_)
    dsimp only [rr_lt]
    have m1 : ∀ x y : Int, -1000 ≤ x ∧ x ≤ 1000 → -100000000 ≤ y ∧ y ≤ 100000000 → -100000000000 ≤ x * y ∧ x * y ≤ 100000000000 := by
      intro x y hx hy
      have hx : x.natAbs ≤ 1000 := by omega
      have hy : y.natAbs ≤ 100000000 := by omega
      have := Nat.mul_le_mul hx hy
      rw [← Int.natAbs_mul] at this
      omega
    have c1 := m1 _ _ ha p1
    have c2 := m1 _ _ hb p2
    have e1 : (a.toInt64 * mg_l σ (C + 8) (9 * u + k)).toInt = a.toInt * P k := by
      rw [j_mul, Int32.toInt_toInt64, v1] <;> rw [Int32.toInt_toInt64, v1] <;> omega
    have e2 : (b.toInt64 * mg_l σ (C + 8) (9 * w + k)).toInt = b.toInt * R k := by
      rw [j_mul, Int32.toInt_toInt64, v2] <;> rw [Int32.toInt_toInt64, v2] <;> omega
    refine jnm_l hm hu hw hP hR hPb hRb ha hb hk fl (k + 1) _ (by omega) (by omega) (mlf_s hF) (fun j hj => ?_)
    by_cases hjk : j = k
    · subst hjk
      rw [sl_s, j_add, e1, e2] <;> rw [e1, e2] <;> omega
    · rw [sl_n (Or.inr (by omega))]
      exact hV j (by omega)
theorem op_join_ok {fu B C : Nat} (hfu : 70000 < fu) : op_join fu B C (Inv B C) := by
  rintro a1 a2 a3 a4 a5 σx σm ⟨T, hX, hM, hT⟩
  obtain ⟨hM1, FM1⟩ := imc_0 (v := 0) hM
  obtain ⟨Y1, L1⟩ := hM1.1
  have rx : mkf B σx σx := ⟨rfl, rfl, fun _ _ => rfl⟩
  rcases try_c a1 with ⟨e1, e2⟩ | ⟨t, ht, rfl, e1, e2⟩
  · refine op_mk (T := T) (t := 0) (OK := False) (R := pz) hT ?_ ?_
    · unfold f_Roo_join
      rw [e1]
      exact wq_ob (wq_some (wq_ip rfl (mkx_0 id hX rx)))
    · unfold f_Mod_join
      dsimp only [rr_lt]
      rw [e2 C]
      exact wq_ob (wq_some (wq_ip rfl (mkm_00 id hM1)))
  rcases try_c a2 with ⟨f1, f2⟩ | ⟨u, hu, rfl, f1, f2⟩
  · refine op_mk (T := T) (t := 0) (OK := False) (R := pz) hT ?_ ?_
    · unfold f_Roo_join
      rw [e1, f1]
      exact wq_ob (wq_some (wq_in (by decide) (wq_ob (wq_some (wq_ip rfl (mkx_0 id hX rx))))))
    · unfold f_Mod_join
      dsimp only [rr_lt]
      rw [e2 C, f2 C]
      exact wq_ob (wq_some (wq_in (by decide) (wq_ob (wq_some (wq_ip rfl (mkm_00 id hM1))))))
  rcases try_c a3 with ⟨g1, g2⟩ | ⟨w, hw, rfl, g1, g2⟩
  · refine op_mk (T := T) (t := 0) (OK := False) (R := pz) hT ?_ ?_
    · unfold f_Roo_join
      rw [e1, f1, g1]
      exact wq_ob (wq_some (wq_in (by decide) (wq_ob (wq_some (wq_in (by decide) (wq_ob (wq_some (wq_ip rfl (mkx_0 id hX rx)))))))))
    · unfold f_Mod_join
      dsimp only [rr_lt]
      rw [e2 C, f2 C, g2 C]
      exact wq_ob (wq_some (wq_in (by decide) (wq_ob (wq_some (wq_in (by decide) (wq_ob (wq_some (wq_ip rfl (mkm_00 id hM1)))))))))
  rcases fac_c a4 with ⟨k1, k2⟩ | ⟨k3, k4, k1, k2⟩
  · refine op_mk (T := T) (t := 0) (OK := False) (R := pz) hT ?_ ?_
    · unfold f_Roo_join
      rw [e1, f1, g1, k1]
      exact wq_ob (wq_some (wq_in (by decide) (wq_ob (wq_some (wq_in (by decide) (wq_ob (wq_some (wq_in (by decide) (wq_ob (wq_some (wq_ip rfl (mkx_0 id hX rx))))))))))))
    · unfold f_Mod_join
      dsimp only [rr_lt]
      rw [e2 C, f2 C, g2 C, k2]
      exact wq_ob (wq_some (wq_in (by decide) (wq_ob (wq_some (wq_in (by decide) (wq_ob (wq_some (wq_in (by decide) (wq_ob (wq_some (wq_ip rfl (mkm_00 id hM1))))))))))))
  rcases fac_c a5 with ⟨l1, l2⟩ | ⟨l3, l4, l1, l2⟩
  · refine op_mk (T := T) (t := 0) (OK := False) (R := pz) hT ?_ ?_
    · unfold f_Roo_join
      rw [e1, f1, g1, k1, l1]
      exact wq_ob (wq_some (wq_in (by decide) (wq_ob (wq_some (wq_in (by decide) (wq_ob (wq_some (wq_in (by decide) (wq_ob (wq_some (wq_in (by decide) (wq_ob (wq_some (wq_ip rfl (mkx_0 id hX rx)))))))))))))))
    · unfold f_Mod_join
      dsimp only [rr_lt]
      rw [e2 C, f2 C, g2 C, k2, l2]
      exact wq_ob (wq_some (wq_in (by decide) (wq_ob (wq_some (wq_in (by decide) (wq_ob (wq_some (wq_in (by decide) (wq_ob (wq_some (wq_in (by decide) (wq_ob (wq_some (wq_ip rfl (mkm_00 id hM1)))))))))))))))
  obtain ⟨q0, q1, q2, q3, q4, q5, q6, q7, q8⟩ := roo_t hX.1
  obtain ⟨b1, b2, _⟩ := hX.2.2.2 u hu
  obtain ⟨d1, d2, _⟩ := hX.2.2.2 w hw
  have m1 : ∀ x y : Int, -1000 ≤ x ∧ x ≤ 1000 → -100000000 ≤ y ∧ y ≤ 100000000 → -100000000000 ≤ x * y ∧ x * y ≤ 100000000000 := by
    intro x y hx hy
    have hx : x.natAbs ≤ 1000 := by omega
    have hy : y.natAbs ≤ 100000000 := by omega
    have := Nat.mul_le_mul hx hy
    rw [← Int.natAbs_mul] at this
    omega
  have c1 : ∀ j, -100000000000 ≤ a4.toInt * T u j ∧ a4.toInt * T u j ≤ 100000000000 := fun j => m1 _ _ ⟨k3, k4⟩ (b1.2 j)
  have c2 : ∀ j, -100000000000 ≤ a5.toInt * T w j ∧ a5.toInt * T w j ≤ 100000000000 := fun j => m1 _ _ ⟨l3, l4⟩ (d1.2 j)
  refine op_mk (T := T) (t := t) (OK := ∀ j, j < 9 → b8 (a4.toInt * T u j + a5.toInt * T w j)) (R := cut (fun j => a4.toInt * T u j + a5.toInt * T w j)) hT ?_ ?_
  · unfold f_Roo_join f_Mak_sum
    dsimp only [rr_lt]
    rw [e1, f1, g1, k1, l1, q2, q0, n_nI (show u < 2 ^ 31 by omega), n_nI (show w < 2 ^ 31 by omega), (q7 u hu).1, (q7 w hw).1, (q7 u hu).2, (q7 w hw).2]
    have n9 : nx B (B + (3 + 7 * u)) = 9 := by rw [nx_at]; exact (nx_tr u hu).1
    have n9' : nx B (B + (3 + 7 * w)) = 9 := by rw [nx_at]; exact (nx_tr w hw).1
    refine wq_ob (wq_some (wq_in (by decide) (wq_ob (wq_some (wq_in (by decide) (wq_ob (wq_some (wq_in (by decide) (wq_ob (wq_some (wq_in (by decide) (wq_ob (wq_some (wq_in (by decide) (wq_ip (q8 u hu) (wq_ip (q8 w hw) ?_))))))))))))))))
    refine wq_bd (wq_bd (wq_mo (clr_ok (by omega) hX.1) ?_))
    rintro ⟨x1, σ1⟩ h1
    dsimp only at h1 ⊢
    refine wq_bd (wq_mo (adn_ok (o := 3 + 7 * u) (up := 0) (P := T u) (by omega) hX.1 (by omega) n9 (by omega) b2 (Int32.toInt_toInt64 a4) (fun j _ => by have := c1 j; omega) (fun j _ => ⟨by decide, by decide⟩) h1) ?_)
    rintro ⟨x2, σ2⟩ h2
    dsimp only at h2 ⊢
    have h2' := mkr_e h2 (G' := fun j => if j < 9 then a4.toInt * T u j else 0) (fun j hj => by
      by_cases h : j < 9
      · rw [if_pos (by omega), if_pos h]; simp
      · rw [if_neg (by omega), if_neg h]; rfl)
    refine wq_bd (wq_mo (adn_ok (o := 3 + 7 * w) (up := 0) (P := T w) (by omega) hX.1 (by omega) n9' (by omega) d2 (Int32.toInt_toInt64 a5) (fun j _ => by have := c2 j; omega) (fun j _ => by
      have := c1 j
      split <;> omega) h2') ?_)
    rintro ⟨x3, σ3⟩ h3
    dsimp only at h3 ⊢
    have h3' := mkr_e h3 (G' := fun j => if j < 9 then a4.toInt * T u j + a5.toInt * T w j else 0) (fun j hj => by
      by_cases h : j < 9
      · rw [if_pos h, if_pos (by omega), if_pos h]; simp
      · rw [if_neg h, if_neg (by omega), if_neg h]; rfl)
    rw [mk_r hX.1 h3.1]
    refine wq_ob (wq_mo (fit_ok (by omega) (nx_62 B) (by omega) h3'.2) ?_)
    rintro r hr
    refine wq_ip (by rcases hr with ⟨e, _⟩ | ⟨e, _⟩ <;> rw [e] <;> decide) (wq_some ?_)
    dsimp only
    have hiff : (∀ j, j < 17 → fl1 (fun j => if j < 9 then a4.toInt * T u j + a5.toInt * T w j else 0) j) ↔ ∀ j, j < 9 → b8 (a4.toInt * T u j + a5.toInt * T w j) := by
      unfold fl1
      constructor
      · intro h j hj
        have := h j (by omega)
        rw [if_neg (by omega)] at this
        dsimp only at this
        rw [if_pos hj] at this
        exact this
      · intro h j hj
        by_cases h8 : 8 < j
        · rw [if_pos h8]; exact if_neg (by omega)
        · rw [if_neg h8]
          dsimp only
          rw [if_pos (by omega)]
          exact h j (by omega)
    rw [hiff] at hr
    exact mkx_t (G := fun j => a4.toInt * T u j + a5.toInt * T w j) (by omega) ht hX h3.1 hr (fun h j hj => ⟨h j hj, by rw [h3'.2 j (by omega)]; exact if_pos hj⟩)
  · unfold f_Mod_join
    dsimp only [rr_lt]
    rw [e2 C, f2 C, g2 C, k2, l2]
    refine wq_ob (wq_some (wq_in (by decide) (wq_ob (wq_some (wq_in (by decide) (wq_ob (wq_some (wq_in (by decide) (wq_ob (wq_some (wq_in (by decide) (wq_ob (wq_some (wq_in (by decide) ?_))))))))))))))
    refine jnm_l (σ0 := ms_i σm C 0 0) L1.1 hu hw (hM1.2 u hu) (hM1.2 w hw) (fun j => b1.2 j) (fun j => d1.2 j) ⟨k3, k4⟩ ⟨l3, l4⟩ ?_ fu 0 _ (by omega) (by omega) ⟨rfl, rfl, fun _ _ => rfl⟩ (fun j hj => absurd hj (by omega))
    intro σ2 F2 V2
    exact mkm_t (by omega) ht (imc_mlf hM1 F2) F2.2.1 V2 (fun j _ => by have := c1 j; have := c2 j; omega) Iff.rfl
