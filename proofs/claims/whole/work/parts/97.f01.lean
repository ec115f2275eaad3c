/-! ===== number, fault, end, put, feed ===== -/
theorem op_cn {α : Type} {B C : Nat} {T : Nat → Pl} {σx σm : rr_M} {f : Option α} {g : Option (α × rr_M)} (r : α) (hX : IXc B σx T) (hT : ITp B C σx σm) (hx : wq f (fun x => x = r)) (hm : wq g (fun y => y.1 = r ∧ mok C T σm y.2)) : ∃ (r : α) (σ1 σ2 : rr_M), f = some r ∧ σ1 = σx ∧ g = some (r, σ2) ∧ Inv B C σ1 σ2 := by
  obtain ⟨x, e1, e2⟩ := hx
  obtain ⟨y, d1, d2, d3, d4⟩ := hm
  exact ⟨r, σx, y.2, by rw [e1, e2], rfl, by rw [d1, ← d2], T, hX, d3, itp_mv hT rfl rfl d4⟩
theorem pow_c (v : Int32) : (f_Roo_isPower v = some 0 ∧ f_Mod_isIn v.toInt64 0 8 = some 0) ∨ ∃ s, s ≤ 8 ∧ v = nI s ∧ f_Roo_isPower v = some 1 ∧ f_Mod_isIn v.toInt64 0 8 = some 1 := by
  have b0 : rr_b1 0 = true := by decide
  have b1 : rr_b1 1 = true := by decide
  rcases rng v 8 (by omega) with h | ⟨t, ht, e⟩
  · refine Or.inl ⟨?_, ?_⟩
    · unfold f_Roo_isPower
      rw [b0, b1]
      by_cases h1 : v < 0
      · rw [if_pos h1, if_pos rfl]
      · rw [if_neg h1, if_pos, if_pos rfl]
        rw [Int32.lt_iff_toInt_lt] at h1 ⊢
        show (8 : Int) < _
        have : (0 : Int32).toInt = 0 := rfl
        omega
    · rw [isin_ok, if_neg]
      rw [Int32.toInt_toInt64]
      show ¬ ((0 : Int) ≤ _ ∧ _ ≤ (8 : Int))
      omega
  · refine Or.inr ⟨t, ht, e, ?_, ?_⟩
    · unfold f_Roo_isPower
      rw [b0, b1, e, if_neg (nI_pos (by omega)), if_neg (show ¬ (8 : Int32) < nI t from nI_nlt (a := 8) (by omega) (by omega)), if_pos rfl]
    · rw [isin_ok, if_pos]
      rw [Int32.toInt_toInt64, e, nI_toInt (by omega)]
      show ((0 : Int) ≤ _ ∧ _ ≤ (8 : Int))
      omega
theorem fac_c (v : Int32) : (f_Roo_isFactor v = some 0 ∧ f_Mod_isIn v.toInt64 (-1000) 1000 = some 0) ∨ (-1000 ≤ v.toInt ∧ v.toInt ≤ 1000 ∧ f_Roo_isFactor v = some 1 ∧ f_Mod_isIn v.toInt64 (-1000) 1000 = some 1) := by
  have b0 : rr_b1 0 = true := by decide
  have b1 : rr_b1 1 = true := by decide
  have k1 : (-1000 : Int32).toInt = -1000 := by decide
  have k2 : (1000 : Int32).toInt = 1000 := by decide
  have k3 : (-1000 : Int64).toInt = -1000 := by decide
  have k4 : (1000 : Int64).toInt = 1000 := by decide
  rw [isin_ok, Int32.toInt_toInt64, k3, k4]
  unfold f_Roo_isFactor
  rw [b0, b1]
  simp only [Int32.lt_iff_toInt_lt, Int32.le_iff_toInt_le, k1, k2]
  by_cases h1 : v.toInt < -1000
  · left
    constructor
    · split <;> (first | rfl | (split <;> first | rfl | omega) | omega)
    · rw [if_neg (by omega)]
  · by_cases h2 : 1000 < v.toInt
    · left
      constructor
      · split <;> (first | rfl | (split <;> first | rfl | omega) | omega)
      · rw [if_neg (by omega)]
    · right
      refine ⟨by omega, by omega, ?_, ?_⟩
      · simp only [if_true]
        rw [if_neg h1, if_neg h2]
      · rw [if_pos (by omega)]
theorem op_number_ok {fu B C : Nat} : op_number fu B C (Inv B C) := by
  rintro a1 a2 σx σm ⟨T, hX, hM, hT⟩
  obtain ⟨hM1, FM1⟩ := imc_0 (v := 0) hM
  obtain ⟨Y1, L1⟩ := hM1.1
  rcases try_c a1 with ⟨e1, e2⟩ | ⟨t, ht, rfl, e1, e2⟩
  · refine op_cn (T := T) (-1000000000000000000) hX hT ?_ ?_
    · unfold f_Roo_number
      rw [e1]
      exact wq_ob (wq_some (wq_ip rfl (wq_some rfl)))
    · unfold f_Mod_number_
      dsimp only [rr_lt]
      rw [e2 C]
      exact wq_ob (wq_some (wq_ip rfl (wq_some ⟨rfl, hM1, FM1⟩)))
  rcases pow_c a2 with ⟨f1, f2⟩ | ⟨k, hk, rfl, f1, f2⟩
  · refine op_cn (T := T) (-1000000000000000000) hX hT ?_ ?_
    · unfold f_Roo_number
      rw [e1, f1]
      exact wq_ob (wq_some (wq_in (by decide) (wq_ob (wq_some (wq_ip rfl (wq_some rfl))))))
    · unfold f_Mod_number_
      dsimp only [rr_lt]
      rw [e2 C, f2]
      exact wq_ob (wq_some (wq_in (by decide) (wq_ob (wq_some (wq_ip rfl (wq_some ⟨rfl, hM1, FM1⟩))))))
  obtain ⟨q0, q1, q2, q3, q4, q5, q6, q7, q8⟩ := roo_t hX.1
  obtain ⟨b1, b2, b3⟩ := hX.2.2.2 t ht
  refine op_cn (T := T) (mg_l σx (B + (3 + 7 * t)) k) hX hT ?_ ?_
  · unfold f_Roo_number
    dsimp only [rr_lt]
    rw [e1, f1, q0, n_nI (show t < 2 ^ 31 by omega), (q7 t ht).1, (q7 t ht).2, n_nI (show k < 2 ^ 31 by omega)]
    refine wq_ob (wq_some (wq_in (by decide) (wq_ob (wq_some (wq_in (by decide) (wq_ip (q8 t ht) (wq_ip ?_ (wq_some rfl))))))))
    rw [nx_at, (nx_tr t ht).1]
    exact ix_nI (by omega) (by omega)
  · unfold f_Mod_number_
    dsimp only [rr_lt]
    rw [e2 C, f2, mat_ok L1.1 (by omega) (by omega)]
    refine wq_ob (wq_some (wq_in (by decide) (wq_ob (wq_some (wq_in (by decide) (wq_ob (wq_some (wq_some ⟨?_, hM1, FM1⟩))))))))
    apply j_inj
    rw [b2 k (by omega)]
    exact hM1.2 t ht k (by omega)
theorem op_fault_ok {fu B C : Nat} : op_fault fu B C (Inv B C) := by
  rintro σx σm ⟨T, hX, hM, hT⟩
  obtain ⟨hM1, FM1⟩ := imc_0 (v := 0) hM
  obtain ⟨q0, q1, q2, q3, q4, q5, q6, q7, q8⟩ := roo_t hX.1
  refine op_cn (T := T) (mg_i σx (B + 58) 2) hX hT ?_ ?_
  · unfold f_Roo_fault
    dsimp only [rr_lt]
    rw [q1]
    exact wq_some rfl
  · unfold f_Mod_fault
    dsimp only [rr_lt]
    refine wq_some ⟨?_, hM1, FM1⟩
    obtain ⟨n, a1, a2, a3, a4, a5⟩ := hT
    show mg_i (ms_i σm C 0 0) C 15 = _
    rw [si_n (Or.inr (by omega)), a4]
theorem isB_ge {o : Nat} (h : isB o = true) : 68 ≤ o := by
  apply Nat.le_of_not_lt
  intro hh
  rw [isB_lo hh] at h
  exact absurd h (by decide)
/-- the class at other tapes -/
theorem icx_tp {B : Nat} {σ σ' : rr_M} {T : Nat → Pl} (h : IXc B σ T) (hr : mg_r σ' = mg_r σ) (hi : ∀ o, o ≠ 58 → o ≠ 59 → mg_i σ' (B + o) = mg_i σ (B + o)) (hl : ∀ o, o ≠ 58 → o ≠ 60 → o ≠ 62 → mg_l σ' (B + o) = mg_l σ (B + o)) : IXc B σ' T := by
  obtain ⟨a1, ⟨Z, z1, z2⟩, ⟨a, b, hp⟩, a4⟩ := h
  refine ⟨crf_of a1 hr, ⟨Z, fun o ho => ⟨by rw [hr]; exact (z1 o ho).1, fun z hz => ?_⟩, z2⟩, ⟨a, b, by unfold prf at hp ⊢; rw [hr]; exact hp⟩, fun t ht => ?_⟩
  · have := isB_ge ho
    exact bg_keep ((z1 o ho).2 z hz) hr (hi o (by omega) (by omega)) (hl (o + 1) (by omega) (by omega) (by omega))
  · obtain ⟨b1, b2, b3⟩ := a4 t ht
    have e1 := hi (2 + 7 * t) (by omega) (by omega)
    have e2 := hi (4 + 7 * t) (by omega) (by omega)
    have e3 := hi (5 + 7 * t) (by omega) (by omega)
    have e4 := hi (7 + 7 * t) (by omega) (by omega)
    have e5 := hi (8 + 7 * t) (by omega) (by omega)
    have e6 := hl (6 + 7 * t) (by omega) (by omega) (by omega)
    refine ⟨b1, fun j hj => ?_, ?_⟩
    · rw [hl (3 + 7 * t) (by omega) (by omega) (by omega)]
      exact b2 j hj
    · unfold trs prvd at b3 ⊢
      rw [e1, e2, e3]
      rcases b3 with q | ⟨q1, q2⟩
      · exact Or.inl q
      · refine Or.inr ⟨q1, ?_⟩
        rcases q2 with q2 | ⟨q2, q3⟩
        · exact Or.inl q2
        · exact Or.inr ⟨q2, fun j hj => pl1_of (q3 j hj) (by rw [e6]) (by rw [e4]) (by rw [e5])⟩
theorem op_end_ok {fu B C : Nat} : op_end fu B C (Inv B C) := by
  rintro a1 σx σm ⟨T, hX, hM, hT⟩
  obtain ⟨hM1, FM1⟩ := imc_0 (v := 0) hM
  obtain ⟨Y1, L1⟩ := hM1.1
  obtain ⟨q0, q1, q2, q3, q4, q5, q6, q7, q8⟩ := roo_t hX.1
  obtain ⟨n, n1, n2, n3, n4, n5⟩ := hT
  have e14 : mg_i (ms_i σm C 0 0) C 14 = nI n := by rw [si_n (Or.inr (by omega)), n3]
  have zz : (0 : Int64).toInt = 0 := rfl
  rcases rng a1 n (by omega) with h | ⟨m, hm, rfl⟩
  · refine op_cb (T := T) 0 ⟨n, n1, n2, n3, n4, n5⟩ ?_ ?_
    · unfold f_Roo_end
      dsimp only [rr_lt]
      rw [q1, n2]
      by_cases h0 : a1 < 0
      · exact wq_ip h0 (wq_ip (by decide) (wq_some ⟨rfl, xok_rf hX⟩))
      · refine wq_in h0 (wq_in ?_ (wq_ip (by decide) (wq_some ⟨rfl, xok_rf hX⟩)))
        rw [Int32.lt_iff_toInt_lt] at h0
        rw [Int32.le_iff_toInt_le, nI_toInt (by omega)]
        have : (0 : Int32).toInt = 0 := rfl
        omega
    · unfold f_Mod_end
      dsimp only [rr_lt]
      rw [e14, isin_ok, if_neg]
      · exact wq_ob (wq_some (wq_ip rfl (wq_ip (by decide) (wq_some ⟨rfl, hM1, FM1⟩))))
      · rw [Int32.toInt_toInt64, Int32.toInt_toInt64, nI_toInt (by omega), zz]
        omega
  · refine op_of ?_
    unfold f_Roo_end f_Mod_end
    dsimp only [rr_lt]
    rw [q1, n2, e14, isin_ok, if_pos (show (0 : Int64).toInt ≤ (nI m).toInt64.toInt ∧ (nI m).toInt64.toInt ≤ (nI n).toInt64.toInt by
      rw [Int32.toInt_toInt64, Int32.toInt_toInt64, nI_toInt (by omega), nI_toInt (by omega), zz]
      omega)]
    refine wq_in (nI_pos (by omega)) (wq_ip (nI_le hm (by omega)) (wq_ip (by decide) (wq_some (wq_ob (wq_some (wq_in (by decide) (wq_ip (by decide) (wq_some ⟨rfl, T, ?_, ?_, ?_⟩))))))))
    · exact icx_tp hX rfl (fun o h1 h2 => si_row (by omega)) (fun o _ _ _ => rfl)
    · exact ⟨⟨Y1, LM_frm L1 rfl (si_row (by omega)) (si_row (by omega)) (si_row (by omega))⟩, fun t ht => hM1.2 t ht⟩
    · refine ⟨m, by omega, si_s _ _ _ _, si_s _ _ _ _, ?_, fun i hi => ?_⟩
      · dsimp only
        rw [si_n (Or.inr (by omega)), si_n (Or.inr (by omega)), si_n (Or.inr (by omega))]
        exact n4
      · dsimp only
        rw [si_row (by omega), si_row (by omega), si_row (by omega)]
        exact n5 i (by omega)
def upT (T : Nat → Pl) (t : Nat) (P : Pl) : Nat → Pl := fun i => if i = t then P else T i
/-- a tray of the class is told anew -/
theorem icx_new {B t : Nat} {σ σ' : rr_M} {T : Nat → Pl} {P : Pl} (ht : t < 8) (h : IXc B σ T) (hr : mg_r σ' = mg_r σ) (hi : ∀ o, o ≠ 58 → o ≠ 59 → o ≠ 2 + 7 * t → mg_i σ' (B + o) = mg_i σ (B + o)) (hl : ∀ o, o ≠ 58 → o ≠ 60 → o ≠ 62 → o ≠ 3 + 7 * t → mg_l σ' (B + o) = mg_l σ (B + o)) (hz : mg_i σ' (B + (2 + 7 * t)) 1 = 0) (h9 : mg_i σ' (B + (2 + 7 * t)) 9 = 0) (hP : pok P) (hv : ∀ j, j < 9 → (mg_l σ' (B + (3 + 7 * t)) j).toInt = P j) : IXc B σ' (upT T t P) := by
  obtain ⟨a1, ⟨Z, z1, z2⟩, ⟨a, b, hp⟩, a4⟩ := h
  refine ⟨crf_of a1 hr, ⟨Z, fun o ho => ⟨by rw [hr]; exact (z1 o ho).1, fun z hz => ?_⟩, z2⟩, ⟨a, b, by unfold prf at hp ⊢; rw [hr]; exact hp⟩, fun u hu => ?_⟩
  · have := isB_ge ho
    exact bg_keep ((z1 o ho).2 z hz) hr (hi o (by omega) (by omega) (by omega)) (hl (o + 1) (by omega) (by omega) (by omega) (by omega))
  · by_cases hut : u = t
    · subst hut
      rw [show upT T u P u = P from if_pos rfl]
      exact ⟨hP, hv, Or.inl ⟨hz, h9⟩⟩
    · rw [show upT T t P u = T u from if_neg hut]
      obtain ⟨b1, b2, b3⟩ := a4 u hu
      have e1 := hi (2 + 7 * u) (by omega) (by omega) (by omega)
      have e2 := hi (4 + 7 * u) (by omega) (by omega) (by omega)
      have e3 := hi (5 + 7 * u) (by omega) (by omega) (by omega)
      have e4 := hi (7 + 7 * u) (by omega) (by omega) (by omega)
      have e5 := hi (8 + 7 * u) (by omega) (by omega) (by omega)
      have e6 := hl (6 + 7 * u) (by omega) (by omega) (by omega) (by omega)
      refine ⟨b1, fun j hj => ?_, ?_⟩
      · rw [hl (3 + 7 * u) (by omega) (by omega) (by omega) (by omega)]
        exact b2 j hj
      · unfold trs prvd at b3 ⊢
        rw [e1, e2, e3]
        rcases b3 with q | ⟨q1, q2⟩
        · exact Or.inl q
        · refine Or.inr ⟨q1, ?_⟩
          rcases q2 with q2 | ⟨q2, q3⟩
          · exact Or.inl q2
          · exact Or.inr ⟨q2, fun j hj => pl1_of (q3 j hj) (by rw [e6]) (by rw [e4]) (by rw [e5])⟩
theorem imc_new {C t : Nat} {σ σ' : rr_M} {T : Nat → Pl} {P : Pl} {Y : Nat → Int} (h : ∀ u, u < 8 → mpo C σ u (T u)) (L : LM C σ' Y) (hk : ∀ i, i < 72 → i < 9 * t ∨ 9 * t + 9 ≤ i → mg_l σ' (C + 8) i = mg_l σ (C + 8) i) (hv : mpo C σ' t P) : IMc C σ' (upT T t P) := by
  refine ⟨⟨Y, L⟩, fun u hu => ?_⟩
  by_cases hut : u = t
  · subst hut
    rw [show upT T u P u = P from if_pos rfl]
    exact hv
  · rw [show upT T t P u = T u from if_neg hut]
    intro k hk9
    rw [hk (9 * u + k) (by omega) (by omega)]
    exact h u hu k hk9
theorem mpt_ok {C r k : Nat} {σ : rr_M} {v : Int64} (hm : mrf C σ) (hr : r < 23) (hk : k < 9) : f_Mod_puts (nm C) C (nI r) (nI k) v σ = some ((), ms_l σ (C + 8) (9 * r + k) v) := by
  have h := mat_ok (C := C) (σ := σ) hm hr hk
  have e : (9 * nI r) + nI k = nI (9 * r + k) := by rw [show (9 : Int32) = nI 9 from rfl, nI_mul, nI_add]
  unfold f_Mod_at at h
  unfold f_Mod_puts
  dsimp only [rr_lt] at h ⊢
  rw [e, n_nI (by omega)] at h ⊢
  by_cases hc : rr_ix (nI (9 * r + k)) (nm C (mg_r σ C 8)) = true
  · rw [if_pos hc, show mg_r σ C 8 = C + 8 by rw [show mg_r σ C = _ from hm]; rfl]
  · rw [if_neg hc] at h
    exact absurd h (by simp)
theorem op_put_ok {fu B C : Nat} : op_put fu B C (Inv B C) := by
  rintro a1 a2 a3 σx σm ⟨T, hX, hM, hT⟩
  obtain ⟨hM1, FM1⟩ := imc_0 (v := 0) hM
  obtain ⟨Y1, L1⟩ := hM1.1
  have z0 : (100000000 : Int64).toInt = 100000000 := by decide
  have z1 : (-100000000 : Int64).toInt = -100000000 := by decide
  rcases try_c a1 with ⟨e1, e2⟩ | ⟨t, ht, rfl, e1, e2⟩
  · refine op_cb (T := T) 0 hT ?_ ?_
    · unfold f_Roo_put
      rw [e1]
      exact wq_ob (wq_some (wq_ip rfl (wq_ip (by decide) (wq_some ⟨rfl, xok_rf hX⟩))))
    · unfold f_Mod_put_
      dsimp only [rr_lt]
      rw [e2 C]
      exact wq_ob (wq_some (wq_ip rfl (wq_ip (by decide) (wq_some ⟨rfl, hM1, FM1⟩))))
  rcases pow_c a2 with ⟨f1, f2⟩ | ⟨k, hk, rfl, f1, f2⟩
  · refine op_cb (T := T) 0 hT ?_ ?_
    · unfold f_Roo_put
      rw [e1, f1]
      exact wq_ob (wq_some (wq_in (by decide) (wq_ob (wq_some (wq_ip rfl (wq_ip (by decide) (wq_some ⟨rfl, xok_rf hX⟩)))))))
    · unfold f_Mod_put_
      dsimp only [rr_lt]
      rw [e2 C, f2]
      exact wq_ob (wq_some (wq_in (by decide) (wq_ob (wq_some (wq_ip rfl (wq_ip (by decide) (wq_some ⟨rfl, hM1, FM1⟩)))))))
  by_cases hv : -100000000 ≤ a3.toInt ∧ a3.toInt ≤ 100000000
  rotate_left
  · refine op_cb (T := T) 0 hT ?_ ?_
    · unfold f_Roo_put
      rw [e1, f1]
      refine wq_ob (wq_some (wq_in (by decide) (wq_ob (wq_some (wq_in (by decide) ?_)))))
      by_cases h0 : (100000000 : Int64) < a3.toInt64
      · exact wq_ip h0 (wq_ip (by decide) (wq_some ⟨rfl, xok_rf hX⟩))
      · refine wq_in h0 (wq_in ?_ (wq_ip (by decide) (wq_some ⟨rfl, xok_rf hX⟩)))
        rw [Int64.lt_iff_toInt_lt, Int32.toInt_toInt64, z0] at h0
        rw [Int64.le_iff_toInt_le, Int32.toInt_toInt64, z1]
        omega
    · unfold f_Mod_put_
      dsimp only [rr_lt]
      rw [e2 C, f2, isin_ok, if_neg (show ¬ ((-100000000 : Int64).toInt ≤ a3.toInt64.toInt ∧ a3.toInt64.toInt ≤ (100000000 : Int64).toInt) by rw [Int32.toInt_toInt64, z0, z1]; exact hv)]
      exact wq_ob (wq_some (wq_in (by decide) (wq_ob (wq_some (wq_in (by decide) (wq_ob (wq_some (wq_ip rfl (wq_ip (by decide) (wq_some ⟨rfl, hM1, FM1⟩))))))))))
  obtain ⟨q0, q1, q2, q3, q4, q5, q6, q7, q8⟩ := roo_t hX.1
  obtain ⟨b1, b2, b3⟩ := hX.2.2.2 t ht
  obtain ⟨n, n1, n2, n3, n4, n5⟩ := hT
  refine op_of ?_
  unfold f_Roo_put f_Mod_put_ f_Tra_change f_Tra_forget
  dsimp only [rr_lt]
  rw [e1, f1, e2 C, f2, isin_ok, if_pos (show (-100000000 : Int64).toInt ≤ a3.toInt64.toInt ∧ a3.toInt64.toInt ≤ (100000000 : Int64).toInt by rw [Int32.toInt_toInt64, z0, z1]; exact hv), q0, n_nI (show t < 2 ^ 31 by omega), (q7 t ht).1, (q7 t ht).2, n_nI (show k < 2 ^ 31 by omega), mpt_ok L1.1 (by omega) (by omega)]
  refine wq_ob (wq_some (wq_in (by decide) (wq_ob (wq_some (wq_in (by decide) (wq_in ?_ (wq_ip ?_ ?_)))))))
  rotate_left 2
  refine wq_ip (q8 t ht) (wq_bd (wq_in (nI_pos (by omega)) (wq_in (show ¬ (9 : Int32) ≤ nI k from nI_ge (b := 9) (by omega) (by omega)) (wq_ip ?_ ?_))))
  rotate_left
  refine wq_bd (wq_ip (by decide) (wq_ip (by decide) (wq_some (wq_some (wq_ip (by decide) (wq_some ?_))))))
  refine wq_ob (wq_some (wq_in (by decide) (wq_ob (wq_some (wq_in (by decide) (wq_ob (wq_some (wq_in (by decide) ?_))))))))
  refine wq_bd (wq_some (wq_ip (by decide) (wq_some ⟨rfl, upT T t (fun j => if j = k then a3.toInt else T t j), ?_, ?_, ?_⟩)))
  rotate_left 3
  · rw [Int64.lt_iff_toInt_lt, Int32.toInt_toInt64, z0]
    omega
  · rw [Int64.le_iff_toInt_le, Int32.toInt_toInt64, z1]
    omega
  · rw [nx_at, (nx_tr t ht).1]
    exact ix_nI (by omega) (by omega)
  · refine icx_new ht hX rfl (fun o h1 h2 h3 => ?_) (fun o h1 h2 h3 h4 => ?_) ?_ ?_ ?_ (fun j hj => ?_)
    · dsimp only
      rw [si_row (by omega), si_row (by omega)]
      rfl
    · exact rr_oL (by omega)
    · dsimp only
      rw [si_n (Or.inr (by omega)), si_s]
    · exact si_s _ _ _ _
    · refine ⟨fun j hj => ?_, fun j => ?_⟩
      · dsimp only
        rw [if_neg (by omega)]
        exact b1.1 j hj
      · dsimp only
        by_cases hjk : j = k
        · rw [if_pos hjk]; exact hv
        · rw [if_neg hjk]; exact b1.2 j
    · show (mg_l (ms_l σx (B + (3 + 7 * t)) k a3.toInt64) (B + (3 + 7 * t)) j).toInt = if j = k then a3.toInt else T t j
      by_cases hjk : j = k
      · rw [if_pos hjk, hjk, sl_s, Int32.toInt_toInt64]
      · rw [if_neg hjk, sl_n (Or.inr hjk)]
        exact b2 j hj
  · refine imc_new (σ := ms_i σm C 0 0) hM1.2 (LM_frm L1 rfl rfl rfl rfl) (fun i hi h => ?_) (fun j hj => ?_)
    · exact sl_n (Or.inr (by omega))
    · show (mg_l (ms_l (ms_i σm C 0 0) (C + 8) (9 * t + k) a3.toInt64) (C + 8) (9 * t + j)).toInt = if j = k then a3.toInt else T t j
      by_cases hjk : j = k
      · rw [if_pos hjk, hjk, sl_s, Int32.toInt_toInt64]
      · rw [if_neg hjk, sl_n (Or.inr (by omega))]
        exact hM1.2 t ht j hj
  · refine ⟨n, n1, ?_, ?_, ?_, fun i hi => ?_⟩
    · dsimp only
      rw [si_row (by omega), si_row (by omega)]
      exact n2
    · show mg_i (ms_i σm C 0 0) C 14 = _
      rw [si_n (Or.inr (by omega))]
      exact n3
    · show mg_i (ms_i (ms_i _ _ _ _) _ _ _) (B + 58) 2 = mg_i (ms_i σm C 0 0) C 15
      rw [si_row (by omega), si_row (by omega), si_n (Or.inr (by omega))]
      exact n4
    · show byt (mg_i (ms_i (ms_i _ _ _ _) _ _ _) (B + 59) i) (mg_i (ms_i σm C 0 0) (C + 12) i)
      rw [si_row (by omega), si_row (by omega), si_row (by omega)]
      exact n5 i hi
