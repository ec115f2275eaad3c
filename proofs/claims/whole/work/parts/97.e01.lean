/-! ===== what holds between two calls ===== -/
def byt (x m : Int32) : Prop := 0 ≤ x.toInt ∧ x.toInt < 256 ∧ m.toInt = (if x.toInt < 128 then x.toInt else x.toInt - 256)
def trs (B t : Nat) (σ : rr_M) (P : Pl) : Prop := (mg_i σ (B + (2 + 7 * t)) 1 = 0 ∧ mg_i σ (B + (2 + 7 * t)) 9 = 0) ∨ (prvd B t σ P ∧ (mg_i σ (B + (2 + 7 * t)) 9 = 0 ∨ (mg_i σ (B + (2 + 7 * t)) 9 = 1 ∧ plcd B t σ P)))
def IXc (B : Nat) (σ : rr_M) (T : Nat → Pl) : Prop := crf B σ ∧ (∃ Z, bgs B σ Z ∧ Z 339 = some 1) ∧ (∃ a b, prf B σ a b) ∧ ∀ t, t < 8 → pok (T t) ∧ (∀ j, j < 9 → (mg_l σ (B + (3 + 7 * t)) j).toInt = T t j) ∧ trs B t σ (T t)
def IMc (C : Nat) (σ : rr_M) (T : Nat → Pl) : Prop := (∃ Y, LM C σ Y) ∧ ∀ t, t < 8 → mpo C σ t (T t)
def ITp (B C : Nat) (σx σm : rr_M) : Prop := ∃ n, n ≤ 200 ∧ mg_i σx (B + 58) 1 = nI n ∧ mg_i σm C 14 = nI n ∧ mg_i σx (B + 58) 2 = mg_i σm C 15 ∧ ∀ i, i < n → byt (mg_i σx (B + 59) i) (mg_i σm (C + 12) i)
def Inv (B C : Nat) (σx σm : rr_M) : Prop := ∃ T, IXc B σx T ∧ IMc C σm T ∧ ITp B C σx σm
theorem op_of {α : Type} {f g : Option (α × rr_M)} {J : rr_M → rr_M → Prop} (h : wq f (fun x => wq g (fun y => x.1 = y.1 ∧ J x.2 y.2))) : ∃ (r : α) (σ1 σ2 : rr_M), f = some (r, σ1) ∧ g = some (r, σ2) ∧ J σ1 σ2 := by
  obtain ⟨x, e1, y, e2, e3, e4⟩ := h
  exact ⟨x.1, x.2, y.2, e1, by rw [e2, e3], e4⟩
theorem itp_mv {B C : Nat} {σx σm σx' σm' : rr_M} (h : ITp B C σx σm) (h1 : mg_i σx' (B + 58) = mg_i σx (B + 58)) (h2 : mg_i σx' (B + 59) = mg_i σx (B + 59)) (hm : mfr C σm σm') : ITp B C σx' σm' := by
  obtain ⟨n, a1, a2, a3, a4, a5⟩ := h
  refine ⟨n, a1, by rw [h1]; exact a2, by rw [hm.2.2.2.2 14 (by omega) (by omega)]; exact a3, by rw [h1, hm.2.2.2.2 15 (by omega) (by omega)]; exact a4, fun i hi => ?_⟩
  rw [h2, hm.2.2.2.1 (C + 12) (by omega) (by omega) (by omega) (by omega) (by omega) (by omega) (by omega) (by omega)]
  exact a5 i hi
theorem pfx_tp {B t : Nat} {σ σ' : rr_M} (ht : t < 8) (h : pfx B (IT t) (LT t) σ σ') : mg_i σ' (B + 58) = mg_i σ (B + 58) ∧ mg_i σ' (B + 59) = mg_i σ (B + 59) := ⟨h.2.1 58 (by decide) (by unfold IT; omega), h.2.1 59 (by decide) (by unfold IT; omega)⟩
theorem prvd_mv {B t t' : Nat} {σ σ' : rr_M} {P : Pl} (ht : t < 8) (ht' : t' < 8) (hne : t' ≠ t) (F : pfx B (IT t) (LT t) σ σ') (h : prvd B t' σ P) : prvd B t' σ' P := by
  have e1 := F.2.1 (2 + 7 * t') (isB_lo (by omega)) (by unfold IT; omega)
  have e2 := F.2.1 (4 + 7 * t') (isB_lo (by omega)) (by unfold IT; omega)
  have e3 := F.2.1 (5 + 7 * t') (isB_lo (by omega)) (by unfold IT; omega)
  unfold prvd
  rw [e1, e2, e3]
  exact h
theorem trs_mv {B t t' : Nat} {σ σ' : rr_M} {P : Pl} (ht : t < 8) (ht' : t' < 8) (hne : t' ≠ t) (F : pfx B (IT t) (LT t) σ σ') (h : trs B t' σ P) : trs B t' σ' P := by
  have e1 := F.2.1 (2 + 7 * t') (isB_lo (by omega)) (by unfold IT; omega)
  have e4 := F.2.1 (7 + 7 * t') (isB_lo (by omega)) (by unfold IT; omega)
  have e5 := F.2.1 (8 + 7 * t') (isB_lo (by omega)) (by unfold IT; omega)
  have e6 := F.2.2 (6 + 7 * t') (isB_lo (by omega)) (by unfold LT; omega)
  unfold trs
  rw [e1]
  rcases h with h | ⟨h1, h2⟩
  · exact Or.inl h
  · refine Or.inr ⟨prvd_mv ht ht' hne F h1, ?_⟩
    rcases h2 with h2 | ⟨h2, h3⟩
    · exact Or.inl h2
    · exact Or.inr ⟨h2, fun j hj => pl1_of (h3 j hj) (by rw [e6]) (by rw [e4]) (by rw [e5])⟩
theorem icx_mv {B t : Nat} {σ σ' : rr_M} {T : Nat → Pl} {Z' : Nat → Option Int} (ht : t < 8) (h : IXc B σ T) (F : pfx B (IT t) (LT t) σ σ') (hZ : bgs B σ' Z') (h9 : Z' 339 = some 1) (hp : ∃ a b, prf B σ' a b) (hT : trs B t σ' (T t)) : IXc B σ' T := by
  obtain ⟨a1, a2, a3, a4⟩ := h
  refine ⟨crf_pfx a1 F, ⟨Z', hZ, h9⟩, hp, fun t' ht' => ?_⟩
  obtain ⟨b1, b2, b3⟩ := a4 t' ht'
  refine ⟨b1, fun j hj => ?_, ?_⟩
  · rw [F.2.2 (3 + 7 * t') (isB_lo (by omega)) (by unfold LT; omega)]
    exact b2 j hj
  · by_cases hne : t' = t
    · subst hne; exact hT
    · exact trs_mv ht ht' hne F b3
theorem fra_IT {B t : Nat} {σ σ' : rr_M} (h : fra B (IB t) LB σ σ') : pfx B (IT t) (LT t) σ σ' := pfx_mo (fra_pfx h) (fun o h => by unfold IB at h; unfold IT; omega) (fun o h => by unfold LB at h; unfold LT; omega)
/-- the class proves a tray -/
theorem cpv {fu B t : Nat} {σ : rr_M} {T : Nat → Pl} (hfu : 400 < fu) (ht : t < 8) (h : IXc B σ T) : wq (f_Lev_prove fu (nx B) (B + 306) (B + (2 + 7 * t)) σ) (fun r => IXc B r.2 T ∧ prvd B t r.2 (T t) ∧ pfx B (IT t) (LT t) σ r.2) := by
  have h' := h
  obtain ⟨a1, ⟨Z, z1, z2⟩, ⟨a, b, hp⟩, a4⟩ := h
  obtain ⟨b1, b2, b3⟩ := a4 t ht
  refine wq_mo (prv_c hfu ht b1 a1 z1 b2 ?_) ?_
  · rcases b3 with q | q
    · exact Or.inl q.1
    · exact Or.inr q.1
  rintro ⟨u, σ'⟩ ⟨Z', c1, c2, c3, c4, c5⟩
  dsimp only at c1 c3 c4 c5 ⊢
  have F := fra_IT c3
  have hp' : ∃ a b, prf B σ' a b := ⟨a, b, by unfold prf at hp ⊢; rw [c3.1]; exact hp⟩
  refine ⟨icx_mv ht h' F c1 (by rw [c2 339 (by omega)]; exact z2) hp' (Or.inr ⟨c4, ?_⟩), c4, F⟩
  rw [c5 9 (by omega)]
  rcases b3 with q | ⟨_, q | ⟨q1, q2⟩⟩
  · exact Or.inl q.2
  · exact Or.inl q
  · refine Or.inr ⟨q1, fun j hj => pl1_of (q2 j hj) ?_ ?_ ?_⟩
    · rw [c3.2.2 (6 + 7 * t) (isB_lo (by omega)) (by unfold LB; omega)]
    · rw [c3.2.1 (7 + 7 * t) (isB_lo (by omega)) (by unfold IB; omega)]
    · rw [c3.2.1 (8 + 7 * t) (isB_lo (by omega)) (by unfold IB; omega)]
theorem cpp {fu B t : Nat} {σ : rr_M} {T : Nat → Pl} (hfu : 400 < fu) (ht : t < 8) (h : IXc B σ T) (hv : prvd B t σ (T t)) : wq (f_Pla_place fu (nx B) (B + 319) (B + (2 + 7 * t)) σ) (fun r => IXc B r.2 T ∧ prvd B t r.2 (T t) ∧ plcd B t r.2 (T t) ∧ pfx B (IT t) (LT t) σ r.2) := by
  have h' := h
  obtain ⟨a1, ⟨Z, z1, z2⟩, hp, a4⟩ := h
  obtain ⟨b1, b2, b3⟩ := a4 t ht
  refine wq_mo (plc_ok hfu ht b1 a1 z1 hp z2 b2 hv ?_) ?_
  · rcases b3 with q | ⟨_, q⟩
    · exact Or.inl q.2
    · exact q
  rintro ⟨u, σ'⟩ ⟨Z', c1, c2, c3, c4, c5, c6, c7⟩
  exact ⟨icx_mv ht h' c4 c1 c2 c3 (Or.inr ⟨c5, Or.inr ⟨c6, c7⟩⟩), c5, c7, c4⟩
theorem imc_mfr {C : Nat} {σ σ' : rr_M} {T : Nat → Pl} {Y : Nat → Int} (h : IMc C σ T) (F : mfr C σ σ') (L : LM C σ' Y) : IMc C σ' T := ⟨⟨Y, L⟩, fun t ht => mpo_mfr F ht (h.2 t ht)⟩
theorem imc_0 {C : Nat} {σ : rr_M} {T : Nat → Pl} {v : Int32} (h : IMc C σ T) : IMc C (ms_i σ C 0 v) T ∧ mfr C σ (ms_i σ C 0 v) := by
  obtain ⟨⟨Y, L⟩, h2⟩ := h
  have F : mfr C σ (ms_i σ C 0 v) := mi_mfr (Or.inl rfl)
  exact ⟨imc_mfr ⟨⟨Y, L⟩, h2⟩ F (LM_frm L rfl (si_row (by omega)) (si_row (by omega)) (si_row (by omega))), F⟩
theorem mly {fu C t : Nat} {σ : rr_M} {T : Nat → Pl} (hfu : 70000 < fu) (ht : t < 8) (h : IMc C σ T) (hP : pok (T t)) : wq (f_Mod_lays fu (nm C) C (nI t) σ) (fun r => IMc C r.2 T ∧ mfr C σ r.2 ∧ ∃ Y, lyd C (DP (T t)) r.2 Y (T t)) := by
  obtain ⟨⟨Y, L⟩, h2⟩ := h
  refine wq_mo (lay_ok hfu ht hP L (h2 t ht)) ?_
  rintro r ⟨Y', V, F⟩
  exact ⟨imc_mfr ⟨⟨Y, L⟩, h2⟩ F V.1, F, Y', V⟩
theorem isin_ok (a b c : Int64) : f_Mod_isIn a b c = some (if b.toInt ≤ a.toInt ∧ a.toInt ≤ c.toInt then 1 else 0) := by
  unfold f_Mod_isIn
  have b0 : rr_b1 0 = true := by decide
  have b1 : rr_b1 1 = true := by decide
  rw [b0, b1]
  by_cases h1 : a < b
  · rw [if_pos h1, if_pos rfl, if_neg]
    rw [Int64.lt_iff_toInt_lt] at h1
    omega
  · rw [if_neg h1]
    rw [Int64.lt_iff_toInt_lt] at h1
    by_cases h2 : c < a
    · rw [if_pos h2, if_pos rfl, if_neg]
      rw [Int64.lt_iff_toInt_lt] at h2
      omega
    · rw [if_neg h2, if_pos rfl, if_pos]
      rw [Int64.lt_iff_toInt_lt] at h2
      omega
theorem rng (v : Int32) (n : Nat) (hn : n < 2147483647) : (v.toInt < 0 ∨ (n : Int) < v.toInt) ∨ ∃ t, t ≤ n ∧ v = nI t := by
  by_cases h : v.toInt < 0 ∨ (n : Int) < v.toInt
  · exact Or.inl h
  · refine Or.inr ⟨v.toInt.toNat, by omega, ?_⟩
    apply Int32.toInt_inj.mp
    rw [nI_toInt (by omega)]
    omega
theorem try_c (v : Int32) : (f_Roo_isTray v = some 0 ∧ ∀ C, f_Mod_isTray C v = some 0) ∨ ∃ t, t < 8 ∧ v = nI t ∧ f_Roo_isTray v = some 1 ∧ ∀ C, f_Mod_isTray C v = some 1 := by
  have b0 : rr_b1 0 = true := by decide
  have b1 : rr_b1 1 = true := by decide
  rcases rng v 7 (by omega) with h | ⟨t, ht, e⟩
  · refine Or.inl ⟨?_, fun C => ?_⟩
    · unfold f_Roo_isTray
      rw [b0, b1]
      by_cases h1 : v < 0
      · rw [if_pos h1, if_pos rfl]
      · rw [if_neg h1, if_pos, if_pos rfl]
        rw [Int32.lt_iff_toInt_lt] at h1
        rw [Int32.le_iff_toInt_le]
        show (8 : Int) ≤ _
        have : (0 : Int32).toInt = 0 := rfl
        omega
    · unfold f_Mod_isTray
      rw [isin_ok, if_neg]
      · rfl
      · rw [Int32.toInt_toInt64]
        show ¬ ((0 : Int) ≤ _ ∧ _ ≤ (7 : Int))
        omega
  · refine Or.inr ⟨t, by omega, e, ?_, fun C => ?_⟩
    · unfold f_Roo_isTray
      rw [b0, b1, e, if_neg (nI_pos (by omega)), if_neg (show ¬ (8 : Int32) ≤ nI t from nI_ge (b := 8) (by omega) (by omega)), if_pos rfl]
    · unfold f_Mod_isTray
      rw [isin_ok, if_pos]
      · rfl
      · rw [Int32.toInt_toInt64, e, nI_toInt (by omega)]
        show ((0 : Int) ≤ _ ∧ _ ≤ (7 : Int))
        omega
theorem rx_roo : RX 0 0 = 1 ∧ RX 0 1 = 58 ∧ RX 0 2 = 61 ∧ RX 0 3 = 306 ∧ RX 0 4 = 319 ∧ RX 0 5 = 63 ∧ RX 0 6 = 280 ∧ (∀ t, t < 8 → RX 1 t = 2 + 7 * t) ∧ NX 1 = 8 := by decide +kernel
/-- the way to a tray -/
theorem roo_t {B : Nat} {σ : rr_M} (hc : crf B σ) : mg_r σ B 0 = B + 1 ∧ mg_r σ B 1 = B + 58 ∧ mg_r σ B 2 = B + 61 ∧ mg_r σ B 3 = B + 306 ∧ mg_r σ B 4 = B + 319 ∧ mg_r σ B 5 = B + 63 ∧ mg_r σ B 6 = B + 280 ∧ (∀ t, t < 8 → mg_r σ (B + 1) t = B + (2 + 7 * t) ∧ mg_r σ (B + (2 + 7 * t)) 0 = B + (3 + 7 * t)) ∧ (∀ t, t < 8 → rr_ix (nI t) (nx B (B + 1)) = true) := by
  obtain ⟨q0, q1, q2, q3, q4, q5, q6, q7, q8⟩ := rx_roo
  have h : ∀ k, mg_r σ B k = B + RX 0 k := fun k => hc 0 k (by omega)
  refine ⟨by rw [h, q0], by rw [h, q1], by rw [h, q2], by rw [h, q3], by rw [h, q4], by rw [h, q5], by rw [h, q6], fun t ht => ⟨by rw [hc 1 t (by omega), q7 t ht], by rw [hc _ 0 (by omega), (rx_tr t ht).1]⟩, fun t ht => ?_⟩
  rw [nx_at, q8]
  exact ix_nI ht (by omega)
