/-! ===== the class places a tray's roots ===== -/
noncomputable def zX (P : Pl) (X : Int) : Int := zz P 0 ((X : Rat) / (2 : Rat) ^ 12)
theorem zX_1 (P : Pl) (X : Int) : zX P X = 1 ↔ sgq (vl (HL P 0) ((X : Rat) / (2 : Rat) ^ 12)) = 0 := by
  unfold zX zz
  by_cases h : sgq (vl (HL P 0) ((X : Rat) / (2 : Rat) ^ 12)) = 0
  · rw [if_pos h]; exact ⟨fun _ => h, fun _ => rfl⟩
  · rw [if_neg h]; exact ⟨fun hh => absurd hh (by decide), fun hh => absurd hh h⟩
noncomputable def exI (P : Pl) (j : Nat) (K : Int) : Int32 := if cX P K = (j : Int) + 1 ∧ zX P K = 1 then 1 else 0
def pl1 (B t : Nat) (σ : rr_M) (P : Pl) (j : Nat) : Prop := -549755813888 ≤ (mg_l σ (B + (6 + 7 * t)) j).toInt ∧ (mg_l σ (B + (6 + 7 * t)) j).toInt ≤ 549755813888 ∧ cX P ((mg_l σ (B + (6 + 7 * t)) j).toInt - 1) ≤ j ∧ (j : Int) < cX P (mg_l σ (B + (6 + 7 * t)) j).toInt ∧ mg_i σ (B + (7 + 7 * t)) j = exI P j (mg_l σ (B + (6 + 7 * t)) j).toInt ∧ mg_i σ (B + (8 + 7 * t)) j = nI (mu P j).toNat
theorem pl1_of {B t j : Nat} {σ σ' : rr_M} {P : Pl} (h : pl1 B t σ P j) (e1 : mg_l σ' (B + (6 + 7 * t)) j = mg_l σ (B + (6 + 7 * t)) j) (e2 : mg_i σ' (B + (7 + 7 * t)) j = mg_i σ (B + (7 + 7 * t)) j) (e3 : mg_i σ' (B + (8 + 7 * t)) j = mg_i σ (B + (8 + 7 * t)) j) : pl1 B t σ' P j := by
  unfold pl1
  rw [e1, e2, e3]
  exact h
def IT (t o : Nat) : Prop := o = 63 ∨ o = 65 ∨ o = 66 ∨ o = 280 ∨ o = 306 ∨ o = 317 ∨ o = 319 ∨ o = 333 ∨ o = 334 ∨ o = 2 + 7 * t ∨ o = 4 + 7 * t ∨ o = 5 + 7 * t ∨ o = 7 + 7 * t ∨ o = 8 + 7 * t
def LT (t o : Nat) : Prop := (308 ≤ o ∧ o ≤ 318) ∨ (321 ≤ o ∧ o ≤ 332) ∨ o = 6 + 7 * t
def IP (t o : Nat) : Prop := o = 280 ∨ o = 319 ∨ o = 333 ∨ o = 334 ∨ o = 7 + 7 * t ∨ o = 8 + 7 * t
def LPm (t o : Nat) : Prop := o = 330 ∨ o = 331 ∨ o = 332 ∨ o = 6 + 7 * t
theorem smn_two {f : Nat → Nat} {l : Nat} (h0 : 0 < l) : ∀ n, l < n → f 0 + f l ≤ smn n f
  | 0, h => absurd h (by omega)
  | n + 1, h => by
    show f 0 + f l ≤ smn n f + f n
    by_cases hl : l = n
    · subst hl
      have key : ∀ m, 0 < m → f 0 ≤ smn m f := fun m => by
        induction m with
        | zero => intro h; omega
        | succ m ih =>
          intro _
          show f 0 ≤ smn m f + f m
          by_cases hm : m = 0
          · subst hm; omega
          · have := ih (by omega); omega
      have := key l h0
      omega
    · have := smn_two (f := f) h0 n (by omega)
      omega
theorem MO_lo {P : Pl} (hP : pok P) (hd : 0 < dgg P) (h : MO P ≤ 1) {j : Nat} (hj : j < rn P 0) : mu P j = 1 := by
  obtain ⟨d1, d2, d3⟩ := rl_0 hP hd
  refine mu_one hP hd (fun l h1 h2 => ?_) (by omega)
  apply Int.not_lt.mp
  intro hh
  have e : DP P = dep P := if_pos hd
  have := smn_two (f := fun i => if 0 < rn P i then 1 else 0) h1 (DP P) (by omega)
  have hl : 0 < rn P l := by unfold rn; omega
  have : (if 0 < rn P 0 then 1 else 0) + (if 0 < rn P l then 1 else 0) ≤ MO P := this
  rw [if_pos (by omega), if_pos hl] at this
  omega
theorem MO_hi {P : Pl} (hP : pok P) (hd : 0 < dgg P) (h : 1 < MO P) : dgg (HL P 0) ≤ 7 := by
  have e : DP P = dep P := if_pos hd
  have b := smn_le (f := fun i => if 0 < rn P i then 1 else 0) (c := 1) (DP P) (fun k hk => by
    show (if 0 < rn P k then 1 else 0) ≤ 1
    by_cases h : 0 < rn P k
    · rw [if_pos h]; omega
    · rw [if_neg h]; omega)
  have b : MO P ≤ DP P * 1 := b
  have := HL_7 hP hd (dep_pos hP hd) (Or.inr (by omega))
  omega
theorem mu_nn {P : Pl} (hP : pok P) (hd : 0 < dgg P) {j : Nat} (hj : j < rn P 0) : 1 ≤ mu P j := by
  obtain ⟨d1, d2, d3⟩ := rl_0 hP hd
  exact mu_pos hP hd (by omega)
def pls (B t k : Nat) (σ0 σ : rr_M) (P : Pl) : Prop := pfx B (IP t) (LPm t) σ0 σ ∧ (∃ Z, pcx B σ Z P) ∧ (∀ i, i < rn P 0 → bk1 B σ P i) ∧ ∀ i, i < k → pl1 B t σ P i
theorem ple_l {fu B t : Nat} {σ0 : rr_M} {P : Pl} (hfu : 400 < fu) (ht : t < 8) (hP : pok P) (hd : 0 < dgg P) (hmo : mg_i σ0 (B + (2 + 7 * t)) 5 = nI (MO P)) {Q : Unit × rr_M → Prop} (hk : ∀ σ, pls B t (rn P 0) σ0 σ P → Q ((), σ)) :
    ∀ (fl k : Nat) (σ : rr_M), k ≤ rn P 0 → 10 - k ≤ fl → pls B t k σ0 σ P → wq (l_Pla_place_57 fu (nx B) (B + 319) (B + (2 + 7 * t)) fl (nI k) σ (fun σ_48 => some ((), σ_48))) Q
  | 0, k, σ, h1, h2, _ => by
    have := rl_0 hP hd
    omega
  | fl + 1, k, σ, h1, h2, hS => by
    obtain ⟨F, ⟨Z, X⟩, hB, hL⟩ := hS
    obtain ⟨d1, d2, d3⟩ := rl_0 hP hd
    obtain ⟨p0, p1, p2, p3, p4, p7, p8, p9, p10, p11, p12, p13⟩ := rx_pla
    obtain ⟨s1, s2, s3, s4, s5, s6, s7, s8⟩ := rx_sim
    obtain ⟨x0, x7, x8, x10, x11, x12⟩ := rx_tr t ht
    obtain ⟨y3, y4, y5, y6, y7, y8⟩ := nx_tr t ht
    rw [l_Pla_place_57]
    rw [X.2.2.2.2.2.2.2.1]
    by_cases hke : k = rn P 0
    · subst hke
      exact wq_ip (nI_le (Nat.le_refl _) (by omega)) (wq_some (hk σ ⟨F, ⟨Z, X⟩, hB, hL⟩))
    have hkn : k < rn P 0 := by omega
    refine wq_in (nI_ge (by omega) (by omega)) ?_
    have ml : rr_n (nI k) = k := n_nI (by omega)
    have ix : ∀ o, NX o = 8 → rr_ix (nI k) (nx B (B + o)) = true := fun o h => by rw [nx_at, h]; exact ix_nI (by omega) (by omega)
    have toP : ∀ {σ σ' : rr_M}, pfx B (fun o => o = 280 ∨ IK o) LK σ σ' → pfx B (IP t) (LPm t) σ σ' := fun h => pfx_mo h (fun o h => by unfold IK at h; unfold IP; omega) (fun o h => by unfold LK at h; unfold LPm; omega)
    refine wq_bd (wq_mo (prt_ok hfu hP hd hkn ⟨pfx_rf, ⟨Z, X⟩, hB⟩) ?_)
    rintro ⟨u1, σ1⟩ ⟨⟨F1, ⟨Z1, X1⟩, B1⟩, al1⟩
    dsimp only at F1 X1 B1 al1 ⊢
    refine wq_bd (wq_mo (nar_ok hfu hP hd hkn ⟨pfx_rf, ⟨Z1, X1⟩, B1⟩ al1) ?_)
    rintro ⟨u2, σ2⟩ ⟨⟨F2, ⟨Z2, X2⟩, B2⟩, w2⟩
    dsimp only [rr_lt] at F2 X2 B2 w2 ⊢
    have G2 : pfx B (IP t) (LPm t) σ0 σ2 := pfx_tr F (pfx_tr (toP F1) (toP F2))
    have tr : ∀ {σ' : rr_M}, pfx B (IP t) (LPm t) σ σ' → ∀ i, i < k → mg_l σ' (B + (6 + 7 * t)) i = mg_l σ (B + (6 + 7 * t)) i → mg_i σ' (B + (7 + 7 * t)) i = mg_i σ (B + (7 + 7 * t)) i → mg_i σ' (B + (8 + 7 * t)) i = mg_i σ (B + (8 + 7 * t)) i → pl1 B t σ' P i := fun _ i hi e1 e2 e3 => pl1_of (hL i hi) e1 e2 e3
    obtain ⟨a1, a2, a3, a4, a5, a6, a7⟩ := B2 k hkn
    rw [ml, X2.1 319 2 (by omega), p2, X2.1 319 8 (by omega), p8]
    refine wq_ip (ix 332 s6) (wq_bd (wq_mo (mvc (e := 39) hfu hP hd X2 (by omega) (szb_39 (by omega) (by omega))) ?_))
    rintro ⟨u3, σ3⟩ ⟨F3, Z3, X3, O3, A3⟩
    dsimp only at F3 X3 A3 ⊢
    rw [X3.1 (2 + 7 * t) 10 (by omega), x10, X3.1 319 8 (by omega), p8]
    refine wq_ip (ix 332 s6) (wq_ip (ix _ y6) ?_)
    have l2 : ∀ o, isB (o - 1) = false → mg_l σ3 (B + o) = mg_l σ2 (B + o) := fun o h => F3.2.2 o h (fun h => h)
    have i2 : ∀ o, isB o = false → o ≠ 280 → mg_i σ3 (B + o) = mg_i σ2 (B + o) := fun o h h' => F3.2.1 o h h'
    rw [l2 332 (by decide)]
    obtain ⟨K, hK⟩ : ∃ K, K = mg_l σ2 (B + 332) k := ⟨_, rfl⟩
    rw [← hK] at a1 a3 a5 a7 A3 w2 ⊢
    obtain ⟨σ4, e4⟩ : ∃ σ4, σ4 = ms_l σ3 (B + (6 + 7 * t)) k K := ⟨_, rfl⟩
    rw [← e4]
    have F4 : fra B (IP t) (LPm t) σ3 σ4 := by rw [e4]; exact fra_ml (by unfold LPm; omega)
    have mvP : ∀ {σ σ' : rr_M} {Z : Nat → Option Int}, pcx B σ Z P → fra B (fun o => o = 7 + 7 * t ∨ o = 8 + 7 * t) (fun o => o = 6 + 7 * t) σ σ' → bgs B σ' Z → pcx B σ' Z P := fun {σ σ' Z} h f g => by
      obtain ⟨a, b, hp⟩ := h.2.2.1
      refine pcx_mv hP hd h (fra_pfx f) g ⟨a, b, ?_⟩ (fun _ _ => rfl) rfl (by omega) (fun i hi => by omega) (by rw [f.2.1 319 (by decide) (by omega)]) (by rw [f.2.1 319 (by decide) (by omega)])
      unfold prf at hp ⊢
      rw [f.1]; exact hp
    have X4 : pcx B σ4 Z3 P := mvP X3 (by rw [e4]; exact fra_ml (by omega)) (by rw [e4]; exact bgs_msl X3.2.1 (isB_lo (by omega)))
    have A4 : ptA B σ4 Z3 ((K.toInt : Rat) / (2 : Rat) ^ 12) 39 := by
      obtain ⟨x, s, A1, A2, A3, A4, A5⟩ := A3
      exact ⟨x, s, A1, by rw [e4]; exact A2, A3, A4, A5⟩
    have uh4 : mg_i σ4 (B + 334) k = nI (cX P K.toInt).toNat := by rw [e4, sl_i, i2 334 (by decide) (by omega)]; exact a5
    rw [X4.1 (2 + 7 * t) 11 (by omega), x11, X4.1 319 10 (by omega), p10, uh4]
    refine wq_ip (ix 334 s8) ?_
    have rgK := cX_rg hP hd K.toInt
    have B4 : ∀ i, i < rn P 0 → bk1 B σ4 P i := fun i hi => bk1_of (B2 i hi) (by rw [e4, sl_n (by omega), l2 331 (by decide)]) (by rw [e4, sl_n (by omega), l2 332 (by decide)]) (by rw [e4, sl_i, i2 333 (by decide) (by omega)]) (by rw [e4, sl_i, i2 334 (by decide) (by omega)])
    have G4 : pfx B (IP t) (LPm t) σ0 σ4 := pfx_tr G2 (pfx_tr (pfx_mo F3 (fun o h => by unfold IP; omega) (fun o h => h.elim)) (fra_pfx F4))
    refine wq_j2 (fun v σ' => v = exI P k K.toInt ∧ (∃ Z', pcx B σ' Z' P) ∧ pfx B (fun _ => False) (fun _ => False) σ4 σ') ?_ ?_
    · intro k' hk'
      refine wq_jj (fun σ' => exI P k K.toInt = 0 ∧ (∃ Z', pcx B σ' Z' P) ∧ pfx B (fun _ => False) (fun _ => False) σ4 σ') ?_ (fun σ' h => hk' _ _ ⟨h.1.symm, h.2⟩)
      intro k'' hk''
      rw [nI_1]
      by_cases hc : cX P K.toInt = (k : Int) + 1
      rotate_left
      · refine wq_in (fun hh => hc ?_) (hk'' _ ⟨?_, ⟨Z3, X4⟩, pfx_rf⟩)
        · rw [nI_eq (by omega) (by omega)] at hh
          omega
        · unfold exI
          rw [if_neg (fun h => hc h.1)]
      refine wq_ip (by congr 1; omega) (wq_bd (wq_mo (soac hfu hP hd X4 A4 (hee39 P)) ?_))
      rintro ⟨r, σ5⟩ ⟨e5, F5, Z5, X5, O5, A5⟩
      dsimp only at e5 F5 X5 A5 ⊢
      have he := es_pm hP hd 0
      by_cases hr : r = 0
      · refine wq_ip hr (hk' _ _ ⟨?_, ⟨Z5, X5⟩, F5⟩)
        have hz : zX P K.toInt = 1 := by
          refine (zX_1 P K.toInt).mpr ?_
          rw [hr] at e5
          have e5 : (0 : Int) = es P 0 * sgq (vl (HL P 0) ((K.toInt : Rat) / (2 : Rat) ^ 12)) := e5
          rcases he with q | q <;> rw [q] at e5 <;> omega
        unfold exI
        rw [if_pos ⟨hc, hz⟩]
      · refine wq_in hr (hk'' _ ⟨?_, ⟨Z5, X5⟩, F5⟩)
        unfold exI
        rw [if_neg]
        rintro ⟨_, h2⟩
        rw [zX_1] at h2
        rw [h2, Int.mul_zero] at e5
        exact hr (Int32.toInt_inj.mp e5)
    · rintro v σ5 ⟨hv, ⟨Z5, X5⟩, F5⟩
      have nar : vp_nar .boolean v = v := by
        rw [hv]; unfold exI
        by_cases hq : cX P K.toInt = (k : Int) + 1 ∧ zX P K.toInt = 1
        · rw [if_pos hq]; decide
        · rw [if_neg hq]; decide
      rw [nar]
      refine wq_ip (ix _ y7) ?_
      rw [si_r, X5.1 (2 + 7 * t) 12 (by omega), x12]
      refine wq_ip (ix _ y8) ?_
      obtain ⟨σ6, e6⟩ : ∃ σ6, σ6 = ms_i (ms_i σ5 (B + (7 + 7 * t)) k v) (B + (8 + 7 * t)) k 1 := ⟨_, rfl⟩
      rw [← e6]
      have F6 : fra B (fun o => o = 7 + 7 * t ∨ o = 8 + 7 * t) (fun o => o = 6 + 7 * t) σ5 σ6 := by rw [e6]; exact fra_tr (fra_mi (by omega)) (fra_mi (by omega))
      have X6 : pcx B σ6 Z5 P := mvP X5 F6 (by rw [e6]; exact bgs_ms (bgs_ms X5.2.1 (isB_lo (by omega))) (isB_lo (by omega)))
      have B6 : ∀ i, i < rn P 0 → bk1 B σ6 P i := fun i hi => bk1_of (B4 i hi) (by rw [F6.2.2 331 (by decide) (by omega), F5.2.2 331 (by decide) (fun h => h)]) (by rw [F6.2.2 332 (by decide) (by omega), F5.2.2 332 (by decide) (fun h => h)]) (by rw [F6.2.1 333 (by decide) (by omega), F5.2.1 333 (by decide) (fun h => h)]) (by rw [F6.2.1 334 (by decide) (by omega), F5.2.1 334 (by decide) (fun h => h)])
      have G6 : pfx B (IP t) (LPm t) σ0 σ6 := pfx_tr G4 (pfx_tr (pfx_mo F5 (fun o h => h.elim) (fun o h => h.elim)) (pfx_mo (fra_pfx F6) (fun o h => by unfold IP; omega) (fun o h => by unfold LPm; omega)))
      have mo6 : mg_i σ6 (B + (2 + 7 * t)) 5 = nI (MO P) := by rw [G6.2.1 (2 + 7 * t) (isB_lo (by omega)) (by unfold IP; omega)]; exact hmo
      -- rows of the tray
      have nK6 : ¬ LK (6 + 7 * t) := by unfold LK; omega
      have nI7 : ¬ (7 + 7 * t = 280 ∨ IK (7 + 7 * t)) := by unfold IK; omega
      have nI8 : ¬ (8 + 7 * t = 280 ∨ IK (8 + 7 * t)) := by unfold IK; omega
      have bl : mg_l σ3 (B + (6 + 7 * t)) = mg_l σ (B + (6 + 7 * t)) := by
        rw [l2 _ (isB_lo (by omega)), F2.2.2 _ (isB_lo (by omega)) nK6, F1.2.2 _ (isB_lo (by omega)) nK6]
      have b7 : mg_i σ5 (B + (7 + 7 * t)) = mg_i σ (B + (7 + 7 * t)) := by
        rw [F5.2.1 _ (isB_lo (by omega)) (fun h => h), e4, sl_i, i2 _ (isB_lo (by omega)) (by omega), F2.2.1 _ (isB_lo (by omega)) nI7, F1.2.1 _ (isB_lo (by omega)) nI7]
      have b8 : mg_i σ5 (B + (8 + 7 * t)) = mg_i σ (B + (8 + 7 * t)) := by
        rw [F5.2.1 _ (isB_lo (by omega)) (fun h => h), e4, sl_i, i2 _ (isB_lo (by omega)) (by omega), F2.2.1 _ (isB_lo (by omega)) nI8, F1.2.1 _ (isB_lo (by omega)) nI8]
      have l6 : mg_l σ6 (B + (6 + 7 * t)) = mg_l σ4 (B + (6 + 7 * t)) := by
        rw [e6]
        exact F5.2.2 _ (isB_lo (by omega)) (fun h => h)
      have l6k : mg_l σ6 (B + (6 + 7 * t)) k = K := by rw [l6, e4, sl_s]
      have l6n : ∀ i, i < k → mg_l σ6 (B + (6 + 7 * t)) i = mg_l σ (B + (6 + 7 * t)) i := fun i hi => by rw [l6, e4, sl_n (by omega), bl]
      have i7k : mg_i σ6 (B + (7 + 7 * t)) k = v := by rw [e6, si_n (by omega), si_s]
      have i7n : ∀ i, i < k → mg_i σ6 (B + (7 + 7 * t)) i = mg_i σ (B + (7 + 7 * t)) i := fun i hi => by rw [e6, si_n (by omega), si_n (by omega), b7]
      have i8k : mg_i σ6 (B + (8 + 7 * t)) k = 1 := by rw [e6, si_s]
      have i8n : ∀ i, i < k → mg_i σ6 (B + (8 + 7 * t)) i = mg_i σ (B + (8 + 7 * t)) i := fun i hi => by rw [e6, si_n (by omega), si_n (by omega), b8]
      have cK : cX P (K.toInt - 1) ≤ k := by rw [show K.toInt - 1 = (mg_l σ2 (B + 331) k).toInt by omega]; exact a6
      have done : ∀ σ', mg_l σ' (B + (6 + 7 * t)) = mg_l σ6 (B + (6 + 7 * t)) → mg_i σ' (B + (7 + 7 * t)) = mg_i σ6 (B + (7 + 7 * t)) → (∀ i, i < k → mg_i σ' (B + (8 + 7 * t)) i = mg_i σ6 (B + (8 + 7 * t)) i) → mg_i σ' (B + (8 + 7 * t)) k = nI (mu P k).toNat → ∀ i, i < k + 1 → pl1 B t σ' P i := fun σ' q1 q2 q3 q4 i hi => by
        by_cases hik : i = k
        · subst hik
          unfold pl1
          rw [q1, q2, q4, l6k, i7k]
          exact ⟨by omega, by omega, cK, a7, hv, rfl⟩
        · have hi : i < k := by omega
          exact pl1_of (hL i hi) (by rw [q1]; exact l6n i hi) (by rw [q2]; exact i7n i hi) (by rw [q3 i hi]; exact i8n i hi)
      rw [mo6, nI_1]
      refine wq_jj (fun σ' => pls B t (k + 1) σ0 σ' P) ?_ (fun σ' h => ple_l hfu ht hP hd hmo hk fl (k + 1) σ' (by omega) (by omega) h)
      intro k' hk'
      have mo8 := (NR_le hP).2.1
      by_cases hm1 : MO P ≤ 1
      · refine wq_ip (show nI (MO P) ≤ (1 : Int32) from nI_le (b := 1) (by omega) (by omega)) (hk' _ ⟨G6, ⟨Z5, X6⟩, B6, done σ6 rfl rfl (fun _ _ => rfl) ?_⟩)
        rw [i8k, MO_lo hP hd hm1 hkn]
        rfl
      refine wq_in (show ¬ nI (MO P) ≤ (1 : Int32) from nI_ge (a := 1) (by omega) (by omega)) ?_
      have h7 := MO_hi hP hd (by omega)
      have w6 : (mg_l σ6 (B + 332) k).toInt = (mg_l σ6 (B + 331) k).toInt + 1 := by
        rw [F6.2.2 331 (by decide) (by omega), F5.2.2 331 (by decide) (fun h => h), e4, sl_n (by omega), l2 331 (by decide), F6.2.2 332 (by decide) (by omega), F5.2.2 332 (by decide) (fun h => h), e4, sl_n (by omega), l2 332 (by decide), ← hK]
        exact w2
      refine wq_bd (wq_mo (rfn_ok hfu hP hd hkn h7 ⟨pfx_rf, ⟨Z5, X6⟩, B6⟩ w6) ?_)
      rintro ⟨u7, σ7⟩ ⟨Z7, E, f, X7, E7, f7, F7, C7, c71, c72⟩
      dsimp only at X7 f7 F7 ⊢
      rw [X7.1 (2 + 7 * t) 12 (by omega), x12]
      refine wq_bd (wq_mo (ric_ok hfu hP hd hkn ⟨X7, E7, f7, pfx_rf⟩ C7 c71 c72) ?_)
      rintro ⟨r8, σ8⟩ ⟨e8, Z8, X8, E8, f8, F8⟩
      dsimp only at e8 X8 f8 F8 ⊢
      refine wq_ip (ix _ y8) (hk' _ ?_)
      rw [e8]
      have F9 : fra B (fun o => o = 7 + 7 * t ∨ o = 8 + 7 * t) (fun o => o = 6 + 7 * t) σ8 (ms_i σ8 (B + (8 + 7 * t)) k (nI (mu P k).toNat)) := fra_mi (by omega)
      have m8l : ∀ o, isB (o - 1) = false → o ≠ 330 → mg_l σ8 (B + o) = mg_l σ6 (B + o) := fun o h h' => by rw [F8.2.2 o h h', F7.2.2 o h (fun h => h)]
      have m8i : ∀ o, isB o = false → o ≠ 280 → o ≠ 319 → mg_i σ8 (B + o) = mg_i σ6 (B + o) := fun o h h' h'' => by rw [F8.2.1 o h h', F7.2.1 o h (by omega)]
      refine ⟨pfx_tr G6 (pfx_tr (pfx_mo F7 (fun o h => by unfold IP; omega) (fun o h => h.elim)) (pfx_tr (pfx_mo F8 (fun o h => by unfold IP; omega) (fun o h => by unfold LPm; omega)) (pfx_mo (fra_pfx F9) (fun o h => by unfold IP; omega) (fun o h => by unfold LPm; omega)))), ⟨Z8, mvP X8 F9 (bgs_ms X8.2.1 (isB_lo (by omega)))⟩, fun i hi => bk1_of (B6 i hi) ?_ ?_ ?_ ?_, done _ ?_ ?_ ?_ ?_⟩
      · rw [si_l, m8l 331 (by decide) (by omega)]
      · rw [si_l, m8l 332 (by decide) (by omega)]
      · rw [si_row (by omega), m8i 333 (by decide) (by omega) (by omega)]
      · rw [si_row (by omega), m8i 334 (by decide) (by omega) (by omega)]
      · rw [si_l, m8l _ (isB_lo (by omega)) (by omega)]
      · rw [si_row (by omega), m8i _ (isB_lo (by omega)) (by omega) (by omega)]
      · intro i hi
        rw [si_n (by omega), m8i _ (isB_lo (by omega)) (by omega) (by omega)]
      · rw [si_s]
/-- a tray's roots are placed -/
def plcd (B t : Nat) (σ : rr_M) (P : Pl) : Prop := ∀ j, j < UN P → pl1 B t σ P j
theorem plc_ok {fu B t : Nat} {σ : rr_M} {Z : Nat → Option Int} {P : Pl} (hfu : 400 < fu) (ht : t < 8) (hP : pok P) (hc : crf B σ) (hZ : bgs B σ Z) (hp : ∃ a b, prf B σ a b) (h339 : Z 339 = some 1) (hn : ∀ j, j < 9 → (mg_l σ (B + (3 + 7 * t)) j).toInt = P j) (hv : prvd B t σ P) (h9 : mg_i σ (B + (2 + 7 * t)) 9 = 0 ∨ (mg_i σ (B + (2 + 7 * t)) 9 = 1 ∧ plcd B t σ P)) :
    wq (f_Pla_place fu (nx B) (B + 319) (B + (2 + 7 * t)) σ) (fun r => ∃ Z', bgs B r.2 Z' ∧ Z' 339 = some 1 ∧ (∃ a b, prf B r.2 a b) ∧ pfx B (IT t) (LT t) σ r.2 ∧ prvd B t r.2 P ∧ mg_i r.2 (B + (2 + 7 * t)) 9 = 1 ∧ plcd B t r.2 P) := by
  obtain ⟨p0, p1, p2, p3, p4, p7, p8, p9, p10, p11, p12, p13⟩ := rx_pla
  obtain ⟨x0, x7, x8, x10, x11, x12⟩ := rx_tr t ht
  unfold f_Pla_place
  by_cases h0 : mg_i σ (B + (2 + 7 * t)) 9 = 0
  rotate_left
  · obtain ⟨g1, g2⟩ : mg_i σ (B + (2 + 7 * t)) 9 = 1 ∧ plcd B t σ P := by
      rcases h9 with q | q
      · exact absurd q h0
      · exact q
    exact wq_in h0 (wq_some ⟨Z, hZ, h339, hp, pfx_rf, hv, g1, g2⟩)
  refine wq_ip h0 (wq_ip (by decide) ?_)
  dsimp only [rr_lt]
  obtain ⟨v1, v2, v3, v4, v5, v6, v7⟩ := hv
  have un9 := (NR_le hP).2.2
  rw [si_n (show B + (2 + 7 * t) ≠ B + (2 + 7 * t) ∨ (4 : Nat) ≠ 9 from Or.inr (by omega)), v4, show (8 : Int32) = nI 8 from rfl, mn_nI (by omega) (by omega)]
  have hun8 : UN P ≤ 8 := by
    unfold UN
    by_cases hD : 0 < DP P
    · rw [if_pos hD]
      have := rl_0 hP (DP_d hD).1
      omega
    · rw [if_neg hD]; omega
  rw [show min (UN P) 8 = UN P by omega]
  obtain ⟨σ3, e3⟩ : ∃ σ3, σ3 = ms_i (ms_i σ (B + (2 + 7 * t)) 9 1) (B + 319) 5 (nI (UN P)) := ⟨_, rfl⟩
  rw [← e3]
  have F3 : fra B (IT t) (LT t) σ σ3 := by rw [e3]; exact fra_tr (fra_mi (by unfold IT; omega)) (fra_mi (by unfold IT; omega))
  have Z3 : bgs B σ3 Z := by rw [e3]; exact bgs_ms (bgs_ms hZ (isB_lo (by omega))) (by decide)
  have hc3 := crf_fra hc F3
  have s5 : mg_i σ3 (B + 319) 5 = nI (UN P) := by rw [e3, si_s]
  have sT : ∀ k, k ≠ 9 → mg_i σ3 (B + (2 + 7 * t)) k = mg_i σ (B + (2 + 7 * t)) k := fun k hk => by rw [e3, si_n (by omega), si_n (by omega)]
  have sT9 : mg_i σ3 (B + (2 + 7 * t)) 9 = 1 := by rw [e3, si_n (by omega), si_s]
  have sR : ∀ o, o ≠ 2 + 7 * t → o ≠ 319 → mg_i σ3 (B + o) = mg_i σ (B + o) := fun o h h' => by rw [e3, si_row (by omega), si_row (by omega)]
  have hp3 : ∃ a b, prf B σ3 a b := by
    obtain ⟨a, b, hh⟩ := hp
    exact ⟨a, b, by rw [e3]; exact hh⟩
  have V3 : prvd B t σ3 P := ⟨by rw [sT 1 (by omega)]; exact v1, by rw [sT 2 (by omega)]; exact v2, by rw [sT 3 (by omega)]; exact v3, by rw [sT 4 (by omega)]; exact v4, by rw [sT 5 (by omega)]; exact v5, by rw [sT 6 (by omega)]; exact v6, fun j hj => by rw [sR _ (by omega) (by omega), sR _ (by omega) (by omega)]; exact v7 j hj⟩
  rw [s5]
  by_cases hU : UN P = 0
  · refine wq_in (show ¬ (1 : Int32) ≤ nI (UN P) from nI_ge (b := 1) (by omega) (by omega)) (wq_some ⟨Z, Z3, h339, hp3, fra_pfx F3, V3, sT9, fun j hj => absurd hj (by omega)⟩)
  have hD : 0 < DP P := by
    apply Nat.pos_of_ne_zero
    intro hh
    apply hU
    unfold UN
    rw [if_neg (by omega)]
  obtain ⟨hd, hdp⟩ := DP_d hD
  have eU : UN P = rn P 0 := if_pos hD
  have eD : DP P = dep P := if_pos hd
  have h8 := DP_8 hP
  refine wq_ip (show (1 : Int32) ≤ nI (UN P) from nI_le (a := 1) (by omega) (by omega)) ?_
  rw [hc3 319 0 (by omega), p0, hc3 (2 + 7 * t) 0 (by omega), x0]
  refine wq_bd (wq_mo (bld_ok hfu ht hP hc3 Z3 (fun j hj => by rw [e3]; exact hn j hj)) ?_)
  rintro ⟨u4, σ4⟩ ⟨Z4, L4, O4, F4, W2, W3, W4, W5, W6⟩
  dsimp only at L4 F4 W2 W3 W4 W5 W6 ⊢
  have hc4 := crf_fra hc3 F4
  have hp4 : ∃ a b, prf B σ4 a b := by
    obtain ⟨a, b, hh⟩ := hp3
    refine ⟨a, b, ?_⟩
    unfold prf at hh ⊢
    rw [F4.1]; exact hh
  rw [eD] at W2 W3 W4 W6
  refine wq_bd (wq_mo (mks_ok hfu hP hd hc4 L4 hp4 (by rw [O4 339 (by omega)]; exact h339) ⟨W2, W3, W4⟩ (by rw [F4.2.1 319 (by decide) (by unfold IB; omega), s5, eU])) ?_)
  rintro ⟨u5, σ5⟩ ⟨Z5, X5, F5⟩
  dsimp only at X5 F5 ⊢
  refine wq_bd (wq_mo (sbr_ok hfu hP hd X5) ?_)
  rintro ⟨u6, σ6⟩ ⟨F6, ⟨Z6, X6⟩, B6⟩
  dsimp only at X6 F6 B6 ⊢
  have nT : ∀ k, k ≠ 6 → mg_i σ6 (B + (2 + 7 * t)) k = mg_i σ3 (B + (2 + 7 * t)) k := fun k hk => by
    rw [F6.2.1 _ (isB_lo (by omega)) (by unfold IK; omega), F5.2.1 _ (isB_lo (by omega)) (by omega)]
    exact W6 k (Or.inr hk)
  refine ple_l (σ0 := σ6) hfu ht hP hd (by rw [nT 5 (by omega)]; exact V3.2.2.2.2.1) (fun σ7 h7 => ?_) fu 0 σ6 (Nat.zero_le _) (by omega) ⟨pfx_rf, ⟨Z6, X6⟩, B6, fun i hi => absurd hi (by omega)⟩
  obtain ⟨F7, ⟨Z7, X7⟩, B7, L7⟩ := h7
  have n7 : ∀ o, o < 62 → o ≠ 7 + 7 * t → o ≠ 8 + 7 * t → mg_i σ7 (B + o) = mg_i σ6 (B + o) := fun o h h' h'' => F7.2.1 o (isB_lo (by omega)) (by unfold IP; omega)
  have n6 : ∀ o, o < 62 → mg_i σ6 (B + o) = mg_i σ4 (B + o) := fun o h => by
    rw [F6.2.1 _ (isB_lo (by omega)) (by unfold IK; omega), F5.2.1 _ (isB_lo (by omega)) (by omega)]
  obtain ⟨k1, k2⟩ := W5 hD
  have eM : MB P = ML P 0 := if_pos hd
  refine ⟨Z7, X7.2.1, X7.2.2.2.1, X7.2.2.1, ?_, ⟨?_, ?_, ?_, ?_, ?_, ?_, ?_⟩, ?_, fun j hj => L7 j (by rw [← eU]; exact hj)⟩
  · refine pfx_tr (fra_pfx F3) (pfx_tr (pfx_mo (fra_pfx F4) ?_ ?_) (pfx_tr (pfx_mo (fra_pfx F5) ?_ ?_) (pfx_tr (pfx_mo F6 ?_ ?_) (pfx_mo F7 ?_ ?_))))
    · intro o h; unfold IB at h; unfold IT; omega
    · intro o h; unfold LB at h; unfold LT; omega
    · intro o h; unfold IT; omega
    · intro o h; unfold LSm at h; unfold LT; omega
    · intro o h; unfold IK at h; unfold IT; omega
    · intro o h; unfold LK at h; unfold LT; omega
    · intro o h; unfold IP at h; unfold IT; omega
    · intro o h; unfold LPm at h; unfold LT; omega
  · rw [n7 _ (by omega) (by omega) (by omega), nT 1 (by omega)]; exact V3.1
  · rw [n7 _ (by omega) (by omega) (by omega), nT 2 (by omega)]; exact V3.2.1
  · rw [n7 _ (by omega) (by omega) (by omega), nT 3 (by omega)]; exact V3.2.2.1
  · rw [n7 _ (by omega) (by omega) (by omega), nT 4 (by omega)]; exact V3.2.2.2.1
  · rw [n7 _ (by omega) (by omega) (by omega), nT 5 (by omega)]; exact V3.2.2.2.2.1
  · rw [n7 _ (by omega) (by omega) (by omega), n6 _ (by omega), eM]; exact k1
  · intro j hj
    rw [n7 _ (by omega) (by omega) (by omega), n7 _ (by omega) (by omega) (by omega), n6 _ (by omega), n6 _ (by omega)]
    exact k2 j (by rw [← eM]; exact hj)
  · dsimp only
    rw [n7 _ (by omega) (by omega) (by omega), nT 9 (by omega)]; exact sT9
