/-! ===== the class builds and proves ===== -/
noncomputable def DP (P : Pl) : Nat := if 0 < dgg P then dep P else 0
def smn : Nat → (Nat → Nat) → Nat
  | 0, _ => 0
  | n + 1, f => smn n f + f n
theorem smn_le {f : Nat → Nat} {c : Nat} : ∀ n, (∀ k, k < n → f k ≤ c) → smn n f ≤ n * c
  | 0, _ => Nat.zero_le _
  | n + 1, h => by
    have a := smn_le n (fun k hk => h k (by omega))
    have b := h n (by omega)
    show smn n f + f n ≤ (n + 1) * c
    rw [Nat.add_mul]
    omega
theorem DP_8 {P : Pl} (hP : pok P) : DP P ≤ 8 := by
  unfold DP
  by_cases hd : 0 < dgg P
  · rw [if_pos hd]
    have := (dep_ok hP (dg_dln hd)).2.2.1
    have := dgg_lt P
    omega
  · rw [if_neg hd]; omega
theorem DP_d {P : Pl} {l : Nat} (h : l < DP P) : 0 < dgg P ∧ l < dep P := by
  unfold DP at h
  by_cases hd : 0 < dgg P
  · rw [if_pos hd] at h; exact ⟨hd, h⟩
  · rw [if_neg hd] at h; omega
theorem rn_le {P : Pl} {l : Nat} (hP : pok P) (h : l < DP P) : rn P l ≤ 9 := by
  obtain ⟨hd, h⟩ := DP_d h
  obtain ⟨v1, v2, ⟨s, v3⟩, v4, v5, v6, v7⟩ := HL_ok hP hd h
  have a := ends_le v3.1 v3.2.1 v3.2.2.2.2.1 v4
  have b := dgg_lt (der (HL P l))
  have c := chL_le (HL P l) (der (HL P l)) (MH P l - 1)
  show ((hL P l : Int) - hR P l).toNat ≤ 9
  unfold hL
  omega
theorem CM_0 (P : Pl) : CM P 0 = P := if_pos rfl
theorem bld_ok {fu B t : Nat} {σ : rr_M} {Z : Nat → Option Int} {P : Pl} (hfu : 400 < fu) (ht : t < 8) (hP : pok P) (hc : crf B σ) (hZ : bgs B σ Z) (hp : ∀ j, j < 9 → (mg_l σ (B + (3 + 7 * t)) j).toInt = P j) :
    wq (f_Lev_build fu (nx B) (B + 306) (B + (3 + 7 * t)) (B + (2 + 7 * t)) σ) (fun r => ∃ Z', bgs B r.2 Z' ∧ (∀ s, 280 ≤ s → Z' s = Z s) ∧ lvd B t (DP P) σ r.2 P) := by
  obtain ⟨r0, r1, r3, r4, r7, n8, n7, n17, n18⟩ := rx_lvl
  have m0 : mg_r σ (B + 306) 0 = B + 307 := by rw [hc 306 0 (by omega), r0]
  have m1 : mg_r σ (B + 307) 0 = B + 308 := by rw [hc 307 0 (by omega), r7 0 (by omega)]
  have z0 : rr_n 0 = 0 := rfl
  have z9 : rr_n 9 = 9 := rfl
  unfold f_Lev_build
  dsimp only [rr_lt]
  rw [m0, z0, m1, z9, nx_at, nx_at, nx_at, n7, (nx_tr t ht).1, show NX 308 = 9 from n8 0 (by omega), mc_mw]
  refine wq_ip (by decide) (wq_ip (by decide) ?_)
  obtain ⟨σ4, h4⟩ : ∃ σ4, σ4 = ms_i (mw_l σ (B + 308) (va_cpy (mg_l σ (B + (3 + 7 * t))) (mg_l σ (B + 308)) 0 0 9)) (B + 306) 2 0 := ⟨_, rfl⟩
  rw [← h4]
  have F4 : fra B (IB t) LB σ σ4 := by rw [h4]; exact fra_tr (fra_mw (by unfold LB; omega)) (fra_mi (by unfold IB; omega))
  have Z4 : bgs B σ4 Z := by rw [h4]; exact bgs_ms (bgs_mw hZ (by decide)) (by decide)
  have l4 : ∀ j, j < 9 → (mg_l σ4 (B + 308) j).toInt = P j := fun j hj => by
    rw [h4, si_l, mw_gsk, ← hp j hj]
    simp [va_cpy, hj]
  have hV : lvd B t 0 σ σ4 P := ⟨F4, by rw [h4, si_s]; rfl, fun i hi j hj => by
    have : i = 0 := by omega
    subst this
    rw [CM_0]; exact l4 j hj, fun i hi => absurd hi (by omega), fun h => absurd h (by omega), fun k _ => by rw [h4, si_row (by omega)]; rfl⟩
  by_cases hd : 0 < dgg P
  · have e : DP P = dep P := if_pos hd
    rw [e]
    exact blo (Z0 := Z) hfu ht hP hd hc (fun σ' Z' a b c => wq_some ⟨Z', a, b, c⟩) fu 0 σ4 Z (Nat.zero_le _) (by omega) Z4 (fun _ _ => rfl) hV
  · have e : DP P = 0 := if_neg hd
    rw [e]
    have hc4 := crf_fra hc F4
    have m04 : mg_r σ4 (B + 306) 0 = B + 307 := by rw [hc4 306 0 (by omega), r0]
    have m14 : mg_r σ4 (B + 307) 0 = B + 308 := by rw [hc4 307 0 (by omega), r7 0 (by omega)]
    have key : ∀ fl, 0 < fl → wq (l_Lev_build_19 fu (nx B) (B + 306) (B + (2 + 7 * t)) fl σ4 (fun σ_37 => some ((), σ_37))) (fun r => ∃ Z', bgs B r.2 Z' ∧ (∀ s, 280 ≤ s → Z' s = Z s) ∧ lvd B t 0 σ r.2 P) := by
      intro fl hfl
      obtain ⟨f', rfl⟩ : ∃ f', fl = f' + 1 := ⟨fl - 1, by omega⟩
      rw [l_Lev_build_19]
      dsimp only [rr_lt]
      have n0' : rr_n (nI 0) = 0 := rfl
      rw [hV.2.1, m04, n0', m14, num_deg (fu := fu) (o := 308) (B := B) (σ := σ4) (f := P) hfu (by rw [nx_at]; exact n8 0 (by omega)) l4]
      refine wq_in (show ¬ (8 : Int32) ≤ nI 0 by decide) (wq_ip (by rw [nx_at, n7]; decide) (wq_ob (wq_some (wq_ip ((dg_le0 (lnn_le 9 _)).mpr ?_) (wq_some ⟨Z, Z4, fun _ _ => rfl, hV⟩)))))
      unfold dgg at hd
      show dln P ≤ 1
      omega
    exact key fu (by omega)
noncomputable def NR (P : Pl) : Nat := smn (DP P) (rn P)
noncomputable def MO (P : Pl) : Nat := smn (DP P) (fun i => if 0 < rn P i then 1 else 0)
noncomputable def UN (P : Pl) : Nat := if 0 < DP P then rn P 0 else 0
noncomputable def MB (P : Pl) : Nat := if 0 < dgg P then ML P 0 else 0
noncomputable def WI (P : Pl) : Int32 := if 0 < dln P ∧ NR P = dgg P then 1 else 0
theorem NR_le {P : Pl} (hP : pok P) : NR P ≤ 72 ∧ MO P ≤ 8 ∧ UN P ≤ 9 := by
  have h8 := DP_8 hP
  have a := smn_le (f := rn P) (c := 9) (DP P) (fun k hk => rn_le hP hk)
  have b := smn_le (f := fun i => if 0 < rn P i then 1 else 0) (c := 1) (DP P) (fun k hk => by
    show (if 0 < rn P k then 1 else 0) ≤ 1
    by_cases h : 0 < rn P k
    · rw [if_pos h]; omega
    · rw [if_neg h]; omega)
  refine ⟨?_, ?_, ?_⟩
  · show smn (DP P) (rn P) ≤ 72
    omega
  · show smn (DP P) _ ≤ 8
    omega
  · unfold UN
    by_cases h : 0 < DP P
    · rw [if_pos h]; exact rn_le hP h
    · rw [if_neg h]; omega
/-- what the class has found out of a tray -/
def prvd (B t : Nat) (σ : rr_M) (P : Pl) : Prop := mg_i σ (B + (2 + 7 * t)) 1 = 1 ∧ mg_i σ (B + (2 + 7 * t)) 2 = WI P ∧ mg_i σ (B + (2 + 7 * t)) 3 = nI (NR P) ∧ mg_i σ (B + (2 + 7 * t)) 4 = nI (UN P) ∧ mg_i σ (B + (2 + 7 * t)) 5 = nI (MO P) ∧ mg_i σ (B + (2 + 7 * t)) 6 = nI (MB P) ∧ (∀ j, j < MB P → mg_i σ (B + (4 + 7 * t)) j = nI (dgg (mm P (der P) j)) ∧ mg_i σ (B + (5 + 7 * t)) j = sgI (cc P (der P) j (dgg (mm P (der P) j))))
def sumd (B t k : Nat) (σ0 σ : rr_M) (Z : Nat → Option Int) (P : Pl) : Prop := fra B (fun o => o = 2 + 7 * t) (fun _ => False) σ0 σ ∧ bgs B σ Z ∧ mg_i σ (B + (2 + 7 * t)) 3 = nI (smn k (rn P)) ∧ mg_i σ (B + (2 + 7 * t)) 5 = nI (smn k (fun i => if 0 < rn P i then 1 else 0)) ∧ (∀ j, j ≠ 3 → j ≠ 5 → mg_i σ (B + (2 + 7 * t)) j = mg_i σ0 (B + (2 + 7 * t)) j)
theorem prl {fu B t : Nat} {σ0 : rr_M} {Z : Nat → Option Int} {P : Pl} (ht : t < 8) (hP : pok P) (hc0 : crf B σ0) (hdp : mg_i σ0 (B + 306) 2 = nI (DP P)) (hre : ∀ i, i < DP P → mg_i σ0 (B + 317) i = nI (rn P i)) {kk : rr_M → Option (Unit × rr_M)} {Q : Unit × rr_M → Prop} (hk : ∀ σ, sumd B t (DP P) σ0 σ Z P → wq (kk σ) Q) :
    ∀ (fl k : Nat) (σ : rr_M), k ≤ DP P → 10 - k ≤ fl → sumd B t k σ0 σ Z P → wq (l_Lev_prove_39 fu (nx B) (B + 306) (B + (2 + 7 * t)) fl (nI k) σ kk) Q
  | 0, k, σ, h1, h2, _ => by
    have := DP_8 hP
    omega
  | fl + 1, k, σ, h1, h2, hS => by
    obtain ⟨F, L, S3, S5, Sn⟩ := hS
    have h8 := DP_8 hP
    have hc := crf_fra hc0 F
    obtain ⟨r0, r1, r3, r4, r7, n8, n7, n17, n18⟩ := rx_lvl
    have i306 : mg_i σ (B + 306) = mg_i σ0 (B + 306) := F.2.1 306 (by decide) (by omega)
    have i317 : mg_i σ (B + 317) = mg_i σ0 (B + 317) := F.2.1 317 (by decide) (by omega)
    rw [l_Lev_prove_39]
    dsimp only [rr_lt]
    rw [i306, hdp]
    by_cases hke : k = DP P
    · subst hke
      exact wq_ip (nI_le (Nat.le_refl _) (by omega)) (hk σ ⟨F, L, S3, S5, Sn⟩)
    have m1 : mg_r σ (B + 306) 1 = B + 317 := by rw [hc 306 1 (by omega), r1]
    have ml : rr_n (nI k) = k := n_nI (by omega)
    have ix : rr_ix (nI k) (nx B (B + 317)) = true := by rw [nx_at, n17]; exact ix_nI (by omega) (by omega)
    refine wq_in (nI_ge (by omega) (by omega)) ?_
    rw [m1, ml, i317, hre k (by omega), S3, nI_add, show smn k (rn P) + rn P k = smn (k + 1) (rn P) from rfl]
    refine wq_ip ix ?_
    obtain ⟨σ1, e1⟩ : ∃ σ1, σ1 = ms_i σ (B + (2 + 7 * t)) 3 (nI (smn (k + 1) (rn P))) := ⟨_, rfl⟩
    rw [← e1]
    have r1' : mg_r σ1 (B + 306) 1 = B + 317 := by rw [e1]; exact m1
    have j317 : mg_i σ1 (B + 317) k = nI (rn P k) := by rw [e1, si_row (by omega), i317]; exact hre k (by omega)
    have j5 : mg_i σ1 (B + (2 + 7 * t)) 5 = nI (smn k (fun i => if 0 < rn P i then 1 else 0)) := by rw [e1, si_n (by omega)]; exact S5
    rw [r1', j317]
    refine wq_ip ix (wq_jj (fun v => v = nI (if 0 < rn P k then 1 else 0)) ?_ ?_)
    · intro k' hk'
      have r9 := rn_le hP (show k < DP P by omega)
      by_cases h0 : 0 < rn P k
      · rw [if_neg (nI_nle h0 (by omega))]
        exact hk' _ (by rw [if_pos h0]; rfl)
      · rw [show rn P k = 0 by omega, if_pos (by decide)]
        exact hk' _ (by rw [if_neg h0]; rfl)
    · intro v hv
      rw [hv, j5, nI_add, nI_1]
      refine prl ht hP hc0 hdp hre hk fl (k + 1) _ (by omega) (by omega) ⟨fra_tr F (fra_tr (by rw [e1]; exact fra_mi rfl) (fra_mi rfl)), ?_, ?_, ?_, ?_⟩
      · rw [e1]; exact bgs_ms (bgs_ms L (isB_lo (by omega))) (isB_lo (by omega))
      · rw [si_n (by omega), e1, si_s]
      · rw [si_s]; rfl
      · intro j a b
        rw [si_n (by omega), e1, si_n (by omega)]
        exact Sn j a b
