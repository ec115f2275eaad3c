/-! ===== the class's sequence: a member out of the rest ===== -/
theorem csh_gh {fu B δ eg eh : Nat} {σ0 : rr_M} {Z0 : Nat → Option Int} {g h : Int} (hfu : 400 < fu) (hc0 : crf B σ0) (hδ : δ < 9) (h80 : Z0 80 = some h) (sg : szb eg g) (sh : szb eh h) (hee : eg + δ * eh ≤ 2400) {kk : rr_M → Option (Unit × rr_M)} {Q : Unit × rr_M → Prop}
    (hk : ∀ (σ : rr_M) (Z : Nat → Option Int), bgs B σ Z → sbf B σ0 σ → (∀ s, s ≠ 68 → s ≠ 74 → Z s = Z0 s) → Z 74 = some (g * h ^ δ) → wq (kk σ) Q) :
    ∀ (f i : Nat) (σ : rr_M) (Z : Nat → Option Int), i ≤ δ → δ + 1 - i ≤ f → bgs B σ Z → sbf B σ0 σ → (∀ s, s ≠ 68 → s ≠ 74 → Z s = Z0 s) → Z 74 = some (g * h ^ i) →
      wq (l_Seq_shortenRest_32 fu (nx B) (B + 63) (nI δ) f (nI i) σ kk) Q
  | 0, i, σ, Z, h1, h2, _, _, _, _ => by omega
  | f + 1, i, σ, Z, h1, h2, hZ, hF, hO, h74 => by
    have hc := crf_sbf hc0 hF
    rw [l_Seq_shortenRest_32]
    by_cases hit : i = δ
    · subst hit
      exact wq_ip (nI_le (Nat.le_refl _) (by omega)) (hk σ Z hZ hF hO h74)
    · have c0 : ¬ nI δ ≤ nI i := nI_ge (by omega) (by omega)
      have hb : eg + i * eh + eh ≤ 2400 := by
        have : (i + 1) * eh ≤ δ * eh := Nat.mul_le_mul_right _ (by omega)
        rw [Nat.succ_mul] at this
        omega
      have s1 : szb (eg + i * eh) (g * h ^ i) := by rw [Nat.mul_comm i eh]; exact szb_mul sg (szb_pow sh i)
      have Z80 : Z 80 = some h := by rw [hO 80 (by omega) (by omega)]; exact h80
      dsimp only [rr_lt]
      rw [if_neg c0, sq_5 hc, sq_8 hc, sq_11 hc]
      refine wq_bd (wq_mo (bo_mulb (x := 68) (y := 74) (w := 80) (e1 := eg + i * eh) (e2 := eh) hfu hZ (by decide) (by decide) (by decide) (by omega) (by omega) h74 Z80 s1 sh (by decide) (by omega)) ?_)
      rintro r1 ⟨L1, F1⟩
      have hc1 := crf_sbf hc F1
      rw [sq_8 hc1, sq_5 hc1]
      refine wq_bd (wq_mo (bo_copyb (x := 74) (y := 68) (e := eg + i * eh + eh) L1 (by decide) (by decide) (zup_s _ _ _) (szb_mul s1 sh) (by rw [show roomB 74 = 96 by decide]; omega)) ?_)
      rintro r2 ⟨L2, F2⟩
      rw [nI_1]
      refine csh_gh hfu hc0 hδ h80 sg sh hee hk f (i + 1) r2.2 _ (by omega) (by omega) L2 (sbf_tr hF (sbf_tr F1 F2)) ?_ ?_
      · intro s s1 s2
        rw [zup_n s2, zup_n s1]
        exact hO s s1 s2
      · rw [zup_s, Int.pow_succ, Int.mul_assoc]
theorem csh_q {fu B k d zs eR : Nat} {σ0 : rr_M} {Z0 : Nat → Option Int} {c : Pl} {w : Int} (hfu : 400 < fu) (hc0 : crf B σ0) (hk10 : k < 10) (hd : d < 9) (hzs : zs < 100000) (h74 : Z0 74 = some (2 * w + 1)) (hR : ∀ j, j ≤ d → Z0 (rs j) = some (2 ^ zs * (c j * (2 * w + 1)))) (hc9 : ∀ j, d < j → c j = 0) (sR : ∀ j, szb eR (c j * (2 * w + 1))) (heR : eR ≤ 2400) (sc : ∀ j, szb 600 (c j)) {kk : rr_M → Option (Unit × rr_M)} {Q : Unit × rr_M → Prop}
    (hk : ∀ (σ : rr_M) (Z : Nat → Option Int), bgs B σ Z → sbf B σ0 σ → (∀ s, (∀ j, j < 9 → s ≠ rs j) → (∀ j, j < 9 → s ≠ nb k j) → Z s = Z0 s) → (∀ j, j < 9 → Z (nb k j) = some (c j)) → wq (kk σ) Q) :
    ∀ (f i : Nat) (σ : rr_M) (Z : Nat → Option Int), i ≤ 9 → 10 - i ≤ f → bgs B σ Z → sbf B σ0 σ → (∀ s, (∀ j, j < i → s ≠ rs j) → (∀ j, j < 9 → s ≠ nb k j) → Z s = Z0 s) → (∀ j, j < i → Z (nb k j) = some (c j)) →
      wq (l_Seq_shortenRest_98 fu (nx B) (B + 63) (nI k) (nI d) (nI zs) f (nI i) σ kk) Q
  | 0, i, σ, Z, h1, h2, _, _, _, _ => by omega
  | f + 1, i, σ, Z, h1, h2, hZ, hF, hO, hN => by
    have hc := crf_sbf hc0 hF
    rw [l_Seq_shortenRest_98]
    by_cases hit : i = 9
    · subst hit
      exact wq_ip (by decide) (hk σ Z hZ hF hO hN)
    · have c0 : ¬ (9 : Int32) ≤ nI i := nI_ge (b := 9) (by omega) (by omega)
      have mi : rr_n (nI i) = i := n_nI (by omega)
      have ix : rr_ix (nI i) (nx B (B + 67)) = true := by rw [nx_67]; exact ix_nI (by omega) (by omega)
      have mk : rr_n (nI (9 * k + i)) = 9 * k + i := n_nI (by omega)
      have ixk : rr_ix (nI (9 * k + i)) (nx B (B + 64)) = true := by rw [nx_64]; exact ix_nI (by omega) (by omega)
      dsimp only [rr_lt, rr_jn]
      rw [if_neg c0, sq_0 hc, nI_mul9, nI_add, mk, sq_nb hc hk10 (show i < 9 by omega)]
      refine wq_ip ixk ?_
      have fin : ∀ (r : Unit × rr_M) (Z2 : Nat → Option Int), bgs B r.2 Z2 → sbf B σ r.2 → (∀ s, s ≠ rs i → s ≠ nb k i → Z2 s = Z s) → Z2 (nb k i) = some (c i) → wq (l_Seq_shortenRest_98 fu (nx B) (B + 63) (nI k) (nI d) (nI zs) f (nI i + 1) r.2 kk) Q := by
        intro r Z2 L F O V
        rw [nI_1]
        refine csh_q hfu hc0 hk10 hd hzs h74 hR hc9 sR heR sc hk f (i + 1) r.2 Z2 (by omega) (by omega) L (sbf_tr hF F) ?_ ?_
        · intro s hs hs2
          rw [O s (hs i (by omega)) (hs2 i (by omega))]
          exact hO s (fun j hj => hs j (by omega)) hs2
        · intro j hj
          by_cases hji : j = i
          · subst hji; exact V
          · rw [O _ (by unfold nb rs; omega) (by unfold nb; omega)]; exact hN j (by omega)
      by_cases hid : i ≤ d
      · have Zi : Z (rs i) = some (2 ^ zs * (c i * (2 * w + 1))) := by rw [hO _ (fun j hj => by unfold rs; omega) (fun j hj => by unfold rs nb; omega)]; exact hR i hid
        have Z74 : Z 74 = some (2 * w + 1) := by rw [hO 74 (fun j hj => by unfold rs; omega) (fun j hj => by unfold nb; omega)]; exact h74
        rw [if_pos (nI_le hid (by omega)), sq_4 hc, mi, sq_rs hc (show i < 9 by omega)]
        refine wq_ip ix (wq_bd (wq_mo (bo_shd hfu hZ (isB_rs (by omega)) Zi hzs) ?_))
        rintro r1 ⟨L1, F1⟩
        have hc1 := crf_sbf hc F1
        rw [sq_4 hc1, sq_rs hc1 (show i < 9 by omega), sq_8 hc1]
        refine wq_ip ix (wq_bd (wq_mo (bo_quo (x := nb k i) (r := rs i) (o := 74) (q := c i) (zo := 2 * w + 1) (wo := w) (mr := eR / 30 + 1) (mq := 21) hfu L1 (isB_nb hk10 (by omega)) (isB_rs (by omega)) (by decide) (by unfold nb rs; omega) (by unfold nb; omega) (by unfold rs; omega) (zup_s _ _ _) (by rw [zup_n (by unfold rs; omega)]; exact Z74) rfl (szl_of (sR i) (by omega)) (by omega) (by rw [room_rs (by omega)]; omega) (szl_of (sc i) (by omega)) (by rw [room_nb hk10 (by omega)]; omega)) ?_))
        rintro r2 ⟨L2, F2⟩
        refine fin r2 _ L2 (sbf_tr F1 F2) ?_ (zup_s _ _ _)
        intro s s1 s2
        rw [zup_n s2, zrm_n s1, zup_n s1]
      · rw [if_neg (nI_ge (by omega) (by omega))]
        refine wq_bd (wq_mo (bo_set (v := 0) hfu hZ (isB_nb hk10 (by omega))) ?_)
        rintro r1 ⟨L1, F1⟩
        refine fin r1 _ L1 F1 (fun s _ s2 => zup_n s2) ?_
        rw [zup_s, hc9 i (by omega)]
        rfl
/-- rows of the sequence, and large numbers, may have changed -/
def frs (B : Nat) (σ σ' : rr_M) : Prop := mg_r σ' = mg_r σ ∧ (∀ o, isB o = false → o ≠ 63 → o ≠ 65 → o ≠ 66 → mg_i σ' (B + o) = mg_i σ (B + o)) ∧ (∀ o, isB (o - 1) = false → mg_l σ' (B + o) = mg_l σ (B + o))
theorem sbf_frs {B : Nat} {σ σ' : rr_M} (h : sbf B σ σ') : frs B σ σ' := ⟨h.1, fun o h1 _ _ _ => h.2.1 o h1, h.2.2⟩
theorem frs_tr {B : Nat} {σ σ' σ'' : rr_M} (h1 : frs B σ σ') (h2 : frs B σ' σ'') : frs B σ σ'' := ⟨h2.1.trans h1.1, fun o a b c d => (h2.2.1 o a b c d).trans (h1.2.1 o a b c d), fun o a => (h2.2.2 o a).trans (h1.2.2 o a)⟩
theorem frs_ms {B o k : Nat} {σ : rr_M} {v : Int32} (ho : o = 63 ∨ o = 65 ∨ o = 66) : frs B σ (ms_i σ (B + o) k v) := ⟨rfl, fun x _ a b c => si_row (by omega), fun _ _ => rfl⟩
theorem bgs_ms {B o k : Nat} {σ : rr_M} {Z : Nat → Option Int} {v : Int32} (h : bgs B σ Z) (ho : isB o = false) : bgs B (ms_i σ (B + o) k v) Z := fun x hx => ⟨(h x hx).1, fun z hz => bg_keep ((h x hx).2 z hz) rfl (si_row (fun hc => by
  have : x = o := by omega
  rw [this, ho] at hx
  cases hx)) rfl⟩
theorem csh_ok {fu B k dA dB d eg eh eR : Nat} {σ : rr_M} {Z : Nat → Option Int} {g h : Int} {c : Pl} (hfu : 400 < fu) (hc : crf B σ) (hk2 : 2 ≤ k) (hk10 : k < 10) (hd : d < 9) (hdA : dA < 9) (hdB : dB ≤ dA) (hZ : bgs B σ Z) (da : mg_i σ (B + 65) (k - 2) = nI dA) (db : mg_i σ (B + 65) (k - 1) = nI dB) (h78 : Z 78 = some g) (h80 : Z 80 = some h) (hg0 : g ≠ 0) (hh0 : h ≠ 0) (sg : szb eg g) (sh : szb eh h) (hee : eg + (dA - dB) * eh ≤ 2400) (hR : ∀ j, j ≤ d → Z (rs j) = some (-(g * h ^ (dA - dB)) * c j)) (hc9 : ∀ j, d < j → c j = 0) (sR : ∀ j, szb eR (-(g * h ^ (dA - dB)) * c j)) (heR : eR ≤ 2400) (sc : ∀ j, szb 600 (c j)) :
    wq (f_Seq_shortenRest fu (nx B) (B + 63) (nI k) (nI d) σ) (fun r => frs B σ r.2 ∧ (∀ j, j ≠ k → mg_i r.2 (B + 65) j = mg_i σ (B + 65) j ∧ mg_i r.2 (B + 66) j = mg_i σ (B + 66) j) ∧ mg_i r.2 (B + 63) = mg_i σ (B + 63) ∧ mg_i r.2 (B + 65) k = nI d ∧ mg_i r.2 (B + 66) k = sgI (c d) ∧ ∃ Z', bgs B r.2 Z' ∧ (∀ s, s ≠ 68 → s ≠ 74 → (∀ j, j < 9 → s ≠ rs j) → (∀ j, j < 9 → s ≠ nb k j) → Z' s = Z s) ∧ (∀ j, j < 9 → Z' (nb k j) = some (c j))) := by
  have e1 : nI k - 2 = nI (k - 2) := nI_sub (b := 2) hk2
  have e2 : nI k - 1 = nI (k - 1) := nI_sub (b := 1) (by omega)
  have m1 : rr_n (nI (k - 2)) = k - 2 := n_nI (by omega)
  have m2 : rr_n (nI (k - 1)) = k - 1 := n_nI (by omega)
  have mk : rr_n (nI k) = k := n_nI (by omega)
  have i1 : rr_ix (nI (k - 2)) (nx B (B + 65)) = true := by rw [nx_65]; exact ix_nI (by omega) (by omega)
  have i2 : rr_ix (nI (k - 1)) (nx B (B + 65)) = true := by rw [nx_65]; exact ix_nI (by omega) (by omega)
  have i3 : rr_ix (nI k) (nx B (B + 65)) = true := by rw [nx_65]; exact ix_nI (by omega) (by omega)
  have i4 : rr_ix (nI k) (nx B (B + 66)) = true := by rw [nx_66]; exact ix_nI (by omega) (by omega)
  have i5 : rr_ix (nI (9 * k + d)) (nx B (B + 64)) = true := by rw [nx_64]; exact ix_nI (by omega) (by omega)
  have m5 : rr_n (nI (9 * k + d)) = 9 * k + d := n_nI (by omega)
  have hzz : (dA - dB) * eh ≥ 0 := Nat.zero_le _
  unfold f_Seq_shortenRest
  dsimp only [rr_lt, rr_jn]
  rw [e1, e2, sq_1 hc, m1, m2, da, db, nI_sub hdB, sq_8 hc, sq_10 hc]
  refine wq_ip i1 (wq_ip i2 (wq_bd (wq_mo (bo_copyb (x := 74) (y := 78) (e := eg) hZ (by decide) (by decide) h78 sg (by rw [show roomB 74 = 96 by decide]; omega)) ?_)))
  rintro r1 ⟨L1, F1⟩
  refine csh_gh (σ0 := r1.2) (Z0 := zup Z 74 g) (g := g) (h := h) (δ := dA - dB) (eg := eg) (eh := eh) hfu (crf_sbf hc F1) (by omega) (by rw [zup_n (by omega)]; exact h80) sg sh hee ?_ fu 0 r1.2 (zup Z 74 g) (by omega) (by omega) L1 (sbf_rfl _ _) (fun _ _ _ => rfl) (by rw [zup_s, Int.pow_zero, Int.mul_one])
  intro σ2 Z2 L2 F2 O2 V2
  have hc2 := crf_sbf (crf_sbf hc F1) F2
  have sD : szb (eg + (dA - dB) * eh) (g * h ^ (dA - dB)) := by rw [Nat.mul_comm (dA - dB) eh]; exact szb_mul sg (szb_pow sh _)
  have hD0 : g * h ^ (dA - dB) ≠ 0 := Int.mul_ne_zero hg0 (Int.pow_ne_zero hh0)
  rw [sq_8 hc2]
  generalize hDD : g * h ^ (dA - dB) = D at *
  refine wq_bd (wq_mo (bo_neg (x := 74) (m1 := (eg + (dA - dB) * eh) / 30 + 1) hfu L2 (by decide) V2 (szl_of sD (by omega)) (by omega) (by rw [show roomB 74 = 96 by decide]; omega)) ?_)
  rintro r3 ⟨L3, F3⟩
  have hc3 := crf_sbf hc2 F3
  rw [sq_8 hc3]
  refine wq_ob (wq_mo (bo_ntz (x := 74) hfu L3 (by decide) (zup_s _ _ _)) ?_)
  rintro y ⟨zs, z1, rfl, _, z3⟩
  obtain ⟨w, hw⟩ := z3 (by omega)
  refine wq_bd (wq_mo (bo_shd (x := 74) (s := zs) (v := 2 * w + 1) hfu L3 (by decide) (by rw [zup_s, hw]) (by omega)) ?_)
  rintro r4 ⟨L4, F4⟩
  have hc4 := crf_sbf hc3 F4
  have hsame : ∀ s, s ≠ 68 → s ≠ 74 → zup (zup Z2 74 (-D)) 74 (2 * w + 1) s = Z s := fun s s1 s2 => by
    rw [zup_n s2, zup_n s2, O2 s s1 s2, zup_n s2]
  have hval : ∀ j, -D * c j = 2 ^ zs * (c j * (2 * w + 1)) := fun j => by rw [hw]; grind
  have sQ : ∀ j, szb eR (c j * (2 * w + 1)) := fun j => szb_dv (x := 2 ^ zs) (by rw [← hval]; exact sR j) (by have := p2_pos zs; omega)
  refine csh_q (σ0 := r4.2) (Z0 := zup (zup Z2 74 (-D)) 74 (2 * w + 1)) (c := c) (w := w) (k := k) (d := d) (zs := zs) (eR := eR) hfu hc4 hk10 hd (by omega) (zup_s _ _ _) (fun j hj => by rw [hsame _ (by unfold rs; omega) (by unfold rs; omega), hR j hj, hval]) hc9 sQ heR sc ?_ fu 0 r4.2 _ (by omega) (by omega) L4 (sbf_rfl _ _) (fun _ _ _ => rfl) (fun j hj => absurd hj (by omega))
  intro σ5 Z5 L5 F5 O5 V5
  have Fall : sbf B σ σ5 := sbf_tr F1 (sbf_tr F2 (sbf_tr F3 (sbf_tr F4 F5)))
  have hc5 := crf_sbf hc Fall
  have hc6 : crf B (ms_i σ5 (B + 65) k (nI d)) := hc5
  have L6 : bgs B (ms_i σ5 (B + 65) k (nI d)) Z5 := bgs_ms L5 isB_f65
  rw [sq_1 hc5, mk, sq_2 hc6, sq_0 hc6, nI_mul9, nI_add, m5, sq_nb hc6 hk10 hd, bo_sgn L6 (isB_nb hk10 hd) (V5 d hd)]
  refine wq_ip i3 (wq_ip i5 (wq_ob (wq_some (wq_ip i4 (wq_some ⟨?_, ?_, ?_, ?_, ?_, Z5, ?_, ?_, V5⟩)))))
  · exact frs_tr (sbf_frs Fall) (frs_tr (frs_ms (Or.inr (Or.inl rfl))) (frs_ms (Or.inr (Or.inr rfl))))
  · intro j hj
    refine ⟨?_, ?_⟩
    · show mg_i (ms_i (ms_i σ5 (B + 65) k _) (B + 66) k _) (B + 65) j = _
      rw [si_row (by omega), si_n (Or.inr hj), sbf_i Fall isB_f65]
    · show mg_i (ms_i (ms_i σ5 (B + 65) k _) (B + 66) k _) (B + 66) j = _
      rw [si_n (Or.inr hj), si_row (by omega), sbf_i Fall isB_f66]
  · show mg_i (ms_i (ms_i σ5 (B + 65) k _) (B + 66) k _) (B + 63) = _
    rw [si_row (by omega), si_row (by omega), sbf_i Fall isB_f63]
  · show mg_i (ms_i (ms_i σ5 (B + 65) k _) (B + 66) k _) (B + 65) k = _
    rw [si_row (by omega), si_s]
  · show mg_i (ms_i (ms_i σ5 (B + 65) k _) (B + 66) k _) (B + 66) k = _
    rw [si_s]
  · exact bgs_ms L6 isB_f66
  · intro s s1 s2 s3 s4
    rw [O5 s s3 s4, hsame s s1 s2]
-- the next height
theorem crh_l {fu B δ eL eh : Nat} {σ0 : rr_M} {Z0 : Nat → Option Int} {L h : Int} (hfu : 400 < fu) (hc0 : crf B σ0) (hδ : δ < 9) (h78 : Z0 78 = some L) (h80 : Z0 80 = some h) (sL : szb eL L) (sh : szb eh h) (hee : δ * eL ≤ 2400) (hee2 : δ * eh ≤ 2400) {kk : rr_M → Option (Unit × rr_M)} {Q : Unit × rr_M → Prop}
    (hk : ∀ (σ : rr_M) (Z : Nat → Option Int), bgs B σ Z → sbf B σ0 σ → (∀ s, s ≠ 68 → s ≠ 70 → s ≠ 74 → Z s = Z0 s) → Z 68 = some (L ^ δ) → Z 74 = some (h ^ (δ - 1)) → wq (kk σ) Q) :
    ∀ (f i : Nat) (σ : rr_M) (Z : Nat → Option Int), 1 ≤ i → i ≤ δ → δ + 1 - i ≤ f → bgs B σ Z → sbf B σ0 σ → (∀ s, s ≠ 68 → s ≠ 70 → s ≠ 74 → Z s = Z0 s) → Z 68 = some (L ^ i) → Z 74 = some (h ^ (i - 1)) →
      wq (l_Seq_raiseHeight_38 fu (nx B) (B + 63) (nI δ) f (nI i) σ kk) Q
  | 0, i, σ, Z, h0, h1, h2, _, _, _, _, _ => by omega
  | f + 1, i, σ, Z, h0, h1, h2, hZ, hF, hO, z68, z74 => by
    have hc := crf_sbf hc0 hF
    rw [l_Seq_raiseHeight_38]
    by_cases hit : i = δ
    · subst hit
      exact wq_ip (nI_le (Nat.le_refl _) (by omega)) (hk σ Z hZ hF hO z68 z74)
    · have c0 : ¬ nI δ ≤ nI i := nI_ge (by omega) (by omega)
      have hb : eL * i + eL ≤ 2400 := by
        have : (i + 1) * eL ≤ δ * eL := Nat.mul_le_mul_right _ (by omega)
        rw [Nat.succ_mul, Nat.mul_comm i eL] at this
        omega
      have hb2 : eh * (i - 1) + eh ≤ 2400 := by
        have : (i - 1 + 1) * eh ≤ δ * eh := Nat.mul_le_mul_right _ (by omega)
        rw [Nat.succ_mul, Nat.mul_comm (i - 1) eh] at this
        omega
      have Z78 : Z 78 = some L := by rw [hO 78 (by omega) (by omega) (by omega)]; exact h78
      have Z80 : Z 80 = some h := by rw [hO 80 (by omega) (by omega) (by omega)]; exact h80
      dsimp only [rr_lt]
      rw [if_neg c0, sq_6 hc, sq_5 hc, sq_10 hc]
      refine wq_bd (wq_mo (bo_mulb (x := 70) (y := 68) (w := 78) (e1 := eL * i) (e2 := eL) hfu hZ (by decide) (by decide) (by decide) (by omega) (by omega) z68 Z78 (szb_pow sL i) sL (by decide) (by omega)) ?_)
      rintro r1 ⟨L1, F1⟩
      have hc1 := crf_sbf hc F1
      rw [sq_5 hc1, sq_6 hc1]
      refine wq_bd (wq_mo (bo_copyb (x := 68) (y := 70) (e := eL * i + eL) L1 (by decide) (by decide) (zup_s _ _ _) (szb_mul (szb_pow sL i) sL) (by rw [show roomB 68 = 96 by decide]; omega)) ?_)
      rintro r2 ⟨L2, F2⟩
      have hc2 := crf_sbf hc1 F2
      rw [sq_6 hc2, sq_8 hc2, sq_11 hc2]
      refine wq_bd (wq_mo (bo_mulb (x := 70) (y := 74) (w := 80) (e1 := eh * (i - 1)) (e2 := eh) hfu L2 (by decide) (by decide) (by decide) (by omega) (by omega) (by rw [zup_n (by omega), zup_n (by omega)]; exact z74) (by rw [zup_n (by omega), zup_n (by omega)]; exact Z80) (szb_pow sh _) sh (by decide) (by omega)) ?_)
      rintro r3 ⟨L3, F3⟩
      have hc3 := crf_sbf hc2 F3
      rw [sq_8 hc3, sq_6 hc3]
      refine wq_bd (wq_mo (bo_copyb (x := 74) (y := 70) (e := eh * (i - 1) + eh) L3 (by decide) (by decide) (zup_s _ _ _) (szb_mul (szb_pow sh _) sh) (by rw [show roomB 74 = 96 by decide]; omega)) ?_)
      rintro r4 ⟨L4, F4⟩
      rw [nI_1]
      refine crh_l hfu hc0 hδ h78 h80 sL sh hee hee2 hk f (i + 1) r4.2 _ (by omega) (by omega) (by omega) L4 (sbf_tr hF (sbf_tr F1 (sbf_tr F2 (sbf_tr F3 F4)))) ?_ ?_ ?_
      · intro s s1 s2 s3
        rw [zup_n s3, zup_n s2, zup_n s1, zup_n s2]
        exact hO s s1 s2 s3
      · rw [zup_n (by omega), zup_n (by omega), zup_s, Int.pow_succ]
      · rw [zup_s, ← Int.pow_succ]
        congr 2
        omega
theorem crh_ok {fu B δ eL eh : Nat} {σ : rr_M} {Z : Nat → Option Int} {L h X : Int} (hfu : 400 < fu) (hc : crf B σ) (hδ : δ < 9) (hZ : bgs B σ Z) (h76 : Z 76 = some L) (h80 : Z 80 = some h) (hh0 : h ≠ 0) (sL : szb eL L) (sh : szb eh h) (heL : eL ≤ 600) (heh : eh ≤ 600) (sX : szb 600 X) (hee : δ * eL ≤ 2400) (hee2 : δ * eh ≤ 2400) (h0 : δ = 0 → X = h) (hX : 0 < δ → X * h ^ (δ - 1) = L ^ δ) :
    wq (f_Seq_raiseHeight fu (nx B) (B + 63) (nI δ) σ) (fun r => sbf B σ r.2 ∧ ∃ Z', bgs B r.2 Z' ∧ (∀ s, s ≠ 68 → s ≠ 70 → s ≠ 74 → s ≠ 78 → s ≠ 80 → Z' s = Z s) ∧ Z' 78 = some L ∧ Z' 80 = some X) := by
  unfold f_Seq_raiseHeight
  dsimp only [rr_lt]
  rw [sq_10 hc, sq_9 hc]
  refine wq_bd (wq_mo (bo_copyb (x := 78) (y := 76) (e := eL) hZ (by decide) (by decide) h76 sL (by rw [show roomB 78 = 24 by decide]; omega)) ?_)
  rintro r1 ⟨L1, F1⟩
  have hc1 := crf_sbf hc F1
  by_cases hz : δ = 0
  · subst hz
    rw [if_neg (by decide)]
    refine wq_some ⟨F1, _, L1, fun s _ _ _ s4 _ => zup_n s4, zup_s _ _ _, ?_⟩
    rw [zup_n (by omega), h80, h0 rfl]
  · have c0 : (1 : Int32) ≤ nI δ := nI_le (a := 1) (by omega) (by omega)
    rw [if_pos c0, sq_5 hc1, sq_10 hc1]
    refine wq_bd (wq_mo (bo_copyb (x := 68) (y := 78) (e := eL) L1 (by decide) (by decide) (zup_s _ _ _) sL (by rw [show roomB 68 = 96 by decide]; omega)) ?_)
    rintro r2 ⟨L2, F2⟩
    have hc2 := crf_sbf hc1 F2
    rw [sq_8 hc2]
    refine wq_bd (wq_mo (bo_set (x := 74) (v := 1) hfu L2 (by decide)) ?_)
    rintro r3 ⟨L3, F3⟩
    have hc3 := crf_sbf hc2 F3
    refine crh_l (σ0 := r3.2) (L := L) (h := h) (δ := δ) (eL := eL) (eh := eh) hfu hc3 hδ (by rw [zup_n (by omega), zup_n (by omega), zup_s]) (by rw [zup_n (by omega), zup_n (by omega), zup_n (by omega)]; exact h80) sL sh hee hee2 ?_ fu 1 r3.2 _ (by omega) (by omega) (by omega) L3 (sbf_rfl _ _) (fun _ _ _ _ => rfl) (by rw [zup_n (by omega), zup_s, Int.pow_succ, Int.pow_zero, Int.one_mul]) (by rw [zup_s, show (1 : Nat) - 1 = 0 from rfl, Int.pow_zero]; rfl)
    intro σ4 Z4 L4 F4 O4 V4 W4
    have hc4 := crf_sbf hc3 F4
    rw [sq_8 hc4]
    refine wq_ob (wq_mo (bo_ntz (x := 74) hfu L4 (by decide) W4) ?_)
    rintro y ⟨zs, z1, rfl, _, z3⟩
    obtain ⟨w, hw⟩ := z3 (Int.pow_ne_zero hh0)
    refine wq_bd (wq_mo (bo_shd (x := 74) (s := zs) (v := 2 * w + 1) hfu L4 (by decide) (by rw [W4, hw]) (by omega)) ?_)
    rintro r5 ⟨L5, F5⟩
    have hc5 := crf_sbf hc4 F5
    rw [sq_5 hc5]
    have hLX : L ^ δ = 2 ^ zs * (X * (2 * w + 1)) := by rw [← hX (by omega), hw]; grind
    refine wq_bd (wq_mo (bo_shd (x := 68) (s := zs) (v := X * (2 * w + 1)) hfu L5 (by decide) (by rw [zup_n (by omega), V4, hLX]) (by omega)) ?_)
    rintro r6 ⟨L6, F6⟩
    have hc6 := crf_sbf hc5 F6
    rw [sq_11 hc6, sq_5 hc6, sq_8 hc6]
    have sXw : szb (eL * δ) (X * (2 * w + 1)) := szb_dv (x := 2 ^ zs) (by rw [← hLX]; exact szb_pow sL δ) (by have := p2_pos zs; omega)
    have hcm : eL * δ ≤ 2400 := by rw [Nat.mul_comm]; exact hee
    refine wq_bd (wq_mo (bo_quo (x := 80) (r := 68) (o := 74) (q := X) (zo := 2 * w + 1) (wo := w) (mr := eL * δ / 30 + 1) (mq := 21) hfu L6 (by decide) (by decide) (by decide) (by omega) (by omega) (by omega) (zup_s _ _ _) (by rw [zup_n (by omega), zup_s]) rfl (szl_of sXw (by omega)) (by omega) (by rw [show roomB 68 = 96 by decide]; omega) (szl_of sX (by omega)) (by rw [show roomB 80 = 24 by decide]; omega)) ?_)
    rintro r7 ⟨L7, F7⟩
    refine wq_some ⟨sbf_tr F1 (sbf_tr F2 (sbf_tr F3 (sbf_tr F4 (sbf_tr F5 (sbf_tr F6 F7))))), _, L7, ?_, ?_, zup_s _ _ _⟩
    · intro s s1 s2 s3 s4 s5
      rw [zup_n s5, zrm_n s1, zup_n s1, zup_n s3, O4 s s1 s2 s3, zup_n s3, zup_n s1, zup_n s4]
    · rw [zup_n (by omega), zrm_n (by omega), zup_n (by omega), zup_n (by omega), O4 78 (by omega) (by omega) (by omega), zup_n (by omega), zup_n (by omega), zup_s]
