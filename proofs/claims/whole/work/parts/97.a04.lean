/-! ===== the class: the divisor out of the last member ===== -/
/-- large numbers, and the row o of longs, may have changed -/
def fro (B o : Nat) (σ σ' : rr_M) : Prop := mg_r σ' = mg_r σ ∧ (∀ x, isB x = false → mg_i σ' (B + x) = mg_i σ (B + x)) ∧ (∀ x, isB (x - 1) = false → x ≠ o → mg_l σ' (B + x) = mg_l σ (B + x))
theorem sbf_fro {B o : Nat} {σ σ' : rr_M} (h : sbf B σ σ') : fro B o σ σ' := ⟨h.1, h.2.1, fun x h1 _ => h.2.2 x h1⟩
theorem fro_tr {B o : Nat} {σ σ' σ'' : rr_M} (h1 : fro B o σ σ') (h2 : fro B o σ' σ'') : fro B o σ σ'' := ⟨h2.1.trans h1.1, fun x a => (h2.2.1 x a).trans (h1.2.1 x a), fun x a b => (h2.2.2 x a b).trans (h1.2.2 x a b)⟩
theorem fro_mw {B o : Nat} {σ : rr_M} {u : Nat → Int64} : fro B o σ (mw_l σ (B + o) u) := ⟨rfl, fun _ _ => rfl, fun x _ h => mw_gn _ (by omega)⟩
theorem fro_ms {B o k : Nat} {σ : rr_M} {v : Int64} : fro B o σ (ms_l σ (B + o) k v) := ⟨rfl, fun _ _ => rfl, fun x _ h => rr_oL (by omega)⟩
theorem bgs_msl {B o k : Nat} {σ : rr_M} {Z : Nat → Option Int} {v : Int64} (h : bgs B σ Z) (ho : isB (o - 1) = false) : bgs B (ms_l σ (B + o) k v) Z := fun x hx => ⟨(h x hx).1, fun z hz => bg_keep ((h x hx).2 z hz) rfl rfl (rr_oL (fun hc => by
  have : x = o - 1 := by omega
  rw [this, ho] at hx
  cases hx))⟩
theorem bgs_mw {B o : Nat} {σ : rr_M} {Z : Nat → Option Int} {u : Nat → Int64} (h : bgs B σ Z) (ho : isB (o - 1) = false) : bgs B (mw_l σ (B + o) u) Z := fun x hx => ⟨(h x hx).1, fun z hz => bg_keep ((h x hx).2 z hz) rfl rfl (mw_gn _ (fun hc => by
  have : x = o - 1 := by omega
  rw [this, ho] at hx
  cases hx))⟩
theorem cdv_z {fu B o : Nat} {σ : rr_M} (n0 : nx B (B + o) = 9) {kk : rr_M → Option (Unit × rr_M)} {Q : Unit × rr_M → Prop} (hk : ∀ u : Nat → Int64, (∀ j, j < 9 → u j = 0) → wq (kk (mw_l σ (B + o) u)) Q) :
    ∀ (fl k : Nat) (u : Nat → Int64), k ≤ 9 → 10 - k ≤ fl → (∀ j, j < k → u j = 0) → wq (l_Seq_copyDivisor_2 fu (nx B) (B + o) fl (nI k) (mw_l σ (B + o) u) kk) Q
  | 0, k, u, h1, h2, _ => by omega
  | fl + 1, k, u, h1, h2, hu => by
    rw [l_Seq_copyDivisor_2, n0]
    by_cases hk9 : k = 9
    · subst hk9
      exact wq_ip (by decide) (hk u hu)
    · have c0 : ¬ nI 9 ≤ nI k := nI_ge (by omega) (by omega)
      have mk : rr_n (nI k) = k := n_nI (by omega)
      dsimp only [rr_lt]
      rw [if_neg c0, mk, mw_ms, nI_1]
      refine wq_ip (ix_nI (by omega) (by omega)) (cdv_z n0 hk fl (k + 1) _ (by omega) (by omega) (fun j hj => ?_))
      by_cases hjk : j = k
      · subst hjk; rw [upL_s]
      · rw [upL_n hjk]; exact hu j (by omega)
theorem cdv_l {fu B o M d e zs : Nat} {σ0 : rr_M} {Z0 : Nat → Option Int} {L p X : Pl} {w : Int} (hfu : 400 < fu) (hc0 : crf B σ0) (ho : isB (o - 1) = false) (n0 : nx B (B + o) = 9) (hM1 : 1 ≤ M) (hM : M ≤ 10) (he : e < 9) (hd : d < 9) (hzs : zs < 100000) (hdg : mg_i σ0 (B + 65) 0 = nI d) (hL : ∀ j, j < 9 → Z0 (nb (M - 1) j) = some (L j)) (hp : ∀ j, j < 9 → Z0 (nb 0 j) = some (p j)) (h74 : Z0 74 = some (2 * w + 1)) (hX : ∀ j, L j * p d = 2 ^ zs * (X j * (2 * w + 1))) (sL : ∀ j, szb 600 (L j)) (sp : ∀ j, szb 600 (p j)) (hsz : ∀ k, -1099511627776 ≤ X k ∧ X k ≤ 1099511627776) {kk : rr_M → Option (Unit × rr_M)} {Q : Unit × rr_M → Prop}
    (hk : ∀ (σ : rr_M) (Z : Nat → Option Int), bgs B σ Z → fro B o σ0 σ → (∀ s, s ≠ 68 → s ≠ 70 → Z s = Z0 s) → (∀ j, j ≤ e → (mg_l σ (B + o) j).toInt = X j) → (∀ j, e < j → mg_l σ (B + o) j = mg_l σ0 (B + o) j) → wq (kk σ) Q) :
    ∀ (fl k : Nat) (σ : rr_M) (Z : Nat → Option Int), k ≤ e + 1 → e + 2 - k ≤ fl → bgs B σ Z → fro B o σ0 σ → (∀ s, s ≠ 68 → s ≠ 70 → Z s = Z0 s) → (∀ j, j < k → (mg_l σ (B + o) j).toInt = X j) → (∀ j, k ≤ j → mg_l σ (B + o) j = mg_l σ0 (B + o) j) →
      wq (l_Seq_copyDivisor_78 fu (nx B) (B + 63) (B + o) (nI e) (nI (9 * (M - 1))) (nI zs) fl (nI k) σ kk) Q
  | 0, k, σ, Z, h1, h2, _, _, _, _, _ => by omega
  | fl + 1, k, σ, Z, h1, h2, hZ, hF, hO, hN, hT => by
    have hc : crf B σ := crf_of hc0 hF.1
    rw [l_Seq_copyDivisor_78]
    by_cases hke : k = e + 1
    · subst hke
      exact wq_ip (nI_lt (by omega) (by omega)) (hk σ Z hZ hF hO (fun j hj => hN j (by omega)) (fun j hj => hT j (by omega)))
    · have c0 : ¬ nI e < nI k := nI_nlt (by omega) (by omega)
      have c1 : ¬ nI (nx B (B + o)) ≤ nI k := by rw [n0]; exact nI_ge (by omega) (by omega)
      have mk : rr_n (nI k) = k := n_nI (by omega)
      have md : rr_n (nI d) = d := n_nI (by omega)
      have m0 : rr_n 0 = 0 := rfl
      have mi : rr_n (nI (9 * (M - 1) + k)) = 9 * (M - 1) + k := n_nI (by omega)
      have x1 : rr_ix (nI (9 * (M - 1) + k)) (nx B (B + 64)) = true := by rw [nx_64]; exact ix_nI (by omega) (by omega)
      have x2 : rr_ix 0 (nx B (B + 65)) = true := by rw [nx_65]; decide
      have x3 : rr_ix (nI d) (nx B (B + 64)) = true := by rw [nx_64]; exact ix_nI (by omega) (by omega)
      have x4 : rr_ix (nI k) (nx B (B + o)) = true := by rw [n0]; exact ix_nI (by omega) (by omega)
      have hd1 : mg_i σ (B + 65) 0 = nI d := by rw [hF.2.1 65 isB_f65]; exact hdg
      have rd : mg_r σ (B + 64) d = B + nb 0 d := by have := sq_nb hc (k := 0) (j := d) (by omega) hd; rw [Nat.mul_zero, Nat.zero_add] at this; exact this
      have ZL : Z (nb (M - 1) k) = some (L k) := by rw [hO _ (nb_ne (by omega)) (nb_ne (by omega))]; exact hL k (by omega)
      have Zp : Z (nb 0 d) = some (p d) := by rw [hO _ (nb_ne (by omega)) (nb_ne (by omega))]; exact hp d hd
      have Z74 : Z 74 = some (2 * w + 1) := by rw [hO 74 (by omega) (by omega)]; exact h74
      dsimp only [rr_lt]
      rw [if_neg c0, if_neg c1, sq_5 hc, sq_0 hc, nI_add, mi, sq_nb hc (by omega) (show k < 9 by omega), sq_1 hc, m0, hd1, md, rd]
      refine wq_ip x1 (wq_ip x2 (wq_ip x3 ?_))
      refine wq_bd (wq_mo (bo_mulb (x := 68) (y := nb (M - 1) k) (w := nb 0 d) (e1 := 600) (e2 := 600) hfu hZ (by decide) (isB_nb (by omega) (by omega)) (isB_nb (by omega) hd) (nb_ne (by omega)) (nb_ne (by omega)) ZL Zp (sL k) (sp d) (by decide) (by omega)) ?_)
      rintro r1 ⟨L1, F1⟩
      have hc1 := crf_sbf hc F1
      rw [sq_5 hc1]
      refine wq_bd (wq_mo (bo_shd (x := 68) (s := zs) (v := X k * (2 * w + 1)) hfu L1 (by decide) (by rw [zup_s, hX]) hzs) ?_)
      rintro r2 ⟨L2, F2⟩
      have hc2 := crf_sbf hc1 F2
      rw [sq_6 hc2, sq_5 hc2, sq_8 hc2]
      have sXw : szb 1200 (X k * (2 * w + 1)) := szb_dv (x := 2 ^ zs) (by rw [← hX]; exact szb_mono (szb_mul (sL k) (sp d)) (by omega)) (by have := p2_pos zs; omega)
      have hXb := hsz k
      have sX : szb 40 (X k) := by
        unfold szb
        have : (2 : Nat) ^ 40 = 1099511627776 := by decide
        omega
      refine wq_bd (wq_mo (bo_quo (x := 70) (r := 68) (o := 74) (q := X k) (zo := 2 * w + 1) (wo := w) (mr := 41) (mq := 2) hfu L2 (by decide) (by decide) (by decide) (by omega) (by omega) (by omega) (zup_s _ _ _) (by rw [zup_n (by omega), zup_n (by omega)]; exact Z74) rfl (szl_of sXw (by omega)) (by omega) (by decide) (szl_of sX (by omega)) (by decide)) ?_)
      rintro r3 ⟨L3, F3⟩
      have hc3 := crf_sbf hc2 F3
      rw [sq_6 hc3]
      refine wq_ob (wq_mo (bo_tol (x := 70) hfu L3 (by decide) (zup_s _ _ _) (by omega) (by omega)) ?_)
      intro v hv
      rw [mk, nI_1]
      have Fs : sbf B σ r3.2 := sbf_tr F1 (sbf_tr F2 F3)
      have hrow : mg_l r3.2 (B + o) = mg_l σ (B + o) := Fs.2.2 o ho
      refine wq_ip x4 (cdv_l hfu hc0 ho n0 hM1 hM he hd hzs hdg hL hp h74 hX sL sp hsz hk fl (k + 1) _ _ (by omega) (by omega) (bgs_msl L3 ho) (fro_tr hF (fro_tr (sbf_fro Fs) fro_ms)) (fun s s1 s2 => by rw [zup_n s2, zrm_n s1, zup_n s1, zup_n s1]; exact hO s s1 s2) (fun j hj => ?_) (fun j hj => ?_))
      · by_cases hjk : j = k
        · subst hjk; rw [sl_s]; exact hv
        · rw [sl_n (Or.inr hjk), hrow]; exact hN j (by omega)
      · rw [sl_n (Or.inr (by omega)), hrow]; exact hT j (by omega)
theorem cdv_ok {fu B o M d e : Nat} {σ : rr_M} {Z : Nat → Option Int} {p q g : Pl} {c' : Int} {X : Pl} (hfu : 400 < fu) (hc : crf B σ) (hZ : bgs B σ Z) (ho : isB (o - 1) = false) (n0 : nx B (B + o) = 9) (he : ends p q M) (hM : M ≤ 10) (h3 : mg_i σ (B + 63) 3 = nI M) (hR : crs B (M - 1) σ Z p q) (hd : dgg p = d) (hd9 : d < 9) (hee : dgg (mm p q (M - 1)) = e) (he9 : e < 9) (he0 : 0 < e) (hLe : cc p q (M - 1) e ≠ 0) (hX : ∀ j, cc p q (M - 1) j * p d = cc p q (M - 1) e * X j) (hX9 : ∀ j, e < j → X j = 0) (hXp : pbd 9 X) (hX0 : 0 < dln X) (sL : ∀ j, szb 600 (cc p q (M - 1) j)) (sp : ∀ j, szb 600 (p j)) (hsz : ∀ k, -1099511627776 ≤ X k ∧ X k ≤ 1099511627776) :
    wq (f_Seq_copyDivisor fu (nx B) (B + 63) (B + o) σ) (fun r => fro B o σ r.2 ∧ (∀ j, j < 9 → (mg_l r.2 (B + o) j).toInt = (X (dgg X)).sign * ppt X j) ∧ ∃ Z', bgs B r.2 Z' ∧ (∀ s, s ≠ 68 → s ≠ 70 → s ≠ 74 → Z' s = Z s)) := by
  have h2 := he.1
  unfold f_Seq_copyDivisor
  have key : wq (l_Seq_copyDivisor_2 fu (nx B) (B + o) fu (nI 0) (mw_l σ (B + o) (mg_l σ (B + o))) (fun σ_4 =>
      Option.bind (f_Seq_lastDegree (nx B) (B + 63) σ_4) fun r_5 =>
        if 0 < r_5 then if rr_ix (((mg_i σ_4 (B + 63) 3) - 1) * 9 + r_5) (nx B (mg_r σ_4 (B + 63) 0)) = true then
          rr_bd (f_Big_copy (nx B) (mg_r σ_4 (B + 63) 8) (mg_r σ_4 (mg_r σ_4 (B + 63) 0) (rr_n (((mg_i σ_4 (B + 63) 3) - 1) * 9 + r_5))) σ_4) fun _ σ_12 =>
            Option.bind (f_Big_trailingZeros fu (nx B) (mg_r σ_12 (B + 63) 8) σ_12) fun r_15 =>
              rr_bd (f_Big_shiftDown fu (nx B) (mg_r σ_12 (B + 63) 8) r_15 σ_12) fun _ σ_18 =>
                l_Seq_copyDivisor_78 fu (nx B) (B + 63) (B + o) r_5 (((mg_i σ_4 (B + 63) 3) - 1) * 9) r_15 fu 0 σ_18 (fun σ_43 => rr_bd (f_Num_makePrimitive fu (nx B) (B + o) σ_43) fun _ σ_44 => some ((), σ_44))
          else none
        else if rr_ix 0 (nx B (B + o)) = true then some ((), ms_l σ_4 (B + o) (rr_n 0) 1) else none)) (fun r => fro B o σ r.2 ∧ (∀ j, j < 9 → (mg_l r.2 (B + o) j).toInt = (X (dgg X)).sign * ppt X j) ∧ ∃ Z', bgs B r.2 Z' ∧ (∀ s, s ≠ 68 → s ≠ 70 → s ≠ 74 → Z' s = Z s)) := by
    refine cdv_z n0 ?_ fu 0 _ (by omega) (by omega) (fun j hj => absurd hj (by omega))
    intro u hu
    have hcw : crf B (mw_l σ (B + o) u) := hc
    have hRw : crs B (M - 1) (mw_l σ (B + o) u) Z p q := hR
    have h3w : mg_i (mw_l σ (B + o) u) (B + 63) 3 = nI M := h3
    have Lw : bgs B (mw_l σ (B + o) u) Z := bgs_mw hZ ho
    rw [cld_dg (fu := fu) (s := 0) he hM hcw h3w hRw, hee]
    refine wq_ob (wq_some ?_)
    have e1 : (nI M - 1) * 9 = nI (9 * (M - 1)) := by rw [show (1 : Int32) = nI 1 from rfl, nI_sub (by omega), nI_mul9]
    have mi : rr_n (nI (9 * (M - 1) + e)) = 9 * (M - 1) + e := n_nI (by omega)
    have x1 : rr_ix (nI (9 * (M - 1) + e)) (nx B (B + 64)) = true := by rw [nx_64]; exact ix_nI (by omega) (by omega)
    have c00 : (0 : Int32) < nI e := nI_lt (a := 0) he0 (by omega)
    rw [if_pos c00, h3w, e1, nI_add, mi, sq_0 hcw, sq_8 hcw, sq_nb hcw (by omega) he9]
    obtain ⟨a1, a2, a3⟩ := hRw (M - 1) (Nat.le_refl _)
    obtain ⟨b1, b2, b3⟩ := hRw 0 (Nat.zero_le _)
    rw [cc_0] at b1
    refine wq_ip x1 (wq_bd (wq_mo (bo_copyb (x := 74) (y := nb (M - 1) e) (e := 600) Lw (by decide) (isB_nb (by omega) he9) (a1 e he9) (sL e) (by rw [show roomB 74 = 96 by decide]; omega)) ?_))
    rintro r1 ⟨L1, F1⟩
    have hc1 := crf_sbf hcw F1
    rw [sq_8 hc1]
    refine wq_ob (wq_mo (bo_ntz (x := 74) hfu L1 (by decide) (zup_s _ _ _)) ?_)
    rintro y ⟨zs, z1, rfl, _, z3⟩
    obtain ⟨w, hw⟩ := z3 hLe
    refine wq_bd (wq_mo (bo_shd (x := 74) (s := zs) (v := 2 * w + 1) hfu L1 (by decide) (by rw [zup_s, hw]) (by omega)) ?_)
    rintro r2 ⟨L2, F2⟩
    have hc2 := crf_sbf hc1 F2
    have Fs : sbf B (mw_l σ (B + o) u) r2.2 := sbf_tr F1 F2
    have hd0 : mg_i r2.2 (B + 65) 0 = nI d := by rw [sbf_i Fs isB_f65, b2]; show nI (dgg p) = _; rw [hd]
    refine cdv_l (σ0 := r2.2) (L := cc p q (M - 1)) (p := p) (X := X) (w := w) (d := d) (e := e) (zs := zs) hfu hc2 ho n0 (by omega) hM he9 hd9 (by omega) hd0 (fun j hj => by rw [zup_n (nb_ne (by decide)), zup_n (nb_ne (by decide))]; exact a1 j hj) (fun j hj => by rw [zup_n (nb_ne (by decide)), zup_n (nb_ne (by decide))]; exact b1 j hj) (zup_s _ _ _) (fun j => by rw [hX j, hw]; grind) sL sp hsz ?_ fu 0 r2.2 _ (by omega) (by omega) L2 (sbf_fro (sbf_rfl _ _)) (fun _ _ _ => rfl) (fun j hj => absurd hj (by omega)) (fun _ _ => rfl)
    intro σ3 Z3 L3 F3 O3 V3 T3
    have hrow : ∀ j, j < 9 → (mg_l σ3 (B + o) j).toInt = X j := fun j hj => by
      by_cases hje : j ≤ e
      · exact V3 j hje
      · rw [T3 j (by omega), Fs.2.2 o ho, mw_gsk, hu j hj, hX9 j (by omega)]; rfl
    refine wq_bd (wq_mo (mpr_ok hfu n0 hrow hXp hX0 hsz) ?_)
    rintro r4 ⟨u4, q1, q2⟩
    refine wq_some ⟨?_, fun j hj => ?_, Z3, ?_, fun s s1 s2 s3 => ?_⟩
    · show fro B o σ r4.2
      rw [q1]
      exact fro_tr fro_mw (fro_tr (sbf_fro Fs) (fro_tr F3 fro_mw))
    · show (mg_l r4.2 (B + o) j).toInt = _
      rw [q1, mw_gsk]; exact q2 j hj
    · show bgs B r4.2 Z3
      rw [q1]; exact bgs_mw L3 ho
    · rw [O3 s s1 s2, zup_n s3, zup_n s3]
  rw [mw_id] at key
  exact key
