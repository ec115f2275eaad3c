/-! ===== primitive parts: the model's, whole; the class's gcd ===== -/
def frl (C rp : Nat) (σ σ' : rr_M) : Prop := mg_r σ' = mg_r σ ∧ (∀ a, a ≠ C + 1 → a ≠ C + 2 → a ≠ C + 3 → mg_i σ' a = mg_i σ a) ∧ (∀ a, a ≠ C + 4 → a ≠ C + 5 → a ≠ C + 8 → mg_l σ' a = mg_l σ a) ∧ (∀ i, (i < 9 * rp ∨ 9 * rp + 9 ≤ i) → mg_l σ' (C + 8) i = mg_l σ (C + 8) i)
theorem pln_ok {fu C row rp e : Nat} {σ : rr_M} {Y : Nat → Int} {G : Pl} (hfu : 70000 < fu) (hY : LM C σ Y) (hrow : row < 48) (hrp : rp < 22) (hG : rwY Y row G) (h9 : pbd 9 G) (hG0 : 0 < dln G) (hdg : mg_i σ (C + 6) row = nI (dgg G)) (sG : ∀ t, szb e (G t)) (he : e ≤ 600) (hsz : ∀ k, -1099511627776 ≤ ppt G k ∧ ppt G k ≤ 1099511627776) :
    wq (f_Mod_plains fu (nm C) C (nI rp) (nI row) σ) (fun y => frl C rp σ y.2 ∧ mpo C y.2 rp (ppt G) ∧ ∃ Y', LM C y.2 Y' ∧ (∀ s, s ≠ 11 → s ≠ 12 → s ≠ 13 → s ≠ 14 → Y' s = Y s)) := by
  have mr : rr_n (nI row) = row := n_nI (by omega)
  obtain ⟨hd, h8⟩ := dln_top h9 hG0
  have sl := slt_lt (r := row) (k := dgg G) hrow h8
  have ml : rr_n (nI (slt row (dgg G))) = slt row (dgg G) := n_nI (by omega)
  unfold f_Mod_plains
  refine wq_bd (wq_mo (ctt_ok hfu hY hrow hG h9 hG0 hdg sG he) ?_)
  rintro r1 ⟨F1, Y1, L1, O1, V1⟩
  have d1 : mg_i r1.2 (C + 6) row = nI (dgg G) := by rw [frm_i F1 (by omega) (by omega) (by omega)]; exact hdg
  have G1 : rwY Y1 row G := fun j hj => by have := slt_ge row j; rw [O1 _ (by omega) (by omega) (by omega) (by omega)]; exact hG j hj
  dsimp only [rr_lt]
  rw [mrf_3 L1.1, mrf_6 L1.1, mr, d1, slot_ok]
  refine wq_ip (ix6 hrow) (wq_ob (wq_some (wq_ip (ix3 sl) ?_)))
  rw [ml, mo_sign L1 sl, G1 _ h8]
  refine pln_l (σ0 := r1.2) (Y0 := Y1) (G := G) hfu hrow hrp G1 h9 hG0 d1 V1 (sgI_t _) hsz ?_ fu 0 r1.2 Y1 (by omega) (by omega) L1 rfl (fun _ _ _ _ => rfl) (fun _ _ _ _ => rfl) (fun _ _ => rfl) (fun _ _ _ => rfl) (fun j hj => absurd hj (by omega))
  intro σ2 Y2 L2 q1 q2 q3 q4 q5 q6
  refine wq_some ⟨⟨q1.trans F1.1, fun a x y z => (q2 a x y z).trans (F1.2.2 a x y z), fun a x y z => (q3 a x y z).trans (F1.2.1 a x y), fun i hi => by rw [q4 i hi, F1.2.1 _ (by omega) (by omega)]⟩, q6, Y2, L2, fun s s1 s2 s3 s4 => by rw [q5 s s3 s4]; exact O1 s s1 s2 s3 s4⟩
-- the class's gcd of longs
theorem emod_abs {a b : Int} (ha : 0 ≤ a) (hb : 0 ≤ b) : (a % b).natAbs = a.natAbs % b.natAbs := by
  obtain ⟨m, rfl⟩ := Int.eq_ofNat_of_zero_le ha
  obtain ⟨n, rfl⟩ := Int.eq_ofNat_of_zero_le hb
  rw [← Int.natCast_emod, Int.natAbs_natCast, Int.natAbs_natCast, Int.natAbs_natCast]
theorem gcl_l {fu : Nat} {kk : Int64 → Option Int64} {Q : Int64 → Prop} {G : Nat} (hk : ∀ v : Int64, v.toInt = (G : Int) → wq (kk v) Q) :
    ∀ (e fl t : Nat) (a b : Int64), 0 ≤ a.toInt → 0 ≤ b.toInt → b.toInt.natAbs < 2 ^ e → 2 * e + 1 + t ≤ 100 → 2 * e + 2 ≤ fl → Nat.gcd a.toInt.natAbs b.toInt.natAbs = G → wq (l_Num_commonDivisor_15 fu fl a b (nI t) kk) Q := by
  have stop : ∀ (fl t : Nat) (a b : Int64), 0 ≤ a.toInt → b = 0 → Nat.gcd a.toInt.natAbs b.toInt.natAbs = G → wq (l_Num_commonDivisor_15 fu (fl + 1) a b (nI t) kk) Q := by
    intro fl t a b ha hb hG
    rw [l_Num_commonDivisor_15, if_pos hb]
    refine hk a ?_
    rw [hb, show (0 : Int64).toInt = 0 from rfl] at hG
    simp at hG
    omega
  have one : ∀ (fl t : Nat) (a b : Int64), 0 ≤ a.toInt → 0 ≤ b.toInt → ¬ b = 0 → t < 100 → (∀ c : Int64, c.toInt = a.toInt % b.toInt → wq (l_Num_commonDivisor_15 fu fl b c (nI (t + 1)) kk) Q) → wq (l_Num_commonDivisor_15 fu (fl + 1) a b (nI t) kk) Q := by
    intro fl t a b ha hb h0 ht hnext
    have c1 : ¬ (100 : Int32) ≤ nI t := nI_ge (b := 100) (by omega) (by omega)
    rw [l_Num_commonDivisor_15, if_neg h0, if_neg c1, if_neg h0]
    dsimp only [rr_lt]
    rw [nI_1]
    exact hnext _ (Jvm.Kit.i64_rem_nonneg ha)
  intro e
  induction e with
  | zero =>
    intro fl t a b ha hb hlt ht hfl hG
    obtain ⟨f', rfl⟩ : ∃ f', fl = f' + 1 := ⟨fl - 1, by omega⟩
    exact stop f' t a b ha (j_eq0.mpr (by simp at hlt; omega)) hG
  | succ e ih =>
    intro fl t a b ha hb hlt ht hfl hG
    obtain ⟨f', rfl⟩ : ∃ f', fl = f' + 1 + 1 := ⟨fl - 2, by omega⟩
    by_cases h0 : b = 0
    · exact stop (f' + 1) t a b ha h0 hG
    · have hb0 : b.toInt ≠ 0 := fun hh => h0 (j_eq0.mpr hh)
      refine one (f' + 1) t a b ha hb h0 (by omega) (fun c hc => ?_)
      have hc0 : 0 ≤ c.toInt := by rw [hc]; exact Int.emod_nonneg _ hb0
      have hcn : c.toInt.natAbs = a.toInt.natAbs % b.toInt.natAbs := by
        rw [hc]
        exact emod_abs ha hb
      have hG1 : Nat.gcd b.toInt.natAbs c.toInt.natAbs = G := by rw [hcn, ← hG, Nat.gcd_comm b.toInt.natAbs, ← Nat.gcd_rec, Nat.gcd_comm]
      by_cases h1 : c = 0
      · exact stop f' (t + 1) b c hb h1 hG1
      · have hc1 : c.toInt ≠ 0 := fun hh => h1 (j_eq0.mpr hh)
        refine one f' (t + 1) b c hb hc0 h1 (by omega) (fun c' hc' => ?_)
        have hc0' : 0 ≤ c'.toInt := by rw [hc']; exact Int.emod_nonneg _ hc1
        have hcn' : c'.toInt.natAbs = b.toInt.natAbs % c.toInt.natAbs := by
          rw [hc']
          exact emod_abs hb hc0
        refine ih f' (t + 1 + 1) c c' hc0 hc0' ?_ (by omega) (by omega) ?_
        · have hr : c.toInt.natAbs < b.toInt.natAbs := by rw [hcn]; exact Nat.mod_lt _ (by omega)
          have := euc_half hr (by omega)
          rw [hcn']
          rw [Nat.pow_succ] at hlt
          omega
        · rw [hcn', ← hG1, Nat.gcd_comm c.toInt.natAbs, ← Nat.gcd_rec, Nat.gcd_comm]
theorem abl_t {x : Int64} (h : x.toInt ≠ -9223372036854775808) : (rr_abl x).toInt = (x.toInt.natAbs : Int) := by
  unfold rr_abl
  have z0 : (0 : Int64).toInt = 0 := rfl
  by_cases h0 : (0 : Int64) < x
  · rw [if_pos h0]
    rw [Int64.lt_iff_toInt_lt, z0] at h0
    omega
  · rw [if_neg h0]
    rw [Int64.lt_iff_toInt_lt, z0] at h0
    rw [Jvm.Kit.i64_neg (by omega)]
    omega
theorem gcl_ok {fu : Nat} {a b : Int64} (hfu : 400 < fu) (ha : -1099511627776 ≤ a.toInt ∧ a.toInt ≤ 1099511627776) (hb : -1099511627776 ≤ b.toInt ∧ b.toInt ≤ 1099511627776) : wq (f_Num_commonDivisor fu a b) (fun v => v.toInt = (Nat.gcd a.toInt.natAbs b.toInt.natAbs : Int)) := by
  unfold f_Num_commonDivisor
  dsimp only [rr_lt]
  have e1 := abl_t (x := a) (by omega)
  have e2 := abl_t (x := b) (by omega)
  refine gcl_l (G := Nat.gcd a.toInt.natAbs b.toInt.natAbs) (fun v hv => wq_some hv) 41 fu 0 _ _ (by omega) (by omega) ?_ (by omega) (by omega) ?_
  · rw [e2]
    have : (2 : Nat) ^ 41 = 2199023255552 := by decide
    simp only [Int.natAbs_natCast]
    omega
  · rw [e1, e2]; simp
theorem mpr_a {fu B o : Nat} {σ : rr_M} {f : Pl} (hfu : 400 < fu) (n0 : nx B (B + o) = 9) (hf : ∀ j, j < 9 → (mg_l σ (B + o) j).toInt = f j) (hsz : ∀ k, -1099511627776 ≤ f k ∧ f k ≤ 1099511627776) {kk : Int64 → Option (Unit × rr_M)} {Q : Unit × rr_M → Prop} (hk : ∀ v : Int64, v.toInt = (ctf 9 f : Int) → wq (kk v) Q) :
    ∀ (fl k : Nat) (v : Int64), k ≤ 9 → 10 - k ≤ fl → v.toInt = (ctf k f : Int) → wq (l_Num_makePrimitive_4 fu (nx B) (B + o) σ fl v (nI k) kk) Q
  | 0, k, v, h1, h2, _ => by omega
  | fl + 1, k, v, h1, h2, hv => by
    rw [l_Num_makePrimitive_4, n0]
    by_cases hk9 : k = 9
    · subst hk9
      exact wq_ip (by decide) (hk v hv)
    · have c0 : ¬ nI 9 ≤ nI k := nI_ge (by omega) (by omega)
      have mk : rr_n (nI k) = k := n_nI (by omega)
      rw [if_neg c0, mk]
      have hb : ∀ n, n ≤ 9 → ctf n f ≤ 1099511627776 := by
        intro n
        induction n with
        | zero => intro _; simp [ctf]
        | succ n ih =>
          intro hn
          simp only [ctf]
          have hfn := hsz n
          by_cases hz : ctf n f = 0
          · rw [hz, Nat.gcd_zero_left]; omega
          · have := Nat.gcd_le_left (f n).natAbs (show 0 < ctf n f by omega)
            have := ih (by omega)
            omega
      have hbk := hb k (by omega)
      have hfk := hsz k
      refine wq_ip (ix_nI (by omega) (by omega)) (wq_ob (wq_mo (gcl_ok (a := v) (b := mg_l σ (B + o) k) hfu (by omega) (by rw [hf k (by omega)]; exact hfk)) ?_))
      intro v' hv'
      dsimp only [rr_lt]
      rw [nI_1]
      refine mpr_a hfu n0 hf hsz hk fl (k + 1) v' (by omega) (by omega) ?_
      rw [hv', hv, hf k (by omega)]
      simp only [Int.natAbs_natCast, ctf]
theorem mpr_b {fu B o : Nat} {σ : rr_M} {f : Pl} {c : Int64} {s : Nat} (n0 : nx B (B + o) = 9) (hc : c.toInt = (s : Int)) (hs : 0 < s) (hdv : ∀ k, k < 9 → (s : Int) ∣ f k) (hsz : ∀ k, -1099511627776 ≤ f k ∧ f k ≤ 1099511627776) {kk : rr_M → Option (Unit × rr_M)} {Q : Unit × rr_M → Prop} (hk : ∀ u : Nat → Int64, (∀ j, j < 9 → (u j).toInt = f j / (s : Int)) → wq (kk (mw_l σ (B + o) u)) Q) :
    ∀ (fl k : Nat) (u : Nat → Int64), k ≤ 9 → 10 - k ≤ fl → (∀ j, j < 9 → (u j).toInt = if j < k then f j / (s : Int) else f j) → wq (l_Num_makePrimitive_33 fu (nx B) (B + o) c fl (nI k) (mw_l σ (B + o) u) kk) Q
  | 0, k, u, h1, h2, _ => by omega
  | fl + 1, k, u, h1, h2, hu => by
    rw [l_Num_makePrimitive_33, n0]
    by_cases hk9 : k = 9
    · subst hk9
      refine wq_ip (by decide) (hk u (fun j hj => ?_))
      rw [hu j hj, if_pos hj]
    · have c0 : ¬ nI 9 ≤ nI k := nI_ge (by omega) (by omega)
      have mk : rr_n (nI k) = k := n_nI (by omega)
      have hc0 : ¬ c = 0 := fun hh => by rw [hh, show (0 : Int64).toInt = 0 from rfl] at hc; omega
      dsimp only [rr_lt]
      rw [if_neg c0, mk, if_neg hc0, mw_gsk, mw_ms, nI_1]
      refine wq_ip (ix_nI (by omega) (by omega)) (wq_ip (ix_nI (by omega) (by omega)) (mpr_b n0 hc hs hdv hsz hk fl (k + 1) _ (by omega) (by omega) (fun j hj => ?_)))
      by_cases hjk : j = k
      · subst hjk
        have huj := hu j hj
        rw [if_neg (by omega)] at huj
        have hb := hsz j
        rw [upL_s, if_pos (by omega), Jvm.Kit.i64_div (by rw [huj]; omega), huj, hc]
        obtain ⟨y, hy⟩ := hdv j hj
        rw [hy, Int.mul_tdiv_cancel_left _ (by omega), Int.mul_ediv_cancel_left _ (by omega)]
      · rw [upL_n hjk, hu j hj]
        by_cases hj2 : j < k
        · rw [if_pos hj2, if_pos (by omega)]
        · rw [if_neg hj2, if_neg (by omega)]
/-- the class's primitive part: the sign stays -/
theorem mpr_ok {fu B o : Nat} {σ : rr_M} {f : Pl} (hfu : 400 < fu) (n0 : nx B (B + o) = 9) (hf : ∀ j, j < 9 → (mg_l σ (B + o) j).toInt = f j) (h9 : pbd 9 f) (h0 : 0 < dln f) (hsz : ∀ k, -1099511627776 ≤ f k ∧ f k ≤ 1099511627776) :
    wq (f_Num_makePrimitive fu (nx B) (B + o) σ) (fun y => ∃ u, y.2 = mw_l σ (B + o) u ∧ ∀ j, j < 9 → (u j).toInt = (f (dgg f)).sign * ppt f j) := by
  obtain ⟨hd, h8⟩ := dln_top h9 h0
  obtain ⟨g1, g2, g3, g4, g5, g6⟩ := ppt_ok h9 h0
  have hcp := ctf_pos (n := 9) (k := dgg f) h8 hd.1
  have hs := sign_pm hd.1
  have hval : ∀ j, f j / (ctf 9 f : Int) = (f (dgg f)).sign * ppt f j := fun j => by
    have e := congrFun g3 j
    have e : (f (dgg f)).sign * (ctf 9 f : Int) * ppt f j = f j := e
    rw [← e, show (f (dgg f)).sign * (ctf 9 f : Int) * ppt f j = (f (dgg f)).sign * ppt f j * (ctf 9 f : Int) by grind, Int.mul_ediv_cancel _ (by omega)]
  unfold f_Num_makePrimitive
  refine mpr_a hfu n0 hf hsz ?_ fu 0 0 (by omega) (by omega) rfl
  intro v hv
  by_cases h1 : (1 : Int64) < v
  · rw [if_pos h1]
    have key : wq (l_Num_makePrimitive_33 fu (nx B) (B + o) v fu (nI 0) (mw_l σ (B + o) (mg_l σ (B + o))) (fun σ_11 => some ((), σ_11))) (fun y => ∃ u, y.2 = mw_l σ (B + o) u ∧ ∀ j, j < 9 → (u j).toInt = (f (dgg f)).sign * ppt f j) := by
      refine mpr_b (f := f) (s := ctf 9 f) n0 hv hcp (fun k hk => ?_) hsz ?_ fu 0 _ (by omega) (by omega) (fun j hj => by rw [if_neg (by omega)]; exact hf j hj)
      · exact dvd_nat (c := (f k).natAbs / ctf 9 f) (b := ctf 9 f) (Nat.mul_div_cancel' (ctf_dvd f 9 k hk)).symm _ (by simp)
      · intro u hu
        exact wq_some ⟨u, rfl, fun j hj => by rw [hu j hj, hval]⟩
    rw [mw_id] at key
    exact key
  · rw [if_neg h1]
    rw [Int64.lt_iff_toInt_lt, hv, show (1 : Int64).toInt = 1 from rfl] at h1
    have hc1 : ctf 9 f = 1 := by omega
    refine wq_some ⟨mg_l σ (B + o), by rw [mw_id], fun j hj => ?_⟩
    rw [hf j hj, ← hval j, hc1]
    simp
