/-! ===== how often a root is one ===== -/
theorem rsg_sc {h d : Pl} (fh : fin h) (fd : fin d) {a : Int} (ha : a = 1 ∨ a = -1) (x : Rat) : rsg (psc a h) (psc a d) x = a * rsg h d x := by
  have e1 : sgq (vl (psc a h) x) = a * sgq (vl h x) := by
    rw [vl_psc fh, sgq_mul, sgq_int]
    rcases ha with q | q <;> rw [q] <;> rfl
  have e2 : sgq (vl (psc a d) x) = a * sgq (vl d x) := by
    rw [vl_psc fd, sgq_mul, sgq_int]
    rcases ha with q | q <;> rw [q] <;> rfl
  unfold rsg
  rw [e1, e2]
  by_cases h0 : sgq (vl h x) = 0
  · rw [if_pos h0, if_pos (by rw [h0, Int.mul_zero])]
  · rw [if_neg h0, if_neg (Int.mul_ne_zero (by omega) h0)]
/-- the right sign at the lower end against the sign at the upper end -/
theorem cel_sg {P : Pl} {l : Nat} (hP : pok P) (hd : 0 < dgg P) (h : l < dep P) {x y : Rat} (hxy : x < y) (h1 : cn P l y ≤ cn P l x + 1) :
    (sgq (vl (HL P l) y) = rsg (HL P l) (der (HL P l)) x) ↔ cn P l y = cn P l x := by
  have sx := cn_sgn hP hd h x
  have sy := cn_sgn hP hd h y
  have mo := cn_mono hP hd h (show x ≤ y by grind)
  have rgx := cn_rg hP hd h x
  have rgy := cn_rg hP hd h y
  obtain ⟨v1, v2, v3, v4, v5, v6, v7⟩ := HL_ok hP hd h
  have sp := sign_pm v6.1
  have e1 : ∀ n : Nat, ((-1 : Int)) ^ n = 1 ∨ ((-1 : Int)) ^ n = -1 := fun n => by
    rw [m1_pow]
    by_cases hh : n % 2 = 0
    · rw [if_pos hh]; exact Or.inl rfl
    · rw [if_neg hh]; exact Or.inr rfl
  rw [sx]
  by_cases h0 : sgq (vl (HL P l) y) = 0
  · have := cn_zero hP hd h hxy (sgq_0.mp h0)
    rw [h0]
    constructor
    · intro hh
      rcases e1 (rl P l - cn P l x).toNat with q | q <;> rcases sp with q' | q' <;> rw [q, q'] at hh <;> omega
    · intro hh; omega
  · unfold rsg at sy
    rw [if_neg h0] at sy
    rw [sy]
    by_cases hc : cn P l y = cn P l x
    · rw [hc]; exact ⟨fun _ => rfl, fun _ => rfl⟩
    · have hc : cn P l y = cn P l x + 1 := by omega
      have e2 : (rl P l - cn P l x).toNat = (rl P l - cn P l y).toNat + 1 := by omega
      have e3 := e1 (rl P l - cn P l y).toNat
      rw [e2, Int.pow_succ]
      generalize (-1 : Int) ^ (rl P l - cn P l y).toNat = w at *
      constructor
      · intro hh
        rcases sp with q' | q' <;> rw [q'] at hh <;> omega
      · intro hh; omega
theorem SM_szb {P : Pl} {l : Nat} (hP : pok P) (hd : 0 < dgg P) (h : l < dep P) : (∀ t, szb 600 (SM P l t)) ∧ (∀ t, szb 600 (der (SM P l) t)) := by
  obtain ⟨t1, t2, t3, t4, t5, t6, t7⟩ := SM_ok hP hd h
  have e : (2 : Nat) ^ 44 ≤ 2 ^ 600 := Nat.pow_le_pow_right (by decide) (by decide)
  have e' : (2 : Nat) ^ 44 = 17592186044416 := by decide
  refine ⟨fun t => ?_, fun t => ?_⟩
  · have := t6 t
    unfold szb
    omega
  · unfold szb
    show (((t + 1 : Nat) : Int) * SM P l (t + 1)).natAbs ≤ 2 ^ 600
    by_cases ht : t < 8
    · have := t6 (t + 1)
      rw [Int.natAbs_mul]
      have : (SM P l (t + 1)).natAbs ≤ 1099511627776 := by omega
      have := Nat.mul_le_mul (show ((t + 1 : Nat) : Int).natAbs ≤ 9 by omega) this
      omega
    · rw [t7 (t + 1) (by omega), Int.mul_zero]
      exact Nat.zero_le _
theorem soc {fu B o e : Nat} {σ : rr_M} {Z : Nat → Option Int} {P f : Pl} {y : Rat} (hfu : 400 < fu) (hP : pok P) (hd : 0 < dgg P) (h : pcx B σ Z P) (hn : nx B (B + o) = 9) (ho : isB (o - 1) = false) (hf : ∀ j, j < 9 → (mg_l σ (B + o) j).toInt = f j) (hf9 : pbd 9 f) (hA : ptA B σ Z y e) (sf : ∀ t, szb 600 (f t)) (hee : 600 + dgg f * (e + 1) ≤ 2700) :
    wq (f_Poi_signOf fu (nx B) (B + 280) (B + o) σ) (fun r => r.1.toInt = sgq (vl f y) ∧ pfx B (fun _ => False) (fun _ => False) σ r.2 ∧ ∃ Z', pcx B r.2 Z' P ∧ (∀ t, (t < 284 ∨ 304 < t) → Z' t = Z t) ∧ ptA B r.2 Z' y e) := by
  obtain ⟨a, b, hp⟩ := h.2.2.1
  refine wq_mo (sof_ok hfu h.1 h.2.1 hp hn ho hf hf9 hA sf hee) ?_
  rintro r ⟨e1, F, Z', a', b', hZ', hp', hz⟩
  have hz' : ∀ t, (t < 284 ∨ 304 < t) → Z' t = Z t := fun t ht => hz t (by omega) (by omega) (fun j hj => by unfold ld; omega)
  refine ⟨e1, frp_pfx F, Z', pcx_mv hP hd h (frp_pfx (I := fun _ => False) (L := fun _ => False) F) hZ' ⟨a', b', hp'⟩ (fun t ht => hz' t (by omega)) (hz' 339 (by omega)) (by simp) (fun _ _ h => h) (by rw [F.2.1 319 (by decide)]) (by rw [F.2.1 319 (by decide)]), hz', ?_⟩
  obtain ⟨x, s, A1, A2, A3, A4, A5⟩ := hA
  exact ⟨x, s, by rw [hz' 281 (by omega)]; exact A1, by rw [F.2.1 280 (by decide)]; exact A2, A3, A4, A5⟩
/-- the refined cell stands -/
def rcl (B f : Nat) (E : Int) (σ0 σ : rr_M) (Z : Nat → Option Int) (P : Pl) : Prop := pcx B σ Z P ∧ Z 335 = some E ∧ mg_i σ (B + 319) 14 = nI f ∧ pfx B (fun o => o = 280) (fun o => o = 330) σ0 σ
theorem inc_ok {fu B j f i : Nat} {E : Int} {σ0 σ : rr_M} {Z : Nat → Option Int} {P : Pl} (hfu : 400 < fu) (hP : pok P) (hd : 0 < dgg P) (hi : i < dep P) (hi0 : 0 < i) (hR : rcl B f E σ0 σ Z P) (hC : cel j f E P) (hs : cn P i ((E : Rat) / (2 : Rat) ^ f) ≤ cn P i (((E - 1 : Int) : Rat) / (2 : Rat) ^ f) + 1) :
    wq (f_Pla_isInCell fu (nx B) (B + 319) (B + (321 + i)) σ) (fun r => r.1 = (if cn P i ((E : Rat) / (2 : Rat) ^ f) = cn P i (((E - 1 : Int) : Rat) / (2 : Rat) ^ f) then 0 else 1) ∧ ∃ Z', rcl B f E σ0 r.2 Z' P) := by
  obtain ⟨X, hE, hf, F⟩ := hR
  obtain ⟨p0, p1, p2, p3, p4, p7, p8, p9, p10, p11, p12, p13⟩ := rx_pla
  obtain ⟨s1, s2, s3, s4, s5, s6, s7, s8⟩ := rx_sim
  obtain ⟨zE, zM⟩ := cel_sz hC
  have h8 := (dep_ok hP (dg_dln hd)).2.2.1
  have h88 := dgg_lt P
  obtain ⟨d7, d7e⟩ := HL_7 hP hd hi (Or.inl hi0)
  obtain ⟨t1, t2, t3, t4, t5, t6, t7⟩ := SM_ok hP hd hi
  obtain ⟨z1, z2⟩ := SM_szb hP hd hi
  obtain ⟨v1, v2, v3, v4, v5, v6, v7⟩ := HL_ok hP hd hi
  have nx9 : nx B (B + (321 + i)) = 9 := by rw [nx_at]; exact s2 i (by omega)
  have ib : isB (321 + i - 1) = false := isB_hi (by omega) (by omega) (by omega) (by omega)
  have c2 := hC.2.1
  unfold f_Pla_isInCell
  dsimp only [rr_lt]
  rw [X.1 319 12 (by omega), p12, X.1 319 11 (by omega), p11]
  refine md_ok hfu hP hd X hE (szb_mono zE (by omega)) (fun σ3 Z3 X3 E3 M3 O3 S3 => ?_)
  have f3 : mg_i σ3 (B + 319) 14 = nI f := by rw [S3.2.1 319 (by decide)]; exact hf
  rw [X3.1 319 2 (by omega), p2, X3.1 319 12 (by omega), p12, f3]
  refine wq_bd (wq_mo (mvt (e := 283) (o := 337) (F := f) hfu hP hd X3 (by decide) M3 (by omega) (by omega) zM (by omega)) ?_)
  rintro ⟨u4, σ4⟩ ⟨F4, Z4, X4, O4, A4⟩
  dsimp only at F4 X4 A4 ⊢
  rw [X4.1 319 2 (by omega), p2]
  refine wq_bd (wq_mo (soc (o := 321 + i) hfu hP hd X4 nx9 ib (X4.2.2.2.2.2.2.2.2.2.2 i hi) t7 A4 z1 (by omega)) ?_)
  rintro ⟨r5, σ5⟩ ⟨e5, F5, Z5, X5, O5, A5⟩
  dsimp only at e5 F5 X5 A5 ⊢
  have G5 : pfx B (fun o => o = 280) (fun o => o = 330) σ0 σ5 := pfx_tr F (pfx_tr (sbf_pfx S3) (pfx_tr (pfx_mo F4 (fun o h => h) (fun o h => h.elim)) (pfx_mo F5 (fun o h => h.elim) (fun o h => h.elim))))
  have f5 : mg_i σ5 (B + 319) 14 = nI f := by rw [F5.2.1 319 (by decide) (fun h => h), F4.2.1 319 (by decide) (by omega)]; exact f3
  have E5 : Z5 335 = some E := by rw [O5 335 (by omega), O4 335 (by omega)]; exact E3
  refine wq_j2 (fun v σ' => v.toInt = rsg (SM P i) (der (SM P i)) (((E - 1 : Int) : Rat) / (2 : Rat) ^ f) ∧ ∃ Z', rcl B f E σ0 σ' Z' P) ?_ ?_
  · intro k' hk'
    by_cases h0 : r5 = 0
    rotate_left
    · refine wq_in h0 (hk' _ _ ⟨?_, Z5, X5, E5, f5, G5⟩)
      unfold rsg
      rw [if_neg (fun hh => h0 (Int32.toInt_inj.mp (by rw [e5, hh]; rfl)))]
      exact e5
    refine wq_ip h0 ?_
    rw [X5.1 319 4 (by omega), p4]
    refine wq_bd (wq_mo (sso_ok (o := 330) (o' := 321 + i) hfu (by rw [nx_at]; exact s4) nx9 (by omega) t7 (X5.2.2.2.2.2.2.2.2.2.2 i hi) t6) ?_)
    rintro ⟨u6, σ6⟩ ⟨u, e6, hu⟩
    dsimp only at e6 ⊢
    have F6 : pfx B (fun o => o = 280) (fun o => o = 330) σ5 σ6 := by rw [e6]; exact fra_pfx (fra_mw rfl)
    have X6 : pcx B σ6 Z5 P := by
      obtain ⟨a, b, hp⟩ := X5.2.2.1
      refine pcx_mv hP hd X5 F6 (by rw [e6]; exact bgs_mw X5.2.1 (by decide)) ⟨a, b, by rw [e6]; exact hp⟩ (fun _ _ => rfl) rfl (by omega) (fun i hi => by omega) (by rw [e6]; rfl) (by rw [e6]; rfl)
    have A6 : ptA B σ6 Z5 (((E - 1 : Int) : Rat) / (2 : Rat) ^ f) 283 := by
      obtain ⟨x, s, A1, A2, A3, A4, A5⟩ := A5
      exact ⟨x, s, A1, by rw [e6]; exact A2, A3, A4, A5⟩
    rw [X6.1 319 2 (by omega), p2, X6.1 319 4 (by omega), p4]
    have dd := dgg_der t7 (show 0 < dgg (SM P i) by omega)
    have d9 : pbd 9 (der (SM P i)) := fun k hk => by
      show ((k + 1 : Nat) : Int) * SM P i (k + 1) = 0
      rw [t7 (k + 1) (by omega), Int.mul_zero]
    refine wq_bd (wq_mo (soc (o := 330) (f := der (SM P i)) hfu hP hd X6 (by rw [nx_at]; exact s4) (by decide) (fun j hj => by rw [e6, mw_gsk]; exact hu j hj) d9 A6 z2 (by omega)) ?_)
    rintro ⟨r7, σ7⟩ ⟨e7, F7, Z7, X7, O7, A7⟩
    dsimp only at e7 F7 X7 A7 ⊢
    refine hk' _ _ ⟨?_, Z7, X7, by rw [O7 335 (by omega)]; exact E5, ?_, pfx_tr G5 (pfx_tr F6 (pfx_mo F7 (fun o h => h.elim) (fun o h => h.elim)))⟩
    · unfold rsg
      rw [if_pos (by rw [← e5, h0]; rfl)]
      exact e7
    · rw [F7.2.1 319 (by decide) (fun h => h), F6.2.1 319 (by decide) (by omega)]; exact f5
  · rintro v σ8 ⟨hv, Z8, X8, E8, f8, G8⟩
    rw [X8.1 319 2 (by omega), p2, X8.1 319 11 (by omega), p11, f8]
    refine wq_bd (wq_mo (mvt (e := 283) (o := 335) (F := f) hfu hP hd X8 (by decide) E8 (by omega) (by omega) zE (by omega)) ?_)
    rintro ⟨u9, σ9⟩ ⟨F9, Z9, X9, O9, A9⟩
    dsimp only at F9 X9 A9 ⊢
    rw [X9.1 319 2 (by omega), p2]
    refine wq_bd (wq_mo (soc (o := 321 + i) hfu hP hd X9 nx9 ib (X9.2.2.2.2.2.2.2.2.2.2 i hi) t7 A9 z1 (by omega)) ?_)
    rintro ⟨r10, σ10⟩ ⟨e10, F10, Z10, X10, O10, A10⟩
    dsimp only at e10 F10 X10 A10 ⊢
    have hR10 : rcl B f E σ0 σ10 Z10 P := ⟨X10, by rw [O10 335 (by omega), O9 335 (by omega)]; exact E8, by rw [F10.2.1 319 (by decide) (fun h => h), F9.2.1 319 (by decide) (by omega)]; exact f8, pfx_tr G8 (pfx_tr (pfx_mo F9 (fun o h => h) (fun o h => h.elim)) (pfx_mo F10 (fun o h => h.elim) (fun o h => h.elim)))⟩
    have fh : fin (HL P i) := HL_fin hP hd hi
    have fd : fin (der (HL P i)) := ⟨9, fun k hk => by
      show ((k + 1 : Nat) : Int) * HL P i (k + 1) = 0
      rw [v1.1 (k + 1) (by omega), Int.mul_zero]⟩
    have he := es_pm hP hd i
    have iff1 := cel_sg hP hd hi (gr_lt (X := E - 1) (Y := E) f (by omega)) hs
    have eq1 : r10 = v ↔ cn P i ((E : Rat) / (2 : Rat) ^ f) = cn P i (((E - 1 : Int) : Rat) / (2 : Rat) ^ f) := by
      rw [← iff1, ← Int32.toInt_inj, e10, hv]
      have k1 : sgq (vl (SM P i) ((E : Rat) / (2 : Rat) ^ f)) = es P i * sgq (vl (HL P i) ((E : Rat) / (2 : Rat) ^ f)) := by
        unfold SM
        rw [vl_psc fh, sgq_mul, sgq_int]
        rcases he with q | q <;> rw [q] <;> rfl
      have k2 : rsg (SM P i) (der (SM P i)) (((E - 1 : Int) : Rat) / (2 : Rat) ^ f) = es P i * rsg (HL P i) (der (HL P i)) (((E - 1 : Int) : Rat) / (2 : Rat) ^ f) := by
        unfold SM
        rw [der_psc, rsg_sc fh fd he]
      rw [k1, k2]
      rcases he with q | q <;> rw [q] <;> constructor <;> intro hh <;> omega
    by_cases hr : r10 = v
    · refine wq_ip hr (wq_ip (by decide) (wq_some ⟨?_, Z10, hR10⟩))
      rw [if_pos (eq1.mp hr)]
    · refine wq_in hr (wq_ip (by decide) (wq_some ⟨?_, Z10, hR10⟩))
      rw [if_neg (fun hh => hr (eq1.mpr hh))]
theorem smi_rg {g : Nat → Int} : ∀ n, (∀ k, k < n → 0 ≤ g k ∧ g k ≤ 1) → 0 ≤ smi n g ∧ smi n g ≤ n
  | 0, _ => ⟨Int.le_refl _, Int.le_refl _⟩
  | n + 1, h => by
    have a := smi_rg n (fun k hk => h k (by omega))
    have b := h n (by omega)
    show 0 ≤ smi n g + g n ∧ smi n g + g n ≤ ((n + 1 : Nat) : Int)
    omega
theorem ric_l {fu B j f : Nat} {E : Int} {σ0 : rr_M} {P : Pl} (hfu : 400 < fu) (hP : pok P) (hd : 0 < dgg P) (hC : cel j f E P) (g : Nat → Int) (hg : g = fun l => cn P l ((E : Rat) / (2 : Rat) ^ f) - cn P l (((E - 1 : Int) : Rat) / (2 : Rat) ^ f)) (hg1 : ∀ l, l < dep P → 0 ≤ g l ∧ g l ≤ 1) {Q : Int32 × rr_M → Prop}
    (hk : ∀ σ Z, rcl B f E σ0 σ Z P → Q (nI (smi (dep P) g).toNat, σ)) :
    ∀ (fl k : Nat) (σ : rr_M) (Z : Nat → Option Int), 1 ≤ k → k ≤ dep P → 10 - k ≤ fl → rcl B f E σ0 σ Z P → wq (l_Pla_repeatsInCell_4 fu (nx B) (B + 319) fl (nI (smi k g).toNat) (nI k) σ (fun v1_17 σ_18 => some (v1_17, σ_18))) Q
  | 0, k, σ, Z, h0, h1, h2, _ => by
    have := (dep_ok hP (dg_dln hd)).2.2.1
    have := dgg_lt P
    omega
  | fl + 1, k, σ, Z, h0, h1, h2, hR => by
    have h8 := (dep_ok hP (dg_dln hd)).2.2.1
    have h88 := dgg_lt P
    obtain ⟨p0, p1, p2, p3, p4, p7, p8, p9, p10, p11, p12, p13⟩ := rx_pla
    obtain ⟨s1, s2, s3, s4, s5, s6, s7, s8⟩ := rx_sim
    obtain ⟨r0, r1, r3, r4, r7, n8, n7, n17, n18⟩ := rx_lvl
    have X := hR.1
    rw [l_Pla_repeatsInCell_4]
    dsimp only [rr_lt]
    rw [X.1 319 0 (by omega), p0, X.2.2.2.2.2.2.2.2.1]
    by_cases hke : k = dep P
    · subst hke
      exact wq_ip (nI_le (Nat.le_refl _) (by omega)) (wq_some (hk σ Z hR))
    have hkn : k < dep P := by omega
    have ml : rr_n (nI k) = k := n_nI (by omega)
    refine wq_in (nI_ge (by omega) (by omega)) (wq_in (show ¬ (8 : Int32) ≤ nI k from nI_ge (a := k) (b := 8) (by omega) (by omega)) ?_)
    rw [X.1 306 1 (by omega), r1, ml, X.2.2.2.2.2.2.2.2.2.1 k hkn, nI_1]
    refine wq_ip (by rw [nx_at, n17]; exact ix_nI (by omega) (by omega)) ?_
    have gk := hg1 k hkn
    have rg := smi_rg (g := g) k (fun l hl => hg1 l (by omega))
    have egk : g k = cn P k ((E : Rat) / (2 : Rat) ^ f) - cn P k (((E - 1 : Int) : Rat) / (2 : Rat) ^ f) := by rw [hg]
    have next : ∀ v σ', (v = nI (smi (k + 1) g).toNat ∧ ∃ Z', rcl B f E σ0 σ' Z' P) → wq (l_Pla_repeatsInCell_4 fu (nx B) (B + 319) fl v (nI (k + 1)) σ' (fun v1_17 σ_18 => some (v1_17, σ_18))) Q := by
      rintro v σ' ⟨hv, Z', hR'⟩
      rw [hv]
      exact ric_l hfu hP hd hC g hg hg1 hk fl (k + 1) σ' Z' (by omega) (by omega) (by omega) hR'
    have es1 : smi (k + 1) g = smi k g + g k := rfl
    refine wq_j2 (fun v σ' => v = nI (smi (k + 1) g).toNat ∧ ∃ Z', rcl B f E σ0 σ' Z' P) ?_ next
    intro k' hk'
    by_cases hr0 : rn P k = 0
    · rw [hr0, if_pos (by decide)]
      refine hk' _ _ ⟨?_, Z, hR⟩
      have q1 := cn_rg hP hd hkn ((E : Rat) / (2 : Rat) ^ f)
      have q2 := cn_rg hP hd hkn (((E - 1 : Int) : Rat) / (2 : Rat) ^ f)
      have q3 : (rl P k).toNat = 0 := hr0
      rw [es1, show g k = 0 by omega, Int.add_zero]
    have rk := rn_le hP (show k < DP P by unfold DP; rw [if_pos hd]; exact hkn)
    refine wq_in (nI_nle (by omega) (by omega)) ?_
    rw [X.1 319 3 (by omega), p3, X.1 320 k (by omega), s1 k (by omega)]
    refine wq_ip (by rw [nx_at, s3]; exact ix_nI (by omega) (by omega)) (wq_bd (wq_mo (inc_ok hfu hP hd hkn (by omega) hR hC (by omega)) ?_))
    rintro ⟨r, σ'⟩ ⟨er, Z', hR'⟩
    dsimp only at er hR' ⊢
    by_cases heq : cn P k ((E : Rat) / (2 : Rat) ^ f) = cn P k (((E - 1 : Int) : Rat) / (2 : Rat) ^ f)
    · rw [if_pos heq] at er
      refine wq_ip er (hk' _ _ ⟨?_, Z', hR'⟩)
      rw [es1, show g k = 0 by omega, Int.add_zero]
    · rw [if_neg heq] at er
      refine wq_in (by rw [er]; decide) (hk' _ _ ⟨?_, Z', hR'⟩)
      rw [nI_1, es1, show g k = 1 by omega]
      congr 1
      omega
theorem ric_ok {fu B j f : Nat} {E : Int} {σ : rr_M} {Z : Nat → Option Int} {P : Pl} (hfu : 400 < fu) (hP : pok P) (hd : 0 < dgg P) (hj : j < rn P 0) (hR : rcl B f E σ σ Z P) (hC : cel j f E P) (c1 : cn P 0 (((E - 1 : Int) : Rat) / (2 : Rat) ^ f) = j) (c2 : cn P 0 ((E : Rat) / (2 : Rat) ^ f) = (j : Int) + 1) :
    wq (f_Pla_repeatsInCell fu (nx B) (B + 319) σ) (fun r => r.1 = nI (mu P j).toNat ∧ ∃ Z', rcl B f E σ r.2 Z' P) := by
  have hdp := dep_pos hP hd
  have hle := gr_le (X := E - 1) (Y := E) f (by omega)
  obtain ⟨g, hg⟩ : ∃ g : Nat → Int, g = fun l => cn P l ((E : Rat) / (2 : Rat) ^ f) - cn P l (((E - 1 : Int) : Rat) / (2 : Rat) ^ f) := ⟨_, rfl⟩
  have hgl : ∀ l, g l = cn P l ((E : Rat) / (2 : Rat) ^ f) - cn P l (((E - 1 : Int) : Rat) / (2 : Rat) ^ f) := fun l => by rw [hg]
  have hg1 : ∀ l, l < dep P → 0 ≤ g l ∧ g l ≤ 1 := fun l hl => by
    have a := cn_mono hP hd hl hle
    have b := cn_le1 hP hd hle l hl
    rw [hgl]
    omega
  have hsum : smi (dep P) g = mu P j := by
    rw [hg, smi_sub, ← mu_eq hP hd c1 c2]
    rfl
  have one : smi 1 g = 1 := by
    show 0 + g 0 = 1
    rw [hgl 0]
    omega
  unfold f_Pla_repeatsInCell
  have key := ric_l (σ0 := σ) (Q := fun r : Int32 × rr_M => r.1 = nI (mu P j).toNat ∧ ∃ Z', rcl B f E σ r.2 Z' P) hfu hP hd hC g hg hg1 (fun σ' Z' h => ⟨by rw [hsum], Z', h⟩) fu 1 σ Z (by omega) (by omega) (by omega) hR
  rw [one] at key
  exact key
