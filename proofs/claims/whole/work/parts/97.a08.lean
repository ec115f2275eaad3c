/-! ===== counting the roots of a level up to a place ===== -/
noncomputable def HL (P : Pl) (l : Nat) : Pl := hl (FF P) (ML P) l
noncomputable def MH (P : Pl) (l : Nat) : Nat := Mn (HL P l) (der (HL P l))
noncomputable def VV (P : Pl) (l : Nat) (x : Rat) : Nat := vcs (cc (HL P l) (der (HL P l))) (MH P l - 1) x
noncomputable def hL (P : Pl) (l : Nat) : Nat := chL (HL P l) (der (HL P l)) (MH P l - 1)
noncomputable def hR (P : Pl) (l : Nat) : Nat := chR (HL P l) (der (HL P l)) (MH P l - 1)
/-- how many roots of level l are not above x -/
noncomputable def cn (P : Pl) (l : Nat) (x : Rat) : Int := (hL P l : Int) - VV P l x
noncomputable def rl (P : Pl) (l : Nat) : Int := (hL P l : Int) - hR P l
theorem dg_dln {P : Pl} (hd : 0 < dgg P) : 0 < dln P := by unfold dgg at hd; omega
theorem HL_ok {P : Pl} {l : Nat} (hP : pok P) (hd : 0 < dgg P) (h : l < dep P) : dvs P (HL P l) ∧ 0 < dgg (HL P l) ∧ (∃ s, gdp (HL P l) (der (HL P l)) s) ∧ ends (HL P l) (der (HL P l)) (MH P l) ∧ FF P l = pmu (FF P (l + 1)) (HL P l) ∧ dgr (HL P l) (dgg (HL P l)) ∧ dgg (FF P l) = dgg (FF P (l + 1)) + dgg (HL P l) := by
  have h0 := dg_dln hd
  have H := lvs_P hP hd
  obtain ⟨a1, a2, a3, a4, a5, a6⟩ := hl_ok H h
  obtain ⟨i1, i2, i3, i4⟩ := dep_ok hP h0
  have dl := i4 l (by omega)
  have dl1 := i4 (l + 1) (by omega)
  have zl := dvs_nz h0 hP.1 dl
  have zl1 := dvs_nz h0 hP.1 dl1
  have hz : HL P l ≠ pz := fun hh => by
    have a2 : FF P l = pmu (FF P (l + 1)) (HL P l) := a2
    rw [hh, pmu_comm, pmu_z] at a2
    exact dln_nz dl.1 zl a2
  have a1 : fin (HL P l) := a1
  obtain ⟨e, he⟩ := fin_top a1 hz
  have hdd := dgr_pmu (dln_top dl1.1 zl1).1 he
  have a2 : FF P l = pmu (FF P (l + 1)) (HL P l) := a2
  rw [← a2] at hdd
  have hde := dgr_un (dln_top dl.1 zl).1 hdd
  have hlt := (FF_s hP h0 dl (i1 l h)).2.2.2
  have h8 := dgg_lt (FF P l)
  have h9 : pbd 9 (HL P l) := fun k hk => he.2 k (by omega)
  have hee : dgg (HL P l) = e := by
    have := dln_dgr he (by omega)
    unfold dgg; rw [this]; omega
  have hv : dvs P (HL P l) := dvs_tr h0 hP.1 dl (by rw [pmu_comm]; exact a2) h9 ⟨9, dl1.1⟩
  have hg := dvs_gdp hP h0 hv (by omega)
  obtain ⟨s, hs⟩ := hg
  exact ⟨hv, by omega, ⟨s, hs⟩, Mn_ok hs, a2, by rw [hee]; exact he, by omega⟩
theorem HL_fin {P : Pl} {l : Nat} (hP : pok P) (hd : 0 < dgg P) (h : l < dep P) : fin (HL P l) := ⟨9, (HL_ok hP hd h).1.1⟩
theorem HL_cpr {P : Pl} {l : Nat} (hP : pok P) (hd : 0 < dgg P) (h : l < dep P) : cpr (HL P l) (der (HL P l)) ∧ ∀ M, 0 ≤ M → drc M (HL P l) (der (HL P l)) :=
  ⟨(lvs_B (lvs_P hP hd) h).1, (lvs_B (lvs_P hP hd) h).2.2⟩
theorem HL_stv {P : Pl} {l : Nat} (hP : pok P) (hd : 0 < dgg P) (h : l < dep P) : stv (HL P l) (VV P l) := by
  obtain ⟨a, b, ⟨s, c⟩, d, _⟩ := HL_ok hP hd h
  exact (own_stv c d (HL_cpr hP hd h).1).2.2
theorem cn_mono {P : Pl} {l : Nat} (hP : pok P) (hd : 0 < dgg P) (h : l < dep P) {x y : Rat} (hxy : x ≤ y) : cn P l x ≤ cn P l y := by
  have := stv_mono (HL_stv hP hd h) hxy
  unfold cn
  omega
/-- a level deeper there are no more -/
theorem cn_two {P : Pl} {l : Nat} (hP : pok P) (hd : 0 < dgg P) (h : l + 1 < dep P) {x y : Rat} (hxy : x ≤ y) : cn P (l + 1) y - cn P (l + 1) x ≤ cn P l y - cn P l x := by
  have := stv_two (HL_stv hP hd (show l < dep P by omega)) (HL_stv hP hd h) (fun M hM => lvs_jmp (lvs_P hP hd) h hM) hxy
  have m1 := cn_mono hP hd h hxy
  unfold cn at *
  omega
theorem cn_eq {P : Pl} (hP : pok P) (hd : 0 < dgg P) {x y : Rat} (hxy : x ≤ y) (h0 : cn P 0 x = cn P 0 y) : ∀ l, l < dep P → cn P l x = cn P l y
  | 0, _ => h0
  | l + 1, h => by
    have ih := cn_eq hP hd hxy h0 l (by omega)
    have := cn_two hP hd h hxy
    have := cn_mono hP hd h hxy
    omega
theorem cn_le1 {P : Pl} (hP : pok P) (hd : 0 < dgg P) {x y : Rat} (hxy : x ≤ y) : ∀ l, l < dep P → cn P l y - cn P l x ≤ cn P 0 y - cn P 0 x
  | 0, _ => Int.le_refl _
  | l + 1, h => by
    have ih := cn_le1 hP hd hxy l (by omega)
    have := cn_two hP hd h hxy
    omega
theorem P_far {P : Pl} (hP : pok P) (hd : 0 < dgg P) {x : Rat} (hx : 100000001 ≤ x ∨ x ≤ -100000001) : ¬ inM (1 / 2) (vl P x) := by
  have h0 := dg_dln hd
  obtain ⟨t, _⟩ := dln_top hP.1 h0
  have e : (((100000000 : Int) : Rat) + 1) = 100000001 := by rw [Rat.intCast_ofNat]; grind
  intro hh
  unfold inM at hh
  rcases hx with hx | hx
  · have := (far_r t (A := 100000000) (by decide) (fun k _ => hP.2 k) (x := x) (by rw [e]; exact hx)).2
    rcases (isg_mul _ t.1).2 with z | z
    · rw [z, show (((1 : Int) : Rat)) = 1 from rfl] at this; grind
    · rw [z, show (((-1 : Int) : Rat)) = -1 from rfl] at this; grind
  · have := (far_l t (A := 100000000) (by decide) (fun k _ => hP.2 k) (x := x) (by rw [e]; exact hx)).2
    have z : alt (dgg P) * isg (P (dgg P)) = 1 ∨ alt (dgg P) * isg (P (dgg P)) = -1 := by
      rcases (isg_mul _ t.1).2 with h5 | h5 <;> rcases alt_c (dgg P) with h6 | h6 <;> rw [h5, h6] <;> simp
    rcases z with z | z
    · rw [z, show (((1 : Int) : Rat)) = 1 from rfl] at this; grind
    · rw [z, show (((-1 : Int) : Rat)) = -1 from rfl] at this; grind
theorem vv_far {P : Pl} {l : Nat} (hP : pok P) (hd : 0 < dgg P) (h : l < dep P) {x y : Rat} (hxy : x < y) (hz : ∀ z, x ≤ z → z ≤ y → 100000001 ≤ z ∨ z ≤ -100000001) : VV P l x = VV P l y := by
  obtain ⟨⟨h9, A, n, e, hA⟩, _⟩ := HL_ok hP hd h
  refine stv_none (HL_stv hP hd h) (HL_fin hP hd h) (c := A) ⟨n + 1, hA.2⟩ (D := 1 / 2) (by grind) hxy (fun z a b => ?_)
  have := P_far hP hd (hz z a b)
  rw [Rat.mul_comm, ← vl_pmu ⟨n + 1, hA.2⟩ ⟨9, h9⟩, ← e]
  exact this
theorem cn_r {P : Pl} {l : Nat} (hP : pok P) (hd : 0 < dgg P) (h : l < dep P) {x : Rat} (hx : 100000001 ≤ x) : cn P l x = rl P l := by
  obtain ⟨a, b, ⟨s, c⟩, d, _⟩ := HL_ok hP hd h
  obtain ⟨A, hA, r1, l1⟩ := far_cn c d
  have hA' : (0 : Rat) ≤ (A : Rat) := by exact_mod_cast hA
  have h1 := r1 (x + (A + 1)) (by grind)
  have h2 := vv_far hP hd h (x := x) (y := x + (A + 1)) (by grind) (fun z a b => Or.inl (by grind))
  have h1 : VV P l (x + (A + 1)) = hR P l := h1
  unfold cn rl
  rw [h2, h1]
theorem cn_l {P : Pl} {l : Nat} (hP : pok P) (hd : 0 < dgg P) (h : l < dep P) {x : Rat} (hx : x ≤ -100000001) : cn P l x = 0 := by
  obtain ⟨a, b, ⟨s, c⟩, d, _⟩ := HL_ok hP hd h
  obtain ⟨A, hA, r1, l1⟩ := far_cn c d
  have hA' : (0 : Rat) ≤ (A : Rat) := by exact_mod_cast hA
  have h1 := l1 (x - (A + 1)) (by grind)
  have h2 := vv_far hP hd h (x := x - (A + 1)) (y := x) (by grind) (fun z a b => Or.inr (by grind))
  have h1 : VV P l (x - (A + 1)) = hL P l := h1
  unfold cn
  rw [← h2, h1]
  omega
theorem cn_rg {P : Pl} {l : Nat} (hP : pok P) (hd : 0 < dgg P) (h : l < dep P) (x : Rat) : 0 ≤ cn P l x ∧ cn P l x ≤ rl P l := by
  constructor
  · rcases Rat.le_total (a := x) (b := -100000001) with hx | hx
    · rw [cn_l hP hd h hx]; exact Int.le_refl _
    · have := cn_mono hP hd h hx
      rw [cn_l hP hd h (Rat.le_refl)] at this
      exact this
  · rcases Rat.le_total (a := (100000001 : Rat)) (b := x) with hx | hx
    · rw [cn_r hP hd h hx]; exact Int.le_refl _
    · have := cn_mono hP hd h hx
      rw [cn_r hP hd h (Rat.le_refl)] at this
      exact this
theorem cn_zero {P : Pl} {l : Nat} (hP : pok P) (hd : 0 < dgg P) (h : l < dep P) {x y : Rat} (hxy : x < y) (h0 : vl (HL P l) y = 0) : cn P l x + 1 ≤ cn P l y := by
  have fh := HL_fin hP hd h
  obtain ⟨c1, c2⟩ := HL_cpr hP hd h
  have := stv_zero (HL_stv hP hd h) fh (fin_der fh) c1 c2 hxy h0
  unfold cn
  omega
noncomputable def zz (P : Pl) (l : Nat) (x : Rat) : Int := if sgq (vl (HL P l) x) = 0 then 1 else 0
theorem cn_left1 {P : Pl} {l : Nat} (hP : pok P) (hd : 0 < dgg P) (h : l < dep P) (x : Rat) : ∃ ε : Rat, 0 < ε ∧ ∀ y, y < x → x - y ≤ ε → cn P l y = cn P l x - zz P l x := by
  obtain ⟨M, hM, hx, hx1⟩ := inM_two x (x - 1)
  obtain ⟨ε, he, hn⟩ := HL_stv hP hd h M hM
  obtain ⟨L, hL, hlip⟩ := vl_lip (HL_fin hP hd h) hM
  have key : ∀ (ε' : Rat), 0 < ε' → (∀ y, y < x → x - y ≤ ε' → sgq (vl (HL P l) x) ≠ 0 → sgq (vl (HL P l) y) = sgq (vl (HL P l) x)) → ∃ ε : Rat, 0 < ε ∧ ∀ y, y < x → x - y ≤ ε → cn P l y = cn P l x - zz P l x := by
    intro ε' he' hs
    obtain ⟨e3, q1, q2, q3, q4⟩ : ∃ e3 : Rat, 0 < e3 ∧ e3 ≤ ε ∧ e3 ≤ ε' ∧ e3 ≤ 1 := by
      rcases Rat.le_total (a := ε) (b := ε') with a | a <;> rcases Rat.le_total (a := ε) (b := 1) with b | b <;> rcases Rat.le_total (a := ε') (b := 1) with c | c
      · exact ⟨ε, he, by grind, by grind, by grind⟩
      · exact ⟨ε, he, by grind, by grind, by grind⟩
      · exact ⟨1, by decide, by grind, by grind, by grind⟩
      · exact ⟨1, by decide, by grind, by grind, by grind⟩
      · exact ⟨ε', he', by grind, by grind, by grind⟩
      · exact ⟨1, by decide, by grind, by grind, by grind⟩
      · exact ⟨ε', he', by grind, by grind, by grind⟩
      · exact ⟨1, by decide, by grind, by grind, by grind⟩
    refine ⟨e3, q1, fun y hy hxy => ?_⟩
    have hyM : inM M y := by unfold inM at *; grind
    have h1 := hn y x hyM hx hy (by grind)
    unfold zz
    by_cases h0 : sgq (vl (HL P l) x) = 0
    · have h2 := cn_zero hP hd h hy (sgq_0.mp h0)
      rw [if_pos h0]
      have := jmp_le (HL P l) y x
      unfold cn at *
      omega
    · rw [if_neg h0]
      have h3 := hs y hy (by grind) h0
      have : jmp (HL P l) y x = 0 := by
        unfold jmp
        rw [if_neg (fun hh => hh.2 h3)]
      unfold cn
      omega
  by_cases h0 : vl (HL P l) x = 0
  · exact key 1 (by decide) (fun y _ _ hh => absurd (sgq_0.mpr h0) hh)
  · -- the value's size
    obtain ⟨a, ha, hav⟩ : ∃ a : Rat, 0 < a ∧ ¬ inM a (vl (HL P l) x) := by
      refine ⟨(if vl (HL P l) x < 0 then - vl (HL P l) x else vl (HL P l) x) / 2, ?_, ?_⟩
      · split <;> grind
      · unfold inM
        split <;> grind
    obtain ⟨e1, p1, p2⟩ := small_e hL ha
    obtain ⟨e2, r1, r2, r3⟩ : ∃ e2 : Rat, 0 < e2 ∧ e2 ≤ e1 ∧ e2 ≤ 1 := by
      rcases Rat.le_total (a := e1) (b := 1) with a | a
      · exact ⟨e1, p1, by grind, a⟩
      · exact ⟨1, by decide, a, by grind⟩
    refine key e2 r1 (fun y hy hxy hh => ?_)
    have hyM : inM M y := by unfold inM at *; grind
    have h1 := hlip y x hyM hx (by grind)
    have h2 : L * (x - y) ≤ L * e1 := Rat.mul_le_mul_of_nonneg_left (by grind) hL
    have h3 : inM a (vl (HL P l) x - vl (HL P l) y) := inM_le h1 (by grind)
    unfold inM at *
    rcases sgq_t (vl (HL P l) x) with ⟨u, v⟩ | ⟨u, v⟩ | ⟨u, v⟩
    · rw [u]; exact sgq_m.mpr (by grind)
    · exact absurd u hh
    · rw [u]; exact sgq_1.mpr (by grind)
theorem cn_left {P : Pl} (hP : pok P) (hd : 0 < dgg P) (x : Rat) : ∀ n, n ≤ dep P → ∃ ε : Rat, 0 < ε ∧ ∀ y, y < x → x - y ≤ ε → ∀ l, l < n → cn P l y = cn P l x - zz P l x
  | 0, _ => ⟨1, by decide, fun y _ _ l hl => by omega⟩
  | n + 1, hn => by
    obtain ⟨ε, he, h⟩ := cn_left hP hd x n (by omega)
    obtain ⟨ε', he', h'⟩ := cn_left1 hP hd (show n < dep P by omega) x
    rcases Rat.le_total (a := ε) (b := ε') with a | a
    · refine ⟨ε, he, fun y hy hxy l hl => ?_⟩
      by_cases hln : l = n
      · subst hln; exact h' y hy (by grind)
      · exact h y hy hxy l (by omega)
    · refine ⟨ε', he', fun y hy hxy l hl => ?_⟩
      by_cases hln : l = n
      · subst hln; exact h' y hy hxy
      · exact h y hy (by grind) l (by omega)
/-- what is below a place -/
theorem cn_lt {P : Pl} {l : Nat} (hP : pok P) (hd : 0 < dgg P) (h : l < dep P) {x y : Rat} (hxy : x < y) : cn P l x ≤ cn P l y - zz P l y := by
  unfold zz
  by_cases h0 : sgq (vl (HL P l) y) = 0
  · rw [if_pos h0]
    have := cn_zero hP hd h hxy (sgq_0.mp h0)
    omega
  · rw [if_neg h0]
    have := cn_mono hP hd h (show x ≤ y by grind)
    omega
/-- the sign of h where it isn't 0, by the roots above -/
theorem cn_sgn {P : Pl} {l : Nat} (hP : pok P) (hd : 0 < dgg P) (h : l < dep P) (x : Rat) : rsg (HL P l) (der (HL P l)) x = (-1) ^ (rl P l - cn P l x).toNat * (HL P l (dgg (HL P l))).sign := by
  obtain ⟨a, b, ⟨s, c⟩, d, _, hdg, _⟩ := HL_ok hP hd h
  have fh := HL_fin hP hd h
  obtain ⟨c1, c2⟩ := HL_cpr hP hd h
  have hgl : ∀ k, k < dgg (HL P l) → -(2 ^ 600 : Int) ≤ HL P l k ∧ HL P l k ≤ (2 ^ 600 : Int) := fun k _ => by
    have := szb_mono (gdp_0 c k) (show s ≤ 600 by have := c.2.2.2.2.2.2.2.2.2; omega)
    unfold szb at this
    have e : ((2 ^ 600 : Nat) : Int) = 2 ^ 600 := by simp
    omega
  obtain ⟨E, hE⟩ : ∃ E : Int, E = 2 ^ 600 := ⟨_, rfl⟩
  rw [← hE] at hgl
  have hE0 : 0 ≤ E := by rw [hE]; decide
  have hE1 : (0 : Rat) ≤ (E : Rat) := by exact_mod_cast hE0
  obtain ⟨y, y1, y2, y3⟩ : ∃ y : Rat, x < y ∧ 100000001 ≤ y ∧ (E : Rat) + 1 ≤ y := by
    rcases Rat.le_total (a := x) (b := 0) with q | q
    · exact ⟨100000001 + E + 1, by grind, by grind, by grind⟩
    · exact ⟨x + (100000001 + E + 1), by grind, by grind, by grind⟩
  have hf := (far_r hdg hE0 hgl y3).1
  have hs := sign_pm hdg.1
  rw [isg_sign] at hf
  have hry : rsg (HL P l) (der (HL P l)) y = (HL P l (dgg (HL P l))).sign := by
    unfold rsg
    rw [if_neg (by rw [hf]; omega), hf]
  have hp := stv_par (HL_stv hP hd h) fh (fin_der fh) c1 c2 y1
  rw [hry] at hp
  have e1 := cn_r hP hd h y2
  have e2 := cn_rg hP hd h x
  have e3 : VV P l x + VV P l y = (rl P l - cn P l x).toNat + 2 * VV P l y := by
    unfold cn rl at *
    omega
  generalize (rl P l - cn P l x).toNat = k at *
  have par : ∀ k : Nat, (-1 : Int) ^ k = if k % 2 = 0 then 1 else -1 := by
    intro k
    induction k with
    | zero => rfl
    | succ k ih =>
      rw [Int.pow_succ, ih]
      by_cases hk : k % 2 = 0
      · rw [if_pos hk, if_neg (by omega)]; rfl
      · rw [if_neg hk, if_pos (by omega)]; rfl
  rw [par]
  rcases hp with ⟨p1, p2⟩ | ⟨p1, p2⟩
  · rw [if_pos (by omega), p1, Int.one_mul]
  · rw [if_neg (by omega), p1]; omega
