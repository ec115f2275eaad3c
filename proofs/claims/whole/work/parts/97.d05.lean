/-! ===== the model's floors ===== -/
theorem smi_smn {g : Nat → Int} {f : Nat → Nat} : ∀ n, (∀ k, k < n → g k = (f k : Int)) → smi n g = (smn n f : Int)
  | 0, _ => rfl
  | n + 1, h => by
    show smi n g + g n = ((smn n f + f n : Nat) : Int)
    rw [smi_smn n (fun k hk => h k (by omega)), h n (by omega)]
    omega
theorem TN_TT {P : Pl} (hP : pok P) (hd : 0 < dgg P) (x : Rat) : (TN P x : Int) = TT P x ∧ (ZN P x : Int) = ZZ P x ∧ ZN P x ≤ TN P x := by
  have e : DP P = dep P := if_pos hd
  have a : TT P x = (TN P x : Int) := by
    unfold TT TN
    rw [e]
    exact smi_smn _ (fun k hk => by have := cn_rg hP hd hk x; omega)
  have b : ZZ P x = (ZN P x : Int) := by
    unfold ZZ ZN
    rw [e]
    exact smi_smn _ (fun k hk => by have := zz_cn hP hd hk x; omega)
  have c : ZZ P x ≤ TT P x := smi_le (fun k hk => (zz_cn hP hd hk x).2.2)
  omega
noncomputable def bN (P : Pl) (x : Rat) : Nat := TN P x - ZN P x
theorem NR_RT {P : Pl} (hP : pok P) (hd : 0 < dgg P) : (NR P : Int) = RT P := by
  have e : DP P = dep P := if_pos hd
  unfold NR RT
  rw [e]
  exact (smi_smn _ (fun k hk => by have := cn_rg hP hd hk 0; unfold rn; omega)).symm
/-- so many unlike roots are below -/
noncomputable def b0 (P : Pl) (x : Rat) : Int := cn P 0 x - zz P 0 x
theorem b0_mono {P : Pl} (hP : pok P) (hd : 0 < dgg P) {x y : Rat} (h : x ≤ y) : b0 P x ≤ b0 P y := by
  have hdp := dep_pos hP hd
  by_cases he : x = y
  · subst he; exact Int.le_refl _
  · have := cn_lt hP hd hdp (show x < y by grind)
    have := zz_cn hP hd hdp x
    unfold b0
    omega
theorem b0_rg {P : Pl} (hP : pok P) (hd : 0 < dgg P) (x : Rat) : 0 ≤ b0 P x ∧ b0 P x ≤ rl P 0 := by
  have hdp := dep_pos hP hd
  have a := zz_cn hP hd hdp x
  have b := cn_rg hP hd hdp x
  unfold b0
  omega
noncomputable def mN (P : Pl) (i : Nat) : Nat := (mu P i).toNat
theorem bN_sum {P : Pl} (hP : pok P) (hd : 0 < dgg P) (x : Rat) : bN P x = smn (b0 P x).toNat (mN P) := by
  obtain ⟨a, b, c⟩ := TN_TT hP hd x
  have s := BB_sum hP hd x
  have rg := b0_rg hP hd x
  have e : smi (cn P 0 x - zz P 0 x).toNat (mu P) = (smn (b0 P x).toNat (mN P) : Int) := smi_smn _ (fun k hk => by
    have := mu_pos hP hd (i := k) (by unfold b0 at rg; omega)
    unfold mN
    omega)
  unfold bN
  omega
theorem TN_sum {P : Pl} (hP : pok P) (hd : 0 < dgg P) (x : Rat) : TN P x = smn (cn P 0 x).toNat (mN P) := by
  obtain ⟨a, b, c⟩ := TN_TT hP hd x
  have s := TT_sum hP hd x
  have rg := cn_rg hP hd (dep_pos hP hd) x
  have e : smi (cn P 0 x).toNat (mu P) = (smn (cn P 0 x).toNat (mN P) : Int) := smi_smn _ (fun k hk => by
    have := mu_pos hP hd (i := k) (by omega)
    unfold mN
    omega)
  omega
theorem NR_sum {P : Pl} (hP : pok P) (hd : 0 < dgg P) : NR P = smn (rn P 0) (mN P) := by
  have a := NR_RT hP hd
  have s := RT_sum hP hd
  have d := rl_0 hP hd
  have e : smi (rl P 0).toNat (mu P) = (smn (rl P 0).toNat (mN P) : Int) := smi_smn _ (fun k hk => by
    have := mu_pos hP hd (i := k) (by omega)
    unfold mN
    omega)
  have : (rl P 0).toNat = rn P 0 := rfl
  rw [this] at e s
  omega
theorem bN_mono {P : Pl} (hP : pok P) (hd : 0 < dgg P) {x y : Rat} (h : x ≤ y) : bN P x ≤ bN P y := by
  rw [bN_sum hP hd, bN_sum hP hd]
  have := b0_mono hP hd h
  exact smn_mono _ _ (by omega)
theorem bN_r {P : Pl} (hP : pok P) (hd : 0 < dgg P) {x : Rat} (hx : 100000002 ≤ x) : bN P x = NR P := by
  have hdp := dep_pos hP hd
  have a := cn_r hP hd hdp (show (100000001 : Rat) ≤ 100000001 from Rat.le_refl)
  have b := cn_r hP hd hdp (show (100000001 : Rat) ≤ x by grind)
  have c := cn_lt hP hd hdp (show (100000001 : Rat) < x by grind)
  have d := zz_cn hP hd hdp x
  have e := rl_0 hP hd
  rw [bN_sum hP hd, NR_sum hP hd]
  congr 1
  unfold b0
  omega
theorem bN_l {P : Pl} (hP : pok P) (hd : 0 < dgg P) {x : Rat} (hx : x ≤ -100000001) : bN P x = 0 := by
  have hdp := dep_pos hP hd
  have b := cn_l hP hd hdp hx
  have d := zz_cn hP hd hdp x
  rw [bN_sum hP hd, show (b0 P x).toNat = 0 by unfold b0; omega]
  rfl
theorem NR_d {P : Pl} {k : Nat} (h : k < NR P) : 0 < dgg P := by
  apply Nat.pos_of_ne_zero
  intro hh
  unfold NR DP at h
  rw [if_neg (by omega)] at h
  exact absurd h (by show ¬ k < 0; omega)
/-- the greatest whole number that is not above root k times 2^s -/
def isF (P : Pl) (k s : Nat) (F : Int) : Prop := bN P ((F : Rat) / (2 : Rat) ^ s) ≤ k ∧ k < bN P (((F + 1 : Int) : Rat) / (2 : Rat) ^ s)
theorem isF_u {P : Pl} (hP : pok P) (hd : 0 < dgg P) {k s : Nat} {F G : Int} (h : isF P k s F) (h' : isF P k s G) : F = G := by
  have key : ∀ {F G : Int}, isF P k s F → isF P k s G → ¬ F < G := fun {F G} h h' hlt => by
    have := bN_mono hP hd (gr_le (X := F + 1) (Y := G) s (by omega))
    have := h.2
    have := h'.1
    omega
  have := key h h'
  have := key h' h
  omega
theorem jdiv2 {a b : Int64} (h1 : -1099511627776 ≤ a.toInt) (h2 : a.toInt + 1 < b.toInt) (h3 : b.toInt ≤ 1099511627776) : a.toInt < ((a + b) / 2).toInt ∧ ((a + b) / 2).toInt < b.toInt ∧ 2 * (((a + b) / 2).toInt - a.toInt) ≤ b.toInt - a.toInt + 1 ∧ 2 * (b.toInt - ((a + b) / 2).toInt) ≤ b.toInt - a.toInt + 1 := by
  have e : ((a + b) / 2).toInt = (a.toInt + b.toInt).tdiv 2 := by
    rw [Jvm.Kit.i64_div (by intro h; exact absurd h.2 (by decide)), j_add (by omega) (by omega)]
    rfl
  rw [e]
  rcases Int.le_total 0 (a.toInt + b.toInt) with q | q
  · rw [Int.tdiv_eq_ediv_of_nonneg q]
    omega
  · have : (a.toInt + b.toInt).tdiv 2 = -((-(a.toInt + b.toInt)) / 2) := by
      rw [← Int.tdiv_eq_ediv_of_nonneg (by omega), Int.neg_tdiv, Int.neg_neg]
    rw [this]
    omega
theorem flo_l {fu C k s : Nat} {σ0 : rr_M} {P : Pl} (hfu : 70000 < fu) (hP : pok P) (hk8 : k < NR P) (hs : s ≤ 12) {Q : Int64 × rr_M → Prop} (hk : ∀ (v : Int64) σ Y, lyd C (DP P) σ Y P → frm C σ0 σ → -1099511627776 ≤ v.toInt → v.toInt ≤ 1099511627776 → isF P k s v.toInt → Q (v, σ)) :
    ∀ (fl d : Nat) (a b : Int64) (σ : rr_M) (Y : Nat → Int), d < fl → b.toInt - a.toInt ≤ 2 ^ d → a.toInt < b.toInt → -1099511627776 ≤ a.toInt → b.toInt ≤ 1099511627776 → bN P ((a.toInt : Rat) / (2 : Rat) ^ s) ≤ k → k < bN P ((b.toInt : Rat) / (2 : Rat) ^ s) → lyd C (DP P) σ Y P → frm C σ0 σ → wq (l_Mod_floorOf_16 fu (nm C) C (nI k) (nI s) fl a b σ (fun v σ => some (v, σ))) Q
  | 0, d, a, b, σ, Y, h1, _, _, _, _, _, _, _, _ => by omega
  | fl + 1, d, a, b, σ, Y, h1, hw, hab, ha, hb, ba, bb, hV, hF => by
    have nr := (NR_le hP).1
    rw [l_Mod_floorOf_16]
    have hsub : (b - a).toInt = b.toInt - a.toInt := j_sub (by omega) (by omega)
    by_cases hle : b.toInt - a.toInt ≤ 1
    · refine wq_ip (by rw [Int64.le_iff_toInt_le, hsub]; exact hle) (wq_some (hk a σ Y hV hF ha (by omega) ⟨ba, ?_⟩))
      rw [show a.toInt + 1 = b.toInt by omega]
      exact bb
    refine wq_in (by rw [Int64.le_iff_toInt_le, hsub]; exact hle) ?_
    dsimp only [rr_lt]
    obtain ⟨m, hm⟩ : ∃ m, m = (a + b) / 2 := ⟨_, rfl⟩
    obtain ⟨t1, t2, t3, t4⟩ := jdiv2 ha (by omega) hb
    rw [← hm] at t1 t2 t3 t4 ⊢
    have hd0 : d ≠ 0 := fun h => by
      subst h
      have : (2 : Int) ^ 0 = 1 := rfl
      omega
    obtain ⟨d', rfl⟩ : ∃ d', d = d' + 1 := ⟨d - 1, by omega⟩
    rw [Int.pow_succ] at hw
    refine wq_bd (wq_mo (bel_ok hfu hP hV (by omega) (by omega)) ?_)
    rintro ⟨r, σ1⟩ ⟨e1, F1, Y1, V1⟩
    dsimp only at e1 F1 V1 ⊢
    have tl := TN_le hP ((m.toInt : Rat) / (2 : Rat) ^ s) (DP P) (Nat.le_refl _)
    have e1 : r = nI (bN P ((m.toInt : Rat) / (2 : Rat) ^ s)) := e1
    have bl : bN P ((m.toInt : Rat) / (2 : Rat) ^ s) ≤ 72 := by
      have : bN P ((m.toInt : Rat) / (2 : Rat) ^ s) ≤ TN P ((m.toInt : Rat) / (2 : Rat) ^ s) := Nat.sub_le _ _
      have : TN P ((m.toInt : Rat) / (2 : Rat) ^ s) ≤ 72 := tl
      omega
    refine wq_j2 (fun a' b' => b'.toInt - a'.toInt ≤ 2 ^ d' ∧ a'.toInt < b'.toInt ∧ -1099511627776 ≤ a'.toInt ∧ b'.toInt ≤ 1099511627776 ∧ bN P ((a'.toInt : Rat) / (2 : Rat) ^ s) ≤ k ∧ k < bN P ((b'.toInt : Rat) / (2 : Rat) ^ s)) ?_ ?_
    · intro k' hk'
      rw [e1]
      by_cases hu : k < bN P ((m.toInt : Rat) / (2 : Rat) ^ s)
      · exact wq_ip (nI_lt hu (by omega)) (hk' _ _ ⟨by omega, by omega, by omega, by omega, ba, hu⟩)
      · exact wq_in (nI_nlt (by omega) (by omega)) (hk' _ _ ⟨by omega, by omega, by omega, by omega, by omega, bb⟩)
    · rintro a' b' ⟨q1, q2, q3, q4, q5, q6⟩
      exact flo_l hfu hP hk8 hs hk fl d' a' b' σ1 Y1 (by omega) q1 q2 q3 q4 q5 q6 V1 (frm_tr hF F1)
theorem sh28 : ∀ s, s < 13 → ((1 : Int64) <<< ((28 + nI s).toInt64 &&& 63)).toInt = 2 ^ (28 + s) ∧ (-((1 : Int64) <<< ((28 + nI s).toInt64 &&& 63))).toInt = -(2 ^ (28 + s)) := by decide +kernel
theorem gr_28 (s : Nat) : (((2 : Int) ^ (28 + s) : Int) : Rat) / (2 : Rat) ^ s = 268435456 ∧ ((-((2 : Int) ^ (28 + s)) : Int) : Rat) / (2 : Rat) ^ s = -268435456 := by
  have hp : (2 : Rat) ^ s ≠ 0 := by have : (0 : Rat) < (2 : Rat) ^ s := Rat.pow_pos (by decide); grind
  have e : (((2 : Int) ^ (28 + s) : Int) : Rat) = 268435456 * (2 : Rat) ^ s := by
    rw [Rat.intCast_pow, rpw_add]
    congr 1
  constructor
  · rw [e, Rat.mul_div_cancel hp]
  · rw [Rat.intCast_neg, e, show -(268435456 * (2 : Rat) ^ s) = (-268435456) * (2 : Rat) ^ s by grind, Rat.mul_div_cancel hp]
theorem flo_ok {fu C k s : Nat} {σ : rr_M} {Y : Nat → Int} {P : Pl} (hfu : 70000 < fu) (hP : pok P) (h : lyd C (DP P) σ Y P) (hk8 : k < NR P) (hs : s ≤ 12) :
    wq (f_Mod_floorOf fu (nm C) C (nI k) (nI s) σ) (fun r => isF P k s r.1.toInt ∧ -1099511627776 ≤ r.1.toInt ∧ r.1.toInt ≤ 1099511627776 ∧ frm C σ r.2 ∧ ∃ Y', lyd C (DP P) r.2 Y' P) := by
  have hd := NR_d hk8
  obtain ⟨t1, t2⟩ := sh28 s (by omega)
  obtain ⟨g1, g2⟩ := gr_28 s
  have b1 : (2 : Int) ^ (28 + s) ≤ 1099511627776 := by
    have := pw_mono (b := 2) (by decide) (show 28 + s ≤ 40 by omega)
    have e : (2 : Int) ^ 40 = 1099511627776 := by decide
    omega
  have b0 : (0 : Int) < 2 ^ (28 + s) := Int.pow_pos (by decide)
  have e41 : (2 : Int) ^ 41 = 2199023255552 := by decide
  unfold f_Mod_floorOf
  dsimp only [rr_lt]
  refine flo_l (σ0 := σ) hfu hP hk8 hs (fun v σ' Y' q1 q2 q3 q4 q5 => ⟨q5, q3, q4, q2, Y', q1⟩) fu 41 _ _ σ Y (by omega) (by rw [t1, t2]; omega) (by rw [t1, t2]; omega) (by rw [t2]; omega) (by rw [t1]; omega) ?_ ?_ h (frm_rfl _ _)
  · rw [t2, g2, bN_l hP hd (by decide +kernel)]
    exact Nat.zero_le _
  · rw [t1, g1, bN_r hP hd (by decide +kernel)]
    exact hk8
