/-! ===== unlike roots lie apart, 3: far from 0 ===== -/
theorem pw_anti {m : Rat} (h0 : 0 ≤ m) (h1 : m ≤ 1) (a : Nat) : ∀ b, m ^ (a + b) ≤ m ^ a
  | 0 => by rw [Nat.add_zero]; exact Rat.le_refl
  | b + 1 => by
    have ih := pw_anti h0 h1 a b
    rw [← Nat.add_assoc, Rat.pow_succ]
    have := Rat.mul_le_mul_of_nonneg_left h1 (pw_nn h0 (a + b))
    grind
theorem two_pw : ∀ {n : Nat}, n ≤ 7 → (2 : Rat) ^ n ≤ (2 : Rat) ^ 7 := by
  intro n hn
  rw [show 7 = n + (7 - n) by omega, rpw_add]
  have h1 := rpw1 (M := 2) (by decide) (7 - n)
  have h2 := pw_nn (m := 2) (by decide) n
  have := Rat.mul_le_mul_of_nonneg_left h1 h2
  grind
theorem sep_out {h : Pl} {s d : Nat} (hg : gdp h (der h) s) (hd : dgr h (d + 1)) (hc : cpr h (der h)) (hz : szp h d) {V : Rat → Nat} (H : stv h V) {x y m : Rat} (hxy : x < y) (hδ : (y - x) * (2 : Rat) ^ 256 ≤ 1) (hm : 1 ≤ m)
    (hin : ∀ z, x ≤ z → z ≤ y → inM (2 * m) z ∧ z ≠ 0 ∧ inM (m⁻¹) (z⁻¹)) : V x ≤ V y + 1 := by
  obtain ⟨hgr, r1, r2, r3, hdd⟩ := rv_gdp hg hd hc
  obtain ⟨M, he⟩ := ex_ends hgr
  have hlast := rv_const hg hd hc he
  obtain ⟨u, v, κ, hκ, pu, fv, e, bu⟩ := bez_last hgr he hlast
  obtain ⟨t, ht, z1, z2⟩ := hz
  have hu : ∀ i, (u i).natAbs ≤ 2 ^ 449 := fun i => by
    refine Nat.le_trans (bu i) (usz ht ?_ ?_ r2 r1)
    · refine Nat.le_trans (nsz_mn _ (show dgg (rv (d + 1) h) + 1 ≤ d + 1 + 1 by omega)) ?_
      rw [nsz_rv]; exact z1
    · refine Nat.le_trans (nsz_mn _ (show dgg (rv d (der h)) + 1 ≤ d + 1 by omega)) ?_
      rw [nsz_rv]; exact z2
  have fh : fin h := ⟨9, hg.1⟩
  have u8 : pbd 8 u := pbd_mono pu (by omega)
  have hw0 : 0 < m⁻¹ := Rat.inv_pos.mpr (by grind)
  have hwm : m⁻¹ * m = 1 := Rat.inv_mul_cancel m (by grind)
  have hw1 : m⁻¹ ≤ 1 := by
    have := Rat.mul_nonneg (a := m⁻¹) (b := m - 1) (by grind) (by grind)
    grind
  obtain ⟨Kv, hKv, bv⟩ := vl_bdd fv (M := 1) (by decide)
  have hin1 : ∀ z, x ≤ z → z ≤ y → inM 1 (z⁻¹) := fun z a b => inM_le (hin z a b).2.2 hw1
  have hpn := pw_nn (m := m⁻¹) (by grind) (d + 1)
  have h452 : (0 : Rat) ≤ (2 : Rat) ^ 452 := Rat.le_of_lt (Rat.pow_pos (by decide))
  have h40 : (0 : Rat) ≤ (2 : Rat) ^ 40 := Rat.le_of_lt (Rat.pow_pos (by decide))
  have h2m := pw_nn (m := 2 * m) (by grind) (d - 1)
  refine sep_core fh hκ H hxy (U := fun z => vl u (z⁻¹) * (z⁻¹) ^ (d + 1)) (W := fun z => vl v (z⁻¹) * (z⁻¹) ^ d) (Ku := (2 : Rat) ^ 452 * (m⁻¹) ^ (d + 1)) (Kv := Kv) (C := (2 * m) ^ (d - 1) * (2 : Rat) ^ 40) (fun z a b => ?_) (Rat.mul_nonneg h452 hpn) hKv (Rat.mul_nonneg h2m h40) (fun z a b => ?_) (fun z a b => ?_) (fun a b a1 a2 b1 b2 => ?_) ?_
  · have hz0 := (hin z a b).2.1
    have e5 := cpr_vl ⟨_, rv_pbd _ _⟩ ⟨_, rv_pbd _ _⟩ ⟨8, u8⟩ fv e (z⁻¹)
    rw [rv_vl hz0 _ _ hd.2, rv_vl hz0 _ _ (der_dgr hd).2] at e5
    show vl u (z⁻¹) * (z⁻¹) ^ (d + 1) * vl h z + vl v (z⁻¹) * (z⁻¹) ^ d * vl (der h) z = κ
    rw [← e5]
    grind
  · exact inM_mul (u_bd u8 hu (hin1 z a b)) (inM_pw (by grind) (hin z a b).2.2 (d + 1)) h452 hpn
  · have h6 := inM_mul (bv _ (hin1 z a b)) (inM_pw (m := 1) (by decide) (hin1 z a b) d) hKv (by rw [one_pw]; decide)
    rw [one_pw] at h6
    exact inM_le h6 (by grind)
  · refine inM_le (vl_tayx (M := 2 * m) (by grind) hd (hin a a1 a2).1 (hin b b1 b2).1) ?_
    have := s2_sz (h := h) (d := d) ⟨t, ht, z1, z2⟩
    have hsq : 0 ≤ (b - a) * (b - a) := by
      rcases Rat.le_total (a := 0) (b := b - a) with h | h
      · exact Rat.mul_nonneg h h
      · have := Rat.mul_nonneg (a := -(b - a)) (b := -(b - a)) (by grind) (by grind)
        grind
    exact Rat.mul_le_mul_of_nonneg_right (Rat.mul_le_mul_of_nonneg_left this h2m) hsq
  · -- sizes
    have h7 : (m⁻¹) ^ (d + 1) * (2 * m) ^ (d - 1) ≤ (2 : Rat) ^ 7 := by
      have q1 : (m⁻¹) ^ (d + 1) ≤ (m⁻¹) ^ (d - 1) := by
        have := pw_anti (m := m⁻¹) (by grind) hw1 (d - 1) (d + 1 - (d - 1))
        rw [show d - 1 + (d + 1 - (d - 1)) = d + 1 by omega] at this
        exact this
      have q2 := Rat.mul_le_mul_of_nonneg_right q1 h2m
      rw [pw_mul, show m⁻¹ * (2 * m) = 2 by grind] at q2
      have q3 := two_pw (n := d - 1) (by omega)
      grind
    have h5 := sq_small (δ := y - x) (by grind) hδ (a := 2 * ((2 : Rat) ^ 452 * ((2 : Rat) ^ 40 * (2 : Rat) ^ 7))) (by
      rw [← rpw_add, ← rpw_add]
      have e7 : (2 : Rat) ^ 500 = (2 : Rat) ^ 499 * 2 := by
        rw [show 500 = 499 + 1 from rfl, Rat.pow_succ]
      rw [e7]
      rw [show 452 + (40 + 7) = 499 from rfl]
      grind)
    have hsq : 0 ≤ (y - x) * (y - x) := Rat.mul_nonneg (by grind) (by grind)
    have hAB : 0 ≤ 2 * ((2 : Rat) ^ 452 * (2 : Rat) ^ 40) * ((y - x) * (y - x)) := Rat.mul_nonneg (Rat.mul_nonneg (by decide) (Rat.mul_nonneg h452 h40)) hsq
    have h8 := Rat.mul_le_mul_of_nonneg_left h7 hAB
    generalize (2 : Rat) ^ 452 = A at *
    generalize (2 : Rat) ^ 40 = B at *
    generalize (2 : Rat) ^ 7 = D at *
    generalize (m⁻¹) ^ (d + 1) = p at *
    generalize (2 * m) ^ (d - 1) = q at *
    have e9 : 2 * (A * p * (q * B * ((y - x) * (y - x)))) = 2 * (A * B) * ((y - x) * (y - x)) * (p * q) := by grind
    rw [e9]
    have e10 : 2 * (A * (B * D)) * ((y - x) * (y - x)) = 2 * (A * B) * ((y - x) * (y - x)) * D := by grind
    rw [e10] at h5
    grind
theorem HL_szp {P : Pl} {l : Nat} (hP : pok P) (hd : 0 < dgg P) (h : l < dep P) : szp (HL P l) (dgg (HL P l) - 1) := by
  obtain ⟨⟨h9, A, n, e, hA⟩, b, ⟨s, c⟩, _, _, hdg, _⟩ := HL_ok hP hd h
  have h0 := dg_dln hd
  have hdg' := dvs_dg h0 hP.1 h9 e hA
  have h8 := dgg_lt P
  by_cases hn : n = 0
  · subst hn
    have hgk : ∀ k, (HL P l k).natAbs ≤ 100000000 := fun k => by
      have e1 := congrFun e k
      rw [dgr_0 hA, pcn_mu] at e1
      have e1 : P k = A 0 * HL P l k := e1
      have hp := hP.2 k
      have e2 : (P k).natAbs = (A 0).natAbs * (HL P l k).natAbs := by rw [e1, Int.natAbs_mul]
      have : 1 * (HL P l k).natAbs ≤ (A 0).natAbs * (HL P l k).natAbs := Nat.mul_le_mul_right _ (by have := hA.1; omega)
      omega
    obtain ⟨n1, n2⟩ := sm_nsz h9 hgk
    exact ⟨32, Or.inl ⟨by omega, rfl⟩, Nat.le_trans (nsz_mn _ (by omega)) n1, Nat.le_trans (nsz_mn _ (by omega)) n2⟩
  · have h8' : pbd 8 (HL P l) := fun k hk => hdg.2 k (by omega)
    obtain ⟨n1, n2⟩ := fis_nsz h8' (fis_g hP.2 hP.1 e hA h9)
    exact ⟨37, Or.inr ⟨by omega, rfl⟩, Nat.le_trans (nsz_mn _ (by omega)) n1, Nat.le_trans (nsz_mn _ (by omega)) n2⟩
/-- within 2^-256 there is at most one root, if the place doesn't hold 1 or -1 inside -/
theorem sep_P {P : Pl} (hP : pok P) (hd : 0 < dgg P) {x y : Rat} (hxy : x < y) (hδ : (y - x) * (2 : Rat) ^ 256 ≤ 1) (hw : y ≤ -1 ∨ (-1 ≤ x ∧ y ≤ 1) ∨ 1 ≤ x) : cn P 0 y ≤ cn P 0 x + 1 := by
  have h := dep_pos hP hd
  obtain ⟨_, b, ⟨s, c⟩, _, _, hdg, _⟩ := HL_ok hP hd h
  have hc := (HL_cpr hP hd h).1
  have H := HL_stv hP hd h
  have hsz := HL_szp hP hd h
  have hdg' : dgr (HL P 0) (dgg (HL P 0) - 1 + 1) := by rw [show dgg (HL P 0) - 1 + 1 = dgg (HL P 0) by omega]; exact hdg
  have hsm : y - x ≤ 1 := by
    have h1 := rpw1 (M := 2) (by decide) 256
    have := Rat.mul_le_mul_of_nonneg_left h1 (show 0 ≤ y - x by grind)
    grind
  have key : VV P 0 x ≤ VV P 0 y + 1 := by
    rcases hw with q | ⟨q1, q2⟩ | q
    · refine sep_out c hdg' hc hsz H hxy hδ (m := -y) (by grind) (fun z a b => ⟨by unfold inM; grind, by grind, ?_⟩)
      have i1 : (-y)⁻¹ * (-y) = 1 := Rat.inv_mul_cancel _ (by grind)
      have i2 : (z)⁻¹ * z = 1 := Rat.inv_mul_cancel _ (by grind)
      have p1 : 0 < (-y)⁻¹ := Rat.inv_pos.mpr (by grind)
      have p2 : z⁻¹ < 0 := by
        apply Rat.not_le.mp
        intro hh
        have := Rat.mul_nonneg hh (show 0 ≤ -z by grind)
        grind
      have p3 := Rat.mul_nonneg (a := (-y)⁻¹ * (-(z⁻¹))) (b := y - z) (Rat.mul_nonneg (by grind) (by grind)) (by grind)
      generalize (-y)⁻¹ = α at *
      generalize z⁻¹ = β at *
      have p4 : α * -β * (y - z) = (α * (-y)) * β + α * (β * z) := by grind
      rw [p4, i1, i2] at p3
      unfold inM
      grind
    · exact sep_in c hdg' hc hsz H hxy hδ q1 q2
    · refine sep_out c hdg' hc hsz H hxy hδ (m := x) q (fun z a b => ⟨by unfold inM; grind, by grind, ?_⟩)
      have i1 : x⁻¹ * x = 1 := Rat.inv_mul_cancel _ (by grind)
      have i2 : (z)⁻¹ * z = 1 := Rat.inv_mul_cancel _ (by grind)
      have p1 : 0 < x⁻¹ := Rat.inv_pos.mpr (by grind)
      have p2 : 0 < z⁻¹ := Rat.inv_pos.mpr (by grind)
      have p3 := Rat.mul_nonneg (a := x⁻¹ * z⁻¹) (b := z - x) (Rat.mul_nonneg (by grind) (by grind)) (by grind)
      generalize x⁻¹ = α at *
      generalize z⁻¹ = β at *
      have p4 : α * β * (z - x) = α * (β * z) - (α * x) * β := by grind
      rw [p4, i1, i2] at p3
      unfold inM
      grind
  unfold cn
  omega
/-- cells of a grid as fine as that -/
theorem sep_cell {P : Pl} (hP : pok P) (hd : 0 < dgg P) (X : Int) {f : Nat} (hf : 256 ≤ f) : cn P 0 (((X + 1 : Int) : Rat) / (2 : Rat) ^ f) ≤ cn P 0 ((X : Rat) / (2 : Rat) ^ f) + 1 := by
  have hp : (0 : Rat) < (2 : Rat) ^ f := Rat.pow_pos (by decide)
  have hi : ((2 : Rat) ^ f)⁻¹ * (2 : Rat) ^ f = 1 := Rat.inv_mul_cancel _ (by grind)
  have hip : 0 < ((2 : Rat) ^ f)⁻¹ := Rat.inv_pos.mpr hp
  have hX1 : ((X + 1 : Int) : Rat) = (X : Rat) + 1 := by rw [Rat.intCast_add]; rfl
  rw [hX1, Rat.div_def, Rat.div_def]
  obtain ⟨N, hN⟩ : ∃ N : Int, N = 2 ^ f := ⟨_, rfl⟩
  have hNR : (N : Rat) = (2 : Rat) ^ f := by rw [hN, Rat.intCast_pow]; rfl
  have cs : X + 1 ≤ -N ∨ (-N ≤ X ∧ X + 1 ≤ N) ∨ N ≤ X := by omega
  generalize hi2 : ((2 : Rat) ^ f)⁻¹ = w at *
  have e256 : (2 : Rat) ^ f = (2 : Rat) ^ 256 * (2 : Rat) ^ (f - 256) := by rw [← rpw_add, show 256 + (f - 256) = f by omega]
  refine sep_P hP hd (by grind) ?_ ?_
  · have h1 := rpw1 (M := 2) (by decide) (f - 256)
    have h2 : (0 : Rat) < (2 : Rat) ^ 256 := Rat.pow_pos (by decide)
    have h3 := Rat.mul_le_mul_of_nonneg_left h1 (Rat.mul_nonneg (Rat.le_of_lt hip) (Rat.le_of_lt h2))
    rw [e256] at hi
    generalize (2 : Rat) ^ 256 = E at *
    generalize (2 : Rat) ^ (f - 256) = G at *
    grind
  · have hc : ∀ a b : Int, a ≤ b → (a : Rat) ≤ (b : Rat) := fun a b h => Rat.intCast_le_intCast.mpr h
    rw [← hNR] at hi hp
    rcases cs with q | ⟨q1, q2⟩ | q
    · left
      have := hc _ _ q
      rw [hX1, Rat.intCast_neg] at this
      have := Rat.mul_le_mul_of_nonneg_right this (Rat.le_of_lt hip)
      grind
    · right; left
      have a1 := hc _ _ q1
      have a2 := hc _ _ q2
      rw [hX1] at a2
      rw [Rat.intCast_neg] at a1
      have b1 := Rat.mul_le_mul_of_nonneg_right a1 (Rat.le_of_lt hip)
      have b2 := Rat.mul_le_mul_of_nonneg_right a2 (Rat.le_of_lt hip)
      constructor <;> grind
    · right; right
      have := hc _ _ q
      have := Rat.mul_le_mul_of_nonneg_right this (Rat.le_of_lt hip)
      grind
