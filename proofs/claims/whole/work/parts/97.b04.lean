/-! ===== unlike roots lie apart, 2 ===== -/
/-- room for a polynomial of degree d + 1 -/
def szp (h : Pl) (d : Nat) : Prop := ∃ t, (d + 1 ≤ 8 ∧ t = 32 ∨ d + 1 ≤ 7 ∧ t = 37) ∧ nsz (d + 2) h ≤ 2 ^ t ∧ nsz (d + 1) (der h) ≤ 2 ^ t
theorem usz {a b ea eb t d : Nat} (h : d + 1 ≤ 8 ∧ t = 32 ∨ d + 1 ≤ 7 ∧ t = 37) (ha : a ≤ 2 ^ t) (hb : b ≤ 2 ^ t) (hea : ea ≤ d) (heb : eb ≤ d + 1) : 2 * a ^ (ea - 1) * b ^ eb ≤ 2 ^ 449 := by
  have h1 : a ^ (ea - 1) ≤ 2 ^ (t * (ea - 1)) := by rw [Nat.pow_mul]; exact Nat.pow_le_pow_left ha _
  have h2 : b ^ eb ≤ 2 ^ (t * eb) := by rw [Nat.pow_mul]; exact Nat.pow_le_pow_left hb _
  have h3 := Nat.mul_le_mul (Nat.mul_le_mul_left 2 h1) h2
  refine Nat.le_trans h3 ?_
  have e : 2 * 2 ^ (t * (ea - 1)) * 2 ^ (t * eb) = 2 ^ (1 + t * (ea - 1) + t * eb) := by rw [Nat.pow_add, Nat.pow_add, Nat.pow_one]
  rw [e]
  refine Nat.pow_le_pow_right (by decide) ?_
  rcases h with ⟨h, rfl⟩ | ⟨h, rfl⟩ <;> omega
theorem natc_le {a b : Nat} (h : a ≤ b) : (a : Rat) ≤ (b : Rat) := by exact_mod_cast h
theorem natc_pow (n : Nat) : ((2 ^ n : Nat) : Rat) = (2 : Rat) ^ n := by
  induction n with
  | zero => rfl
  | succ n ih =>
    rw [Nat.pow_succ, Rat.pow_succ, ← ih]
    exact_mod_cast Rat.natCast_mul (2 ^ n) 2
theorem u_bd {u : Pl} (h8 : pbd 8 u) (hu : ∀ i, (u i).natAbs ≤ 2 ^ 449) {w : Rat} (hw : inM 1 w) : inM ((2 : Rat) ^ 452) (vl u w) := by
  have h1 := evb Rat.le_refl hw 7 u
  rw [← vl_eq h8] at h1
  refine inM_le h1 ?_
  have h2 := natc_le (nsz_le 8 hu)
  have e : (8 * 2 ^ 449 : Nat) = 2 ^ 452 := by
    rw [show (8 : Nat) = 2 ^ 3 from rfl, ← Nat.pow_add]
  rw [e, natc_pow] at h2
  have e1 : ∀ n : Nat, (1 : Rat) ^ n = 1 := by
    intro n
    induction n with
    | zero => rw [Rat.pow_zero]
    | succ n ih => rw [Rat.pow_succ, ih]; grind
  rw [e1]
  grind
theorem s2_sz {h : Pl} {d : Nat} (hs : szp h d) : (((s2 (d + 1) h : Nat)) : Rat) ≤ (2 : Rat) ^ 40 := by
  obtain ⟨t, ht, h1, h2⟩ := hs
  have := s2_le (d + 1) h
  rw [← natc_pow]
  refine natc_le (Nat.le_trans this ?_)
  have h3 : nsz (d + 1) (der h) ≤ 2 ^ 37 := Nat.le_trans h2 (Nat.pow_le_pow_right (by decide) (by omega))
  have h4 := Nat.mul_le_mul (show d + 1 ≤ 8 by omega) h3
  refine Nat.le_trans h4 ?_
  decide
theorem sq_small {δ : Rat} (h0 : 0 < δ) (h : δ * (2 : Rat) ^ 256 ≤ 1) {a : Rat} (ha : a ≤ (2 : Rat) ^ 500) : a * (δ * δ) < 1 := by
  have hE : (0 : Rat) < (2 : Rat) ^ 256 := Rat.pow_pos (by decide)
  have e : (2 : Rat) ^ 256 * (2 : Rat) ^ 256 = (2 : Rat) ^ 500 * (2 : Rat) ^ 12 := by rw [← rpw_add, ← rpw_add]
  have e12 : (2 : Rat) ^ 12 = 4096 := by
    rw [← natc_pow]; rfl
  rw [e12] at e
  have hdd : 0 ≤ δ * δ := Rat.mul_nonneg (by grind) (by grind)
  have h1 : (δ * (2 : Rat) ^ 256) * (δ * (2 : Rat) ^ 256) ≤ 1 * 1 := by
    have p := Rat.mul_nonneg (a := 1 - δ * (2 : Rat) ^ 256) (b := δ * (2 : Rat) ^ 256) (by grind) (Rat.mul_nonneg (by grind) (by grind))
    generalize δ * (2 : Rat) ^ 256 = q at *
    grind
  have h2 := Rat.mul_le_mul_of_nonneg_right ha hdd
  generalize (2 : Rat) ^ 256 = E at *
  generalize (2 : Rat) ^ 500 = F at *
  have h3 : δ * E * (δ * E) = F * (δ * δ) * 4096 := by
    have : δ * E * (δ * E) = (δ * δ) * (E * E) := by grind
    rw [this, e]; grind
  rw [h3] at h1
  generalize F * (δ * δ) = G at *
  grind
theorem one_pw (n : Nat) : (1 : Rat) ^ n = 1 := by
  induction n with
  | zero => rw [Rat.pow_zero]
  | succ n ih => rw [Rat.pow_succ, ih]; grind
theorem vl_tayx {M : Rat} (hM : 1 ≤ M) {h : Pl} {d : Nat} (hd : dgr h (d + 1)) {a b : Rat} (ha : inM M a) (hb : inM M b) : inM (M ^ (d - 1) * (s2 (d + 1) h : Nat) * ((b - a) * (b - a))) (vl h b - vl h a - (b - a) * vl (der h) a) := by
  have := tay_ex hM (d + 1) h a b ha hb
  rw [← vl_eq hd.2, ← vl_eq hd.2, ← vl_eq (der_dgr hd).2, show d + 1 - 2 = d - 1 by omega] at this
  exact this
theorem sep_in {h : Pl} {s d : Nat} (hg : gdp h (der h) s) (hd : dgr h (d + 1)) (hc : cpr h (der h)) (hz : szp h d) {V : Rat → Nat} (H : stv h V) {x y : Rat} (hxy : x < y) (hδ : (y - x) * (2 : Rat) ^ 256 ≤ 1) (h1 : -1 ≤ x) (h2 : y ≤ 1) : V x ≤ V y + 1 := by
  have hdd : dgg h = d + 1 := dgr_un (dln_top hg.1 hg.2.2.1).1 hd
  obtain ⟨e1, e2, e3⟩ := dgg_der hg.1 (by omega)
  obtain ⟨M, he⟩ := ex_ends hg
  obtain ⟨_, hlast, _⟩ := own_stv hg he hc
  obtain ⟨u, v, κ, hκ, pu, fv, e, bu⟩ := bez_last hg he hlast
  obtain ⟨t, ht, z1, z2⟩ := hz
  have hu : ∀ i, (u i).natAbs ≤ 2 ^ 449 := fun i => by
    refine Nat.le_trans (bu i) (usz ht ?_ ?_ (show dgg (der h) ≤ d by omega) (show dgg h ≤ d + 1 by omega))
    · rw [hdd]; exact z1
    · rw [show dgg (der h) + 1 = d + 1 by omega]; exact z2
  have fh : fin h := ⟨9, hg.1⟩
  have u8 : pbd 8 u := pbd_mono pu (by omega)
  obtain ⟨Kv, hKv, bv⟩ := vl_bdd fv (M := 1) (by decide)
  have hin : ∀ z, x ≤ z → z ≤ y → inM 1 z := fun z a b => by unfold inM; grind
  refine sep_core fh hκ H hxy (U := vl u) (W := vl v) (Ku := (2 : Rat) ^ 452) (Kv := Kv) (C := (2 : Rat) ^ 40) (fun z _ _ => cpr_vl fh (fin_der fh) ⟨8, u8⟩ fv e z) (Rat.le_of_lt (Rat.pow_pos (by decide))) hKv (Rat.le_of_lt (Rat.pow_pos (by decide))) (fun z a b => u_bd u8 hu (hin z a b)) (fun z a b => bv z (hin z a b)) (fun a b a1 a2 b1 b2 => ?_) ?_
  · refine inM_le (vl_tayx Rat.le_refl hd (hin a a1 a2) (hin b b1 b2)) ?_
    rw [one_pw]
    have := s2_sz (h := h) (d := d) ⟨t, ht, z1, z2⟩
    have hsq : 0 ≤ (b - a) * (b - a) := by
      rcases Rat.le_total (a := 0) (b := b - a) with h | h
      · exact Rat.mul_nonneg h h
      · have := Rat.mul_nonneg (a := -(b - a)) (b := -(b - a)) (by grind) (by grind)
        grind
    have := Rat.mul_le_mul_of_nonneg_right this hsq
    grind
  · have h5 := sq_small (δ := y - x) (by grind) hδ (a := 2 * ((2 : Rat) ^ 452 * (2 : Rat) ^ 40)) (by
      rw [← rpw_add]
      have e7 : (2 : Rat) ^ 500 = (2 : Rat) ^ 492 * 256 := by
        rw [show 500 = 492 + 8 from rfl, rpw_add]
        congr 1
      rw [e7]
      have := Rat.pow_pos (n := 492) (show (0 : Rat) < 2 by decide)
      rw [show 452 + 40 = 492 from rfl]
      grind)
    generalize (2 : Rat) ^ 452 = A at *
    generalize (2 : Rat) ^ 40 = B at *
    grind
theorem inM_pw {m w : Rat} (hm : 0 ≤ m) (hw : inM m w) : ∀ n : Nat, inM (m ^ n) (w ^ n)
  | 0 => by rw [Rat.pow_zero, Rat.pow_zero]; unfold inM; grind
  | n + 1 => by
    rw [Rat.pow_succ, Rat.pow_succ]
    exact inM_mul (inM_pw hm hw n) hw (by
      clear hw
      induction n with
      | zero => rw [Rat.pow_zero]; decide
      | succ n ih => rw [Rat.pow_succ]; exact Rat.mul_nonneg ih hm) hm
theorem pw_nn {m : Rat} (hm : 0 ≤ m) (n : Nat) : 0 ≤ m ^ n := by
  induction n with
  | zero => rw [Rat.pow_zero]; decide
  | succ n ih => rw [Rat.pow_succ]; exact Rat.mul_nonneg ih hm
theorem pw_mul (a b : Rat) (n : Nat) : a ^ n * b ^ n = (a * b) ^ n := by
  induction n with
  | zero => rw [Rat.pow_zero, Rat.pow_zero, Rat.pow_zero]; grind
  | succ n ih => rw [Rat.pow_succ, Rat.pow_succ, Rat.pow_succ, ← ih]; grind
