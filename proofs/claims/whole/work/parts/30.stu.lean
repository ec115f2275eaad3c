/-! ===== Sturm, near ===== -/
def kp (F : Rat → Rat) (x y : Rat) : Prop := sgq (F x) = sgq (F y) ∧ sgq (F x) ≠ 0
theorem sgq_t (r : Rat) : (sgq r = -1 ∧ r < 0) ∨ (sgq r = 0 ∧ r = 0) ∨ (sgq r = 1 ∧ 0 < r) := by
  rcases sgq_c r with h | h | h
  · exact Or.inl ⟨h, sgq_m.mp h⟩
  · exact Or.inr (Or.inl ⟨h, sgq_0.mp h⟩)
  · exact Or.inr (Or.inr ⟨h, sgq_1.mp h⟩)
theorem nkp_sm {a b D : Rat} (h : ¬ (sgq a = sgq b ∧ sgq a ≠ 0)) (hd : inM D (b - a)) : inM D a := by
  obtain ⟨h1, h2⟩ := hd
  rcases sgq_t a with ⟨ha, ha'⟩ | ⟨ha, ha'⟩ | ⟨ha, ha'⟩ <;> rcases sgq_t b with ⟨hb, hb'⟩ | ⟨hb, hb'⟩ | ⟨hb, hb'⟩ <;>
    first
    | (exfalso; apply h; rw [ha, hb]; exact ⟨rfl, by decide⟩)
    | (constructor <;> grind)
/-- so it is for near places -/
def nr (M : Rat) (P : Rat → Rat → Prop) : Prop := ∃ ε, 0 < ε ∧ ∀ x y, inM M x → inM M y → x < y → y - x ≤ ε → P x y
theorem nr_and {M : Rat} {P Q : Rat → Rat → Prop} (hp : nr M P) (hq : nr M Q) : nr M (fun x y => P x y ∧ Q x y) := by
  obtain ⟨a, ha, h1⟩ := hp
  obtain ⟨b, hb, h2⟩ := hq
  rcases Rat.le_total (a := a) (b := b) with h | h
  · exact ⟨a, ha, fun x y hx hy hxy ht => ⟨h1 x y hx hy hxy ht, h2 x y hx hy hxy (Rat.le_trans ht h)⟩⟩
  · exact ⟨b, hb, fun x y hx hy hxy ht => ⟨h1 x y hx hy hxy (Rat.le_trans ht h), h2 x y hx hy hxy ht⟩⟩
theorem nr_imp {M : Rat} {P Q : Rat → Rat → Prop} (hp : nr M P) (h : ∀ x y, inM M x → inM M y → x < y → P x y → Q x y) : nr M Q := by
  obtain ⟨a, ha, h1⟩ := hp
  exact ⟨a, ha, fun x y hx hy hxy ht => h x y hx hy hxy (h1 x y hx hy hxy ht)⟩
theorem nr_tt {M : Rat} {P : Rat → Rat → Prop} (h : ∀ x y, inM M x → inM M y → x < y → P x y) : nr M P := ⟨1, by decide, fun x y hx hy hxy _ => h x y hx hy hxy⟩
theorem nr_all {M : Rat} {P : Nat → Rat → Rat → Prop} : ∀ n, (∀ k, k < n → nr M (P k)) → nr M (fun x y => ∀ k, k < n → P k x y)
  | 0, _ => nr_tt (fun x y _ _ _ k hk => by omega)
  | n + 1, h => by
    have h1 := nr_all n (fun k hk => h k (by omega))
    have h2 := h n (by omega)
    refine nr_imp (nr_and h1 h2) (fun x y _ _ _ hp k hk => ?_)
    by_cases hkn : k = n
    · subst hkn; exact hp.2
    · exact hp.1 k (by omega)
theorem nr_not {M T κ : Rat} (hT : 0 ≤ T) (hκ : κ ≠ 0) : nr M (fun x y => ¬ inM (T * (y - x)) κ) := by
  have key : ∀ a : Rat, 0 < a → ∃ ε, 0 < ε ∧ T * ε < a := by
    intro a ha
    have h1 : 0 < T + 1 := by grind
    have h2 : 0 < (T + 1)⁻¹ := Rat.inv_pos.mpr h1
    refine ⟨a * (T + 1)⁻¹, Rat.mul_pos ha h2, ?_⟩
    have h3 : (T + 1) * (T + 1)⁻¹ = 1 := Rat.mul_inv_cancel _ (by grind)
    have h4 : 0 < a * (T + 1)⁻¹ := Rat.mul_pos ha h2
    have h5 : (T + 1) * (a * (T + 1)⁻¹) = a := by
      have : (T + 1) * (a * (T + 1)⁻¹) = a * ((T + 1) * (T + 1)⁻¹) := by grind
      rw [this, h3]; grind
    grind
  rcases sgq_t κ with ⟨_, h⟩ | ⟨_, h⟩ | ⟨_, h⟩
  · obtain ⟨ε, h1, h2⟩ := key (-κ) (by grind)
    refine ⟨ε, h1, fun x y _ _ hxy ht hin => ?_⟩
    have h3 : T * (y - x) ≤ T * ε := Rat.mul_le_mul_of_nonneg_left ht hT
    obtain ⟨h4, h5⟩ := hin
    grind
  · exact absurd h hκ
  · obtain ⟨ε, h1, h2⟩ := key κ h
    refine ⟨ε, h1, fun x y _ _ hxy ht hin => ?_⟩
    have h3 : T * (y - x) ≤ T * ε := Rat.mul_le_mul_of_nonneg_left ht hT
    obtain ⟨h4, h5⟩ := hin
    grind
/-- no common divisor -/
def cpr (a b : Pl) : Prop := ∃ (U W : Pl) (κ : Int), fin U ∧ fin W ∧ κ ≠ 0 ∧ pad (pmu U a) (pmu W b) = pcn κ
theorem cpr_vl {a b : Pl} (ha : fin a) (hb : fin b) {U W : Pl} {κ : Int} (hU : fin U) (hW : fin W) (h : pad (pmu U a) (pmu W b) = pcn κ) (x : Rat) :
    vl U x * vl a x + vl W x * vl b x = κ := by
  have h1 := congrArg (fun f => vl f x) h
  simp only [vl_pcn] at h1
  rw [vl_pad (fin_pmu hU ha) (fin_pmu hW hb), vl_pmu hU ha, vl_pmu hW hb] at h1
  exact h1
theorem ic_ne {κ : Int} (h : κ ≠ 0) : (κ : Rat) ≠ 0 := fun h1 => h (Rat.intCast_inj.mp h1)
theorem inM_sc {T : Rat} {x y : Rat} (hxy : x < y) (hT : 0 ≤ T) : 0 ≤ T * (y - x) := Rat.mul_nonneg hT (by grind)
theorem nr_cpr {M : Rat} (hM : 0 ≤ M) {a b : Pl} (ha : fin a) (hb : fin b) (h : cpr a b) : nr M (fun x y => kp (vl a) x y ∨ kp (vl b) x y) := by
  obtain ⟨U, W, κ, hU, hW, hκ, he⟩ := h
  obtain ⟨La, hLa, h1⟩ := vl_lip ha hM
  obtain ⟨Lb, hLb, h2⟩ := vl_lip hb hM
  obtain ⟨Ku, hKu, h3⟩ := vl_bdd hU hM
  obtain ⟨Kw, hKw, h4⟩ := vl_bdd hW hM
  have h0 := nr_not (M := M) (T := Ku * La + Kw * Lb) (κ := κ) (by have := Rat.mul_nonneg hKu hLa; have := Rat.mul_nonneg hKw hLb; grind) (ic_ne hκ)
  refine nr_imp h0 (fun x y hx hy hxy hn => ?_)
  apply Classical.byContradiction
  intro hc
  have hc1 : ¬ kp (vl a) x y := fun h => hc (Or.inl h)
  have hc2 : ¬ kp (vl b) x y := fun h => hc (Or.inr h)
  have a1 := nkp_sm hc1 (h1 x y hx hy (Rat.le_of_lt hxy))
  have a2 := nkp_sm hc2 (h2 x y hx hy (Rat.le_of_lt hxy))
  have a3 := inM_add (inM_mul (h3 x hx) a1 hKu (inM_sc hxy hLa)) (inM_mul (h4 x hx) a2 hKw (inM_sc hxy hLb))
  rw [cpr_vl ha hb hU hW he] at a3
  apply hn
  exact inM_le a3 (by grind)
/-- a member that turns lies between opposite ones -/
theorem nr_opp {M : Rat} (hM : 0 ≤ M) {a b c q : Pl} (ha : fin a) (hb : fin b) (hc : fin c) (hq : fin q) {β s : Int} (hβ : 0 < β) (hs : s < 0)
    (he : psc β a = pad (psc s c) (pmu q b)) (h : cpr b c) (hab : cpr a b) :
    nr M (fun x y => ¬ kp (vl b) x y → sgq (vl c x) = - sgq (vl a x)) := by
  have hn1 := nr_cpr hM hb hc h
  have hn2 := nr_cpr hM ha hb hab
  obtain ⟨U, W, κ, hU, hW, hκ, hk⟩ := h
  obtain ⟨Lb, hLb, h2⟩ := vl_lip hb hM
  obtain ⟨Ku, hKu, h3⟩ := vl_bdd hU hM
  obtain ⟨Kw, hKw, h4⟩ := vl_bdd hW hM
  obtain ⟨Kq, hKq, h5⟩ := vl_bdd hq hM
  have hs' : (0 : Rat) ≤ ((-s : Int) : Rat) := Rat.intCast_nonneg.mpr (by omega)
  have b1 := Rat.mul_nonneg (Rat.mul_nonneg hKu hLb) hs'
  have b2 := Rat.mul_nonneg hKw (Rat.mul_nonneg hKq hLb)
  have h0 := nr_not (M := M) (T := Ku * Lb * ((-s : Int) : Rat) + Kw * (Kq * Lb)) (κ := ((s * κ : Int) : Rat)) (by grind) (ic_ne (Int.mul_ne_zero (by omega) hκ))
  refine nr_imp (nr_and (nr_and hn1 hn2) h0) (fun x y hx hy hxy hp hnk => ?_)
  obtain ⟨⟨p1, p2⟩, p3⟩ := hp
  have q1 : kp (vl c) x y := by rcases p1 with h | h; exact absurd h hnk; exact h
  have q2 : kp (vl a) x y := by rcases p2 with h | h; exact h; exact absurd h hnk
  apply Classical.byContradiction
  intro hne
  have v1 : vl (psc β a) x = vl (pad (psc s c) (pmu q b)) x := congrArg (fun f => vl f x) he
  rw [vl_psc ha, vl_lin hc (fin_pmu hq hb), vl_pmu hq hb] at v1
  have a1 := nkp_sm hnk (h2 x y hx hy (Rat.le_of_lt hxy))
  have a2 := inM_mul (h5 x hx) a1 hKq (inM_sc hxy hLb)
  have hβ' : (0 : Rat) < (β : Rat) := Rat.intCast_pos.mpr hβ
  have hs2 : (0 : Rat) < ((-s : Int) : Rat) := Rat.intCast_pos.mpr (by omega)
  have hs3 : ((-s : Int) : Rat) = -(s : Rat) := Rat.intCast_neg _
  have a3 : inM (Kq * (Lb * (y - x))) ((s : Rat) * vl c x) := by
    have c1 := q1.2
    have c2 := q2.2
    obtain ⟨a4, a5⟩ := a2
    rcases sgq_t (vl c x) with ⟨d1, d2⟩ | ⟨d1, d2⟩ | ⟨d1, d2⟩ <;> rcases sgq_t (vl a x) with ⟨d3, d4⟩ | ⟨d3, d4⟩ | ⟨d3, d4⟩ <;>
      first
      | (exfalso; apply c1; exact d1)
      | (exfalso; apply c2; exact d3)
      | (exfalso; apply hne; simp [d1, d3]; done)
      | skip
    · have e1 : 0 < (β : Rat) * (- vl a x) := Rat.mul_pos hβ' (by grind)
      have e2 : 0 < (-(s : Rat)) * (- vl c x) := Rat.mul_pos (by grind) (by grind)
      constructor <;> grind
    · have e1 : 0 < (β : Rat) * (vl a x) := Rat.mul_pos hβ' (by grind)
      have e2 : 0 < (-(s : Rat)) * (vl c x) := Rat.mul_pos (by grind) (by grind)
      constructor <;> grind
  have a6 := inM_mul (h3 x hx) a1 hKu (inM_sc hxy hLb)
  have a7 : inM (((-s : Int) : Rat) * (Ku * (Lb * (y - x)))) (((s : Int) : Rat) * (vl U x * vl b x)) :=
    inM_mul (M := ((-s : Int) : Rat)) ⟨by rw [hs3]; grind, by rw [hs3]; grind⟩ a6 hs' (Rat.mul_nonneg hKu (inM_sc hxy hLb))
  have a8 := inM_mul (h4 x hx) a3 hKw (Rat.mul_nonneg hKq (inM_sc hxy hLb))
  have a9 := inM_add a7 a8
  have v2 := cpr_vl hb hc hU hW hk x
  apply p3
  have e3 : ((s * κ : Int) : Rat) = (s : Rat) * (vl U x * vl b x) + vl W x * ((s : Rat) * vl c x) := by
    rw [Rat.intCast_mul, ← v2]; grind
  rw [e3]
  exact inM_le a9 (by grind)
