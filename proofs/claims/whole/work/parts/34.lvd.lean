/-! ===== levels: where a level turns ===== -/
theorem sgq_mul (a b : Rat) : sgq (a * b) = sgq a * sgq b := by
  rcases sgq_t a with ⟨a1, a2⟩ | ⟨a1, a2⟩ | ⟨a1, a2⟩ <;> rcases sgq_t b with ⟨b1, b2⟩ | ⟨b1, b2⟩ | ⟨b1, b2⟩ <;> rw [a1, b1]
  · have := Rat.mul_pos (a := -a) (b := -b) (by grind) (by grind)
    exact sgq_1.mpr (by grind)
  · exact sgq_0.mpr (by rw [b2]; grind)
  · have := Rat.mul_pos (a := -a) (b := b) (by grind) (by grind)
    exact sgq_m.mpr (by grind)
  · exact sgq_0.mpr (by rw [a2]; grind)
  · exact sgq_0.mpr (by rw [a2]; grind)
  · exact sgq_0.mpr (by rw [a2]; grind)
  · have := Rat.mul_pos (a := a) (b := -b) (by grind) (by grind)
    exact sgq_m.mpr (by grind)
  · exact sgq_0.mpr (by rw [b2]; grind)
  · have := Rat.mul_pos (a := a) (b := b) (by grind) (by grind)
    exact sgq_1.mpr (by grind)
theorem sgq_near {a b D : Rat} (h : inM D (b - a)) (hn : ¬ inM D a) : sgq b = sgq a ∧ sgq a ≠ 0 := by
  obtain ⟨h1, h2⟩ := h
  rcases sgq_t a with ⟨a1, a2⟩ | ⟨a1, a2⟩ | ⟨a1, a2⟩
  · have : a < -D := by
      apply Classical.byContradiction
      intro h3
      apply hn
      constructor <;> grind
    rw [a1]; exact ⟨sgq_m.mpr (by grind), by decide⟩
  · exfalso
    apply hn
    constructor <;> grind
  · have : D < a := by
      apply Classical.byContradiction
      intro h3
      apply hn
      constructor <;> grind
    rw [a1]; exact ⟨sgq_1.mpr (by grind), by decide⟩
theorem sgq_sum {a b : Rat} (h : sgq a = sgq b) (hn : sgq a ≠ 0) : sgq (a + b) = sgq a := by
  rcases sgq_t a with ⟨a1, a2⟩ | ⟨a1, a2⟩ | ⟨a1, a2⟩ <;> rcases sgq_t b with ⟨b1, b2⟩ | ⟨b1, b2⟩ | ⟨b1, b2⟩ <;> rw [a1] at h hn ⊢ <;> rw [b1] at h <;>
    first
    | exact sgq_m.mpr (by grind)
    | exact sgq_1.mpr (by grind)
    | omega
theorem sgq_cancel {k a b : Rat} (hk : k ≠ 0) (h : sgq (k * a) = sgq (k * b)) : sgq a = sgq b := by
  rw [sgq_mul, sgq_mul] at h
  rcases sgq_t k with ⟨k1, k2⟩ | ⟨k1, k2⟩ | ⟨k1, k2⟩
  · rw [k1] at h; omega
  · exact absurd k2 hk
  · rw [k1] at h; omega
theorem cpr_scr {a b : Pl} {K : Int} (hK : K ≠ 0) (h : cpr a b) : cpr a (psc K b) := by
  obtain ⟨u, v, κ, hu, hv, hκ, hk⟩ := h
  refine ⟨psc K u, v, K * κ, fin_psc K hu, hv, Int.mul_ne_zero hK hκ, ?_⟩
  rw [psc_mur, pmu_comm, psc_mur, pmu_comm a u]
  have e : pad (psc K (pmu u a)) (psc K (pmu v b)) = psc K (pad (pmu u a) (pmu v b)) := pl_ext (fun k => by simp only [pad, psc]; grind)
  rw [e, hk]
  exact pl_ext (fun k => by simp only [pcn, psc]; split <;> simp)
/-- where h0 = h1 w turns, just one of the two turns -/
theorem lev_turn {M : Rat} (hM : 0 ≤ M) {h0 h1 w : Pl} {K : Int} (hK : K ≠ 0) (fh0 : fin h0) (fh1 : fin h1) (fw : fin w) (hb : psc K h0 = pmu h1 w) (hc : cpr h1 w) :
    nr M (fun x y => (∀ z, sgq (K : Rat) * sgq (vl h0 z) = sgq (vl h1 z) * sgq (vl w z)) ∧ (kp (vl h1) x y ∨ kp (vl w) x y) ∧
      (¬ kp (vl h0) x y → (¬ kp (vl h1) x y ∧ kp (vl w) x y) ∨ (kp (vl h1) x y ∧ ¬ kp (vl w) x y))) := by
  refine nr_imp (nr_cpr hM fh1 fw hc) (fun x y hx hy hxy hp => ?_)
  have hz : ∀ z, sgq (K : Rat) * sgq (vl h0 z) = sgq (vl h1 z) * sgq (vl w z) := by
    intro z
    have : vl (psc K h0) z = vl (pmu h1 w) z := congrArg (fun f => vl f z) hb
    rw [vl_psc fh0, vl_pmu fh1 fw] at this
    rw [← sgq_mul, ← sgq_mul, this]
  refine ⟨hz, hp, fun hn => ?_⟩
  have hkn : sgq (K : Rat) ≠ 0 := fun h => ic_ne hK (sgq_0.mp h)
  by_cases h1' : kp (vl h1) x y
  · right
    refine ⟨h1', fun h2 => hn ?_⟩
    obtain ⟨a1, a2⟩ := h1'
    obtain ⟨b1, b2⟩ := h2
    have e1 := hz x
    have e2 := hz y
    rw [← a1, ← b1] at e2
    have e3 : sgq (K : Rat) * sgq (vl h0 x) = sgq (K : Rat) * sgq (vl h0 y) := by rw [e1, e2]
    refine ⟨Int.eq_of_mul_eq_mul_left hkn e3, fun h => ?_⟩
    rw [h, Int.mul_zero] at e1
    rcases Int.mul_eq_zero.mp e1.symm with h | h
    · exact a2 h
    · exact b2 h
  · left
    refine ⟨h1', ?_⟩
    rcases hp with h | h
    · exact absurd h h1'
    · exact h
theorem lev_e {M : Rat} (hM : 0 ≤ M) {h0 h1 e0 e1 w : Pl} {K : Int} (hK : K ≠ 0) (fh0 : fin h0) (fh1 : fin h1) (fe0 : fin e0) (fe1 : fin e1) (fw : fin w)
    (hb : psc K h0 = pmu h1 w) (hc : psc K e0 = pad (psc K (der h0)) (pmu e1 w)) (c0 : cpr h0 (der h0)) (c1 : cpr h1 w)
    (ih : nr M (fun x y => ¬ kp (vl h1) x y → sgq (vl e1 x) = sgq (vl (der h1) x))) :
    nr M (fun x y => ¬ kp (vl h0) x y → sgq (vl e0 x) = sgq (vl (der h0) x)) := by
  have hd : psc K (der h0) = pad (pmu (der h1) w) (pmu h1 (der w)) := by rw [← der_psc, hb, der_pmu]
  have n1 := lev_turn hM hK fh0 fh1 fw hb c1
  obtain ⟨Lw, hLw, w1⟩ := vl_lip fw hM
  obtain ⟨Lh, hLh, w2⟩ := vl_lip fh1 hM
  obtain ⟨Ke, hKe, w3⟩ := vl_bdd fe1 hM
  obtain ⟨Kd, hKd, w4⟩ := vl_bdd (fin_der fw) hM
  have n2 := der_big hM fh0 (fin_psc K (fin_der fh0)) (cpr_scr hK c0) (Ke * Lw) (Rat.mul_nonneg hKe hLw)
  have n3 := der_big hM fh0 (fin_psc K (fin_der fh0)) (cpr_scr hK c0) (Lh * Kd) (Rat.mul_nonneg hLh hKd)
  refine nr_imp (nr_and (nr_and n1 ih) (nr_and n2 n3)) (fun x y hx hy hxy hp hn => ?_)
  obtain ⟨⟨⟨p1, _, p2⟩, p3⟩, p4, p5⟩ := hp
  have v1 : (K : Rat) * vl e0 x = (K : Rat) * vl (der h0) x + vl e1 x * vl w x := by
    have : vl (psc K e0) x = vl (pad (psc K (der h0)) (pmu e1 w)) x := congrArg (fun f => vl f x) hc
    rw [vl_psc fe0, vl_lin (fin_der fh0) (fin_pmu fe1 fw), vl_pmu fe1 fw] at this
    exact this
  have v2 : (K : Rat) * vl (der h0) x = vl (der h1) x * vl w x + vl h1 x * vl (der w) x := by
    have : vl (psc K (der h0)) x = vl (pad (pmu (der h1) w) (pmu h1 (der w))) x := congrArg (fun f => vl f x) hd
    rw [vl_psc (fin_der fh0), vl_pad (fin_pmu (fin_der fh1) fw) (fin_pmu fh1 (fin_der fw)), vl_pmu (fin_der fh1) fw, vl_pmu fh1 (fin_der fw)] at this
    exact this
  have p4' := p4 hn
  have p5' := p5 hn
  rw [vl_psc (fin_der fh0)] at p4' p5'
  apply sgq_cancel (ic_ne hK)
  rcases p2 hn with ⟨q1, q2⟩ | ⟨q1, q2⟩
  · -- h1 turns
    have a1 := nkp_sm q1 (w2 x y hx hy (Rat.le_of_lt hxy))
    have a2 := inM_mul a1 (w4 x hx) (inM_sc hxy hLh) hKd
    have a3 : inM (Lh * Kd * (y - x)) (vl (der h1) x * vl w x - (K : Rat) * vl (der h0) x) := by
      obtain ⟨b1, b2⟩ := a2
      constructor <;> grind
    obtain ⟨a4, a5⟩ := sgq_near a3 p5'
    have a6 := p3 q1
    have a7 : sgq (vl e1 x * vl w x) = sgq ((K : Rat) * vl (der h0) x) := by
      rw [← a4, sgq_mul, sgq_mul, a6]
    rw [v1]
    exact sgq_sum a7.symm a5
  · -- w turns
    have a1 := nkp_sm q2 (w1 x y hx hy (Rat.le_of_lt hxy))
    have a2 := inM_mul (w3 x hx) a1 hKe (inM_sc hxy hLw)
    have a3 : inM (Ke * Lw * (y - x)) ((K : Rat) * vl e0 x - (K : Rat) * vl (der h0) x) := by
      obtain ⟨b1, b2⟩ := a2
      constructor <;> grind
    exact (sgq_near a3 p4').1
theorem lev_jmp {M : Rat} (hM : 0 ≤ M) {h0 h1 w : Pl} {K : Int} (hK : K ≠ 0) (fh0 : fin h0) (fh1 : fin h1) (fw : fin w) (hb : psc K h0 = pmu h1 w) (hc : cpr h1 w) :
    nr M (fun x y => jmp h1 x y ≤ jmp h0 x y) := by
  refine nr_imp (lev_turn hM hK fh0 fh1 fw hb hc) (fun x y hx hy hxy hp => ?_)
  obtain ⟨p1, p2, _⟩ := hp
  have hkn : sgq (K : Rat) ≠ 0 := fun h => ic_ne hK (sgq_0.mp h)
  unfold jmp
  by_cases h : sgq (vl h1 x) ≠ 0 ∧ sgq (vl h1 x) ≠ sgq (vl h1 y)
  · obtain ⟨h2, h3⟩ := h
    have h4 : kp (vl w) x y := by
      rcases p2 with h5 | h5
      · exact absurd h5.1 h3
      · exact h5
    obtain ⟨b1, b2⟩ := h4
    have e1 := p1 x
    have e2 := p1 y
    rw [← b1] at e2
    rw [if_pos ⟨h2, h3⟩, if_pos]
    · exact Nat.le_refl _
    · refine ⟨fun h => ?_, fun h => ?_⟩
      · rw [h, Int.mul_zero] at e1
        rcases Int.mul_eq_zero.mp e1.symm with h | h
        · exact h2 h
        · exact b2 h
      · rw [← h, e1] at e2
        exact h3 (Int.eq_of_mul_eq_mul_right b2 e2)
  · rw [if_neg h]; exact Nat.zero_le _
