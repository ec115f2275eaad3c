/-! ===== Sturm, step by step ===== -/
/-- a sequence whose last member is a number -/
def stch (e : Nat → Pl) (n : Nat) : Prop :=
  (∀ k, k ≤ n → fin (e k)) ∧ (∃ c, c ≠ 0 ∧ e n = pcn c) ∧
  ∀ k, k + 2 ≤ n → ∃ (β s : Int) (q : Pl), 0 < β ∧ s < 0 ∧ fin q ∧ psc β (e k) = pad (psc s (e (k + 2))) (pmu q (e (k + 1)))
theorem cpr_ring {A : Type} (I : Lean.Grind.CommRing A) (U W a b c q β s κ : A) (h : U * b + W * c = κ) (he : β * a = s * c + q * b) :
    (W * β) * a + (s * U - W * q) * b = s * κ := by grind
theorem cpr_up {a b c q : Pl} {β s : Int} (hq : fin q) (hs : s ≠ 0) (he : psc β a = pad (psc s c) (pmu q b)) (h : cpr b c) : cpr a b := by
  obtain ⟨U, W, κ, hU, hW, hκ, hk⟩ := h
  rw [← pcn_mu, ← pcn_mu] at he
  have h1 := cpr_ring rP U W a b c q (pcn β) (pcn s) (pcn κ) hk he
  refine ⟨pmu W (pcn β), psb (pmu (pcn s) U) (pmu W q), s * κ, fin_pmu hW (fin_pcn _), fin_psb (fin_pmu (fin_pcn _) hU) (fin_pmu hW hq), Int.mul_ne_zero hs hκ, ?_⟩
  have h2 : pcn (s * κ) = pmu (pcn s) (pcn κ) := by
    rw [pcn_mu]
    exact pl_ext (fun k => by simp only [pcn, psc]; split <;> simp)
  rw [h2]
  exact h1
theorem stch_cpr {e : Nat → Pl} {n : Nat} (h : stch e n) : ∀ m k, k + m + 1 = n → cpr (e k) (e (k + 1))
  | 0, k, hk => by
    obtain ⟨_, ⟨c, hc, h2⟩, _⟩ := h
    have e1 : e (k + 1) = pcn c := by rw [← h2, ← hk]
    refine ⟨pz, pcn 1, c, ⟨0, fun k _ => rfl⟩, fin_pcn 1, hc, ?_⟩
    rw [pmu_z, pmu_one, e1]
    exact pl_ext (fun k => by simp [pad, pz])
  | m + 1, k, hk => by
    have h1 := stch_cpr h m (k + 1) (by omega)
    obtain ⟨_, _, h3⟩ := h
    obtain ⟨β, s, q, hβ, hs, hq, he⟩ := h3 k (by omega)
    exact cpr_up hq (by omega) he h1
/-- h goes where d points -/
def drc (M : Rat) (h d : Pl) : Prop := nr M (fun x y => ¬ kp (vl h) x y → (0 < vl d x → vl h x < vl h y) ∧ (vl d x < 0 → vl h y < vl h x))
/-- one change less where h turns from a sign -/
noncomputable def jmp (h : Pl) (x y : Rat) : Nat := if sgq (vl h x) ≠ 0 ∧ sgq (vl h x) ≠ sgq (vl h y) then 1 else 0
noncomputable def vcs (e : Nat → Pl) (n : Nat) (x : Rat) : Nat := vch (fun k => vl (e k)) n x
theorem stu_near {M : Rat} (hM : 0 ≤ M) {e : Nat → Pl} {n : Nat} (h : stch e n) (hn : 1 ≤ n) (hd : drc M (e 0) (e 1)) :
    nr M (fun x y => vcs e n x = vcs e n y + jmp (e 0) x y) := by
  have hc : ∀ k, k < n → cpr (e k) (e (k + 1)) := fun k hk => stch_cpr h (n - 1 - k) k (by omega)
  obtain ⟨h1, ⟨c, hc0, h2⟩, h3⟩ := h
  have n1 : nr M (fun x y => ∀ k, k < n → kp (vl (e k)) x y ∨ kp (vl (e (k + 1))) x y) :=
    nr_all n (fun k hk => nr_cpr hM (h1 k (by omega)) (h1 (k + 1) (by omega)) (hc k hk))
  have n2 : nr M (fun x y => ∀ k, k < n - 1 → ¬ kp (vl (e (k + 1))) x y → sgq (vl (e (k + 2)) x) = - sgq (vl (e k) x)) :=
    nr_all (n - 1) (fun k hk => by
      obtain ⟨β, s, q, hβ, hs, hq, he⟩ := h3 k (by omega)
      exact nr_opp hM (h1 k (by omega)) (h1 (k + 1) (by omega)) (h1 (k + 2) (by omega)) hq hβ hs he (hc (k + 1) (by omega)) (hc k (by omega)))
  refine nr_imp (nr_and (nr_and n1 n2) hd) (fun x y hx hy hxy hp => ?_)
  obtain ⟨⟨p1, p2⟩, p3⟩ := hp
  have hl : kps (fun k => vl (e k)) x y n := by
    show sgq (vl (e n) x) = sgq (vl (e n) y) ∧ sgq (vl (e n) x) ≠ 0
    rw [h2, vl_pcn, vl_pcn]
    exact ⟨rfl, fun h => ic_ne hc0 (sgq_0.mp h)⟩
  have p1' : ∀ k, k < n → kps (fun k => vl (e k)) x y k ∨ kps (fun k => vl (e k)) x y (k + 1) := p1
  have p2' : ∀ k, k + 2 ≤ n → ¬ kps (fun k => vl (e k)) x y (k + 1) → sgq (vl (e (k + 2)) x) = - sgq (vl (e k) x) := fun k hk => p2 k (by omega)
  by_cases h0 : kp (vl (e 0)) x y
  · have h4 := vch_kp hl p1' p2' h0
    have h5 : jmp (e 0) x y = 0 := by
      unfold jmp
      rw [if_neg]
      intro h6
      exact h6.2 h0.1
    show vch _ n x = vch _ n y + _
    rw [h4, h5]; rfl
  · have h4 : kps (fun k => vl (e k)) x y 1 := by
      rcases p1 0 (by omega) with h | h
      · exact absurd h h0
      · exact h
    have h5 := vch_fl (by omega) hl p1' p2' h4
    obtain ⟨q1, q2⟩ := p3 h0
    obtain ⟨h6, h7⟩ := h4
    show vch _ n x = vch _ n y + _
    simp only at h5 h6 h7
    have h0' : ¬ (sgq (vl (e 0) x) = sgq (vl (e 0) y) ∧ sgq (vl (e 0) x) ≠ 0) := h0
    unfold jmp
    rw [← h6] at h5
    rcases sgq_t (vl (e 1) x) with ⟨a1, a2⟩ | ⟨a1, a2⟩ | ⟨a1, a2⟩
    · have a3 := q2 a2
      rw [a1] at h5
      rcases sgq_t (vl (e 0) x) with ⟨b1, b2⟩ | ⟨b1, b2⟩ | ⟨b1, b2⟩ <;> rcases sgq_t (vl (e 0) y) with ⟨b3, b4⟩ | ⟨b3, b4⟩ | ⟨b3, b4⟩ <;>
        rw [b1, b3] at h0' h5 ⊢ <;> first | (exfalso; apply h0'; decide) | (exfalso; grind) | (simpa using h5)
    · exact absurd a1 h7
    · have a3 := q1 a2
      rw [a1] at h5
      rcases sgq_t (vl (e 0) x) with ⟨b1, b2⟩ | ⟨b1, b2⟩ | ⟨b1, b2⟩ <;> rcases sgq_t (vl (e 0) y) with ⟨b3, b4⟩ | ⟨b3, b4⟩ | ⟨b3, b4⟩ <;>
        rw [b1, b3] at h0' h5 ⊢ <;> first | (exfalso; apply h0'; decide) | (exfalso; grind) | (simpa using h5)
/-- where h turns its derivative is not small, and h goes where it points -/
theorem der_big {M : Rat} (hM : 0 ≤ M) {h d : Pl} (hh : fin h) (hd : fin d) (hc : cpr h d) (C : Rat) (hC : 0 ≤ C) :
    nr M (fun x y => ¬ kp (vl h) x y → ¬ inM (C * (y - x)) (vl d x)) := by
  obtain ⟨U, W, κ, hU, hW, hκ, hk⟩ := hc
  obtain ⟨L, hL, h2⟩ := vl_lip hh hM
  obtain ⟨Ku, hKu, h3⟩ := vl_bdd hU hM
  obtain ⟨Kw, hKw, h4⟩ := vl_bdd hW hM
  have h0 := nr_not (M := M) (T := Ku * L + Kw * C) (κ := κ) (by have := Rat.mul_nonneg hKu hL; have := Rat.mul_nonneg hKw hC; grind) (ic_ne hκ)
  refine nr_imp h0 (fun x y hx hy hxy hn hnk hin => ?_)
  have a1 := nkp_sm hnk (h2 x y hx hy (Rat.le_of_lt hxy))
  have a3 := inM_add (inM_mul (h3 x hx) a1 hKu (inM_sc hxy hL)) (inM_mul (h4 x hx) hin hKw (inM_sc hxy hC))
  rw [cpr_vl hh hd hU hW hk] at a3
  apply hn
  exact inM_le a3 (by grind)
theorem drc_der {M : Rat} (hM : 0 ≤ M) {h : Pl} (hh : fin h) (hc : cpr h (der h)) : drc M h (der h) := by
  obtain ⟨C, hC, h1⟩ := vl_tay hh hM
  refine nr_imp (der_big hM hh (fin_der hh) hc C hC) (fun x y hx hy hxy hp hnk => ?_)
  have h2 := hp hnk
  obtain ⟨h3, h4⟩ := h1 x y hx hy
  have ht : 0 < y - x := by grind
  constructor
  · intro hpos
    have h5 : C * (y - x) < vl (der h) x := by
      apply Classical.byContradiction
      intro hn
      apply h2
      constructor <;> grind
    have h6 : (y - x) * (C * (y - x)) < (y - x) * vl (der h) x := Rat.mul_lt_mul_of_pos_left h5 ht
    grind
  · intro hneg
    have h5 : vl (der h) x < -(C * (y - x)) := by
      apply Classical.byContradiction
      intro hn
      apply h2
      constructor <;> grind
    have h6 : (y - x) * vl (der h) x < (y - x) * (-(C * (y - x))) := Rat.mul_lt_mul_of_pos_left h5 ht
    grind
/-- another that has its sign there -/
theorem drc_sgn {M : Rat} {h d d' : Pl} (hd : drc M h d) (hs : nr M (fun x y => ¬ kp (vl h) x y → sgq (vl d' x) = sgq (vl d x))) : drc M h d' := by
  refine nr_imp (nr_and hd hs) (fun x y hx hy hxy hp hnk => ?_)
  obtain ⟨p1, p2⟩ := hp
  have h1 := p1 hnk
  have h2 := p2 hnk
  refine ⟨fun h3 => h1.1 (sgq_1.mp (by rw [← h2]; exact sgq_1.mpr h3)), fun h3 => h1.2 (sgq_m.mp (by rw [← h2]; exact sgq_m.mpr h3))⟩
