/-! ===== own sequences; signs far out ===== -/
theorem fin_top {f : Pl} (hf : fin f) (h0 : f ≠ pz) : ∃ d, dgr f d := by
  obtain ⟨n, hn⟩ := hf
  induction n with
  | zero => exact absurd (pl_ext (fun k => hn k (Nat.zero_le _))) h0
  | succ n ih =>
    by_cases h : f n = 0
    · refine ih (fun k hk => ?_)
      by_cases hk2 : k = n
      · subst hk2; exact h
      · exact hn k (by omega)
    · exact ⟨n, h, hn⟩
theorem unit_dg {g X : Pl} {κ : Int} (hX : fin X) (hg : ∃ d, dgr g d) (hκ : κ ≠ 0) (h : pmu g X = pcn κ) : dgr g 0 := by
  obtain ⟨d, hd⟩ := hg
  have hX0 : X ≠ pz := fun hx => by
    rw [hx, pmu_comm, pmu_z] at h
    have := congrFun h 0
    have : (0 : Int) = κ := this
    omega
  obtain ⟨e, he⟩ := fin_top hX hX0
  have ht := pmu_top (m := d) (n := e) (fun t ht => hd.2 t ht) (fun t ht => he.2 t ht)
  rw [h] at ht
  by_cases hde : d = 0
  · subst hde; exact hd
  · exfalso
    have h1 : pcn κ (d + e) = 0 := by show (if d + e = 0 then κ else 0) = 0; rw [if_neg (by omega)]
    rw [h1] at ht
    exact Int.mul_ne_zero hd.1 he.1 ht.symm
theorem unit_r {A : Type} (I : Lean.Grind.CommRing A) (U W g u v κ : A) (h : U * (g * u) + W * (g * v) = κ) : g * (U * u + W * v) = κ := by grind
/-- a polynomial without a root in common with its derivative: its own sequence counts -/
theorem own_stv {h : Pl} {s M : Nat} (hg : gdp h (der h) s) (he : ends h (der h) M) (hc : cpr h (der h)) : ppt (mm h (der h) (M - 1)) = pcn 1 ∧ dgg (mm h (der h) (M - 1)) = 0 ∧ stv h (vcs (cc h (der h)) (M - 1)) := by
  have h2 := he.1
  have fh : fin h := ⟨9, hg.1⟩
  obtain ⟨l1, l2⟩ := ends_last hg he
  obtain ⟨g1, g2, g3, g4, g5, g6⟩ := ppt_ok l1 l2
  obtain ⟨a1, a2⟩ := cof_ok hg he (show 0 < M by omega)
  obtain ⟨b1, b2⟩ := cof_ok hg he (show 1 < M by omega)
  have a2 : h = pmu (ppt (mm h (der h) (M - 1))) (cof h (der h) M 0) := a2
  have b2 : der h = pmu (ppt (mm h (der h) (M - 1))) (cof h (der h) M 1) := b2
  have hdr : ∀ M, 0 ≤ M → drc M h (der h) := fun M hM => drc_der hM fh hc
  obtain ⟨U, W, κ, fU, fW, hκ, hk⟩ := hc
  have e1 : pmu (ppt (mm h (der h) (M - 1))) (pad (pmu U (cof h (der h) M 0)) (pmu W (cof h (der h) M 1))) = pcn κ := by
    refine unit_r rP U W (ppt (mm h (der h) (M - 1))) (cof h (der h) M 0) (cof h (der h) M 1) (pcn κ) ?_
    show pad (pmu U (pmu _ _)) (pmu W (pmu _ _)) = pcn κ
    rw [← a2, ← b2]
    exact hk
  have hd0 := unit_dg (fin_pad (fin_pmu fU a1) (fin_pmu fW b1)) ⟨_, g5⟩ hκ e1
  have hdd : dgg (mm h (der h) (M - 1)) = 0 := by
    have x1 := g5.1
    apply Classical.byContradiction
    intro hh
    exact x1 (hd0.2 _ (by omega))
  rw [hdd] at g6
  have hone := prm_one hd0.2 g1 g6
  refine ⟨hone, hdd, ?_⟩
  have hcc : ∀ i, i < M → cc h (der h) i = cce h (der h) M i := fun i hi => by
    rw [(cce_ok hg he hi).2, hone, pmu_one]
  have hst : stch (cc h (der h)) (M - 1) := by
    obtain ⟨q1, ⟨c, q2, q3⟩, q4⟩ := cce_st hg he
    refine ⟨fun k hk => by rw [hcc k (by omega)]; exact q1 k hk, ⟨c, q2, by rw [hcc _ (by omega)]; exact q3⟩, fun k hk => ?_⟩
    rw [hcc k (by omega), hcc (k + 1) (by omega), hcc (k + 2) (by omega)]
    exact q4 k hk
  intro Mb hM
  have hd := hdr Mb hM
  have := stu_near (e := cc h (der h)) hM hst (by omega) (by rw [cc_0, cc_1]; exact hd)
  rw [cc_0] at this
  exact this
-- changes of rows without zeros
def cnn (σ : Nat → Int) : Nat → Nat
  | 0 => 0
  | k + 1 => cnn σ k + (if σ (k + 1) = σ k then 0 else 1)
theorem scv_cn {e : Nat → Rat → Rat} {x : Rat} {σ : Nat → Int} : ∀ (m i : Nat) (b : Int), (∀ k, k ≤ m → sgq (e (i + k) x) = σ (i + k) ∧ (σ (i + k) = 1 ∨ σ (i + k) = -1)) → scv b (srw e x i m) = (if σ i = -b then 1 else 0) + (cnn (fun k => σ (i + k)) m)
  | 0, i, b, h => by
    have h0 := h 0 (Nat.le_refl _)
    rw [Nat.add_zero] at h0
    simp only [srw, scv, h0.1, cnn]
    rw [if_neg (by omega)]
  | m + 1, i, b, h => by
    have h0 := h 0 (by omega)
    have h1 := h 1 (by omega)
    rw [Nat.add_zero] at h0
    have ih := scv_cn m (i + 1) (σ i) (fun k hk => by have := h (k + 1) (by omega); rw [show i + (k + 1) = i + 1 + k by omega] at this; exact this)
    simp only [srw, scv, h0.1]
    rw [if_neg (by omega), ih]
    have hsh : ∀ n, cnn (fun k => σ (i + k)) (n + 1) = (if σ (i + 1) = σ i then 0 else 1) + cnn (fun k => σ (i + 1 + k)) n := by
      intro n
      induction n with
      | zero => simp only [cnn, Nat.zero_add, Nat.add_zero]
      | succ n ihn =>
        rw [cnn, ihn]
        simp only [cnn]
        rw [show i + (n + 1 + 1) = i + 1 + (n + 1) by omega, show i + (n + 1) = i + 1 + n by omega]
        omega
    rw [hsh m]
    have : (if σ (i + 1) = -σ i then 1 else 0) = (if σ (i + 1) = σ i then 0 else (1 : Nat)) := by
      rcases h0.2 with a | a <;> rcases h1.2 with c | c <;> rw [a, c] <;> rfl
    rw [this]
theorem vcs_cn {e : Nat → Pl} {n : Nat} {x : Rat} {σ : Nat → Int} (h : ∀ k, k ≤ n → sgq (vl (e k) x) = σ k ∧ (σ k = 1 ∨ σ k = -1)) : vcs e n x = cnn σ n := by
  have := scv_cn (e := fun k => vl (e k)) (x := x) (σ := σ) n 0 0 (fun k hk => by rw [Nat.zero_add]; exact h k hk)
  have h0 := (h 0 (by omega)).2
  rw [if_neg (by omega), Nat.zero_add] at this
  have e9 : (fun k => σ (0 + k)) = σ := by funext k; rw [Nat.zero_add]
  rw [e9] at this
  exact this
theorem cnn_congr {σ τ : Nat → Int} : ∀ {n : Nat}, (∀ k, k ≤ n → σ k = τ k) → cnn σ n = cnn τ n
  | 0, _ => rfl
  | n + 1, h => by
    simp only [cnn]
    rw [cnn_congr (fun k hk => h k (by omega)), h n (by omega), h (n + 1) (by omega)]
theorem chR_cn (p q : Pl) : ∀ n, chR p q n = cnn (sgR p q) n
  | 0 => rfl
  | n + 1 => by simp only [chR, cnn, chR_cn p q n]
theorem chL_cn (p q : Pl) : ∀ n, chL p q n = cnn (sgL p q) n
  | 0 => rfl
  | n + 1 => by simp only [chL, cnn, chL_cn p q n]
theorem isg_sign (a : Int) : isg a = a.sign := by
  unfold isg
  rcases Int.lt_trichotomy a 0 with h | h | h
  · rw [if_pos h, Int.sign_eq_neg_one_of_neg h]
  · rw [h]; rfl
  · rw [if_neg (by omega), if_neg (by omega), Int.sign_eq_one_of_pos h]
theorem alt_pow : ∀ n, alt n = (-1 : Int) ^ n
  | 0 => rfl
  | n + 1 => by rw [alt, alt_pow n, Int.pow_succ]; omega
/-- far out the changes are those of the leads -/
theorem far_cn {p q : Pl} {s M : Nat} (h : gdp p q s) (he : ends p q M) : ∃ A : Int, 0 ≤ A ∧ (∀ x : Rat, (A : Rat) + 1 ≤ x → vcs (cc p q) (M - 1) x = chR p q (M - 1)) ∧ (∀ x : Rat, x ≤ -((A : Rat) + 1) → vcs (cc p q) (M - 1) x = chL p q (M - 1)) := by
  have h2 := he.1
  refine ⟨2 ^ 600, by decide, fun x hx => ?_, fun x hx => ?_⟩
  · rw [chR_cn]
    refine vcs_cn (fun k hk => ?_)
    obtain ⟨l1, l2, l3⟩ := ends_sg h he (show k < M by omega)
    obtain ⟨c1, c2, c3⟩ := cc_sz h he (show k < M by omega)
    have hd : dgr (cc p q k) (dgg (mm p q k)) := ⟨by show lo p q k * _ ≠ 0; exact Int.mul_ne_zero (by omega) l2.1, c3⟩
    have := (far_r hd (A := 2 ^ 600) (by decide) (fun j _ => by
      have := c1 j
      unfold szb at this
      have e : ((2 ^ 600 : Nat) : Int) = 2 ^ 600 := by simp
      omega) hx).1
    rw [isg_sign] at this
    exact ⟨this, l3⟩
  · rw [chL_cn]
    refine vcs_cn (fun k hk => ?_)
    obtain ⟨l1, l2, l3⟩ := ends_sg h he (show k < M by omega)
    obtain ⟨c1, c2, c3⟩ := cc_sz h he (show k < M by omega)
    have hd : dgr (cc p q k) (dgg (mm p q k)) := ⟨by show lo p q k * _ ≠ 0; exact Int.mul_ne_zero (by omega) l2.1, c3⟩
    have := (far_l hd (A := 2 ^ 600) (by decide) (fun j _ => by
      have := c1 j
      unfold szb at this
      have e : ((2 ^ 600 : Nat) : Int) = 2 ^ 600 := by simp
      omega) hx).1
    rw [isg_sign, alt_pow] at this
    refine ⟨this, ?_⟩
    unfold sgL
    rw [m1_pow]
    split <;> omega
