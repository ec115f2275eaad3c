/-! ===== how large the numbers of a factor are ===== -/
def fct : Nat → Int
  | 0 => 1
  | n + 1 => fct n * ((n : Int) + 1)
theorem fct_pos : ∀ n, 0 < fct n
  | 0 => by simp [fct]
  | n + 1 => by simp only [fct]; exact Int.mul_pos (fct_pos n) (by omega)
def ipr (N : Nat) (f g : Pl) : Int := smm N (fun k => fct k * (f k * g k))
theorem smm_lin (c : Int) (F G H : Nat → Int) : ∀ n, (∀ k, k < n → F k = c * G k + H k) → smm n F = c * smm n G + smm n H
  | 0, _ => by simp [smm]
  | n + 1, h => by
    simp only [smm, smm_lin c F G H n (fun k hk => h k (by omega)), h n (by omega)]; grind
theorem smm_cg {F G : Nat → Int} : ∀ n, (∀ k, k < n → F k = G k) → smm n F = smm n G
  | 0, _ => rfl
  | n + 1, h => by simp only [smm, smm_cg n (fun k hk => h k (by omega)), h n (by omega)]
theorem smm_nn {F : Nat → Int} : ∀ n, (∀ k, k < n → 0 ≤ F k) → 0 ≤ smm n F
  | 0, _ => by simp [smm]
  | n + 1, h => by
    have := smm_nn n (fun k hk => h k (by omega))
    have := h n (by omega)
    simp only [smm]; omega
theorem ipr_comm (N : Nat) (f g : Pl) : ipr N f g = ipr N g f := smm_cg N (fun k _ => by grind)
theorem ipr_linr (N : Nat) (f : Pl) (c : Int) (g h : Pl) : ipr N f (pad (psc c g) h) = c * ipr N f g + ipr N f h :=
  smm_lin c _ _ _ N (fun k _ => by simp only [pad, psc]; grind)
theorem ipr_linl (N : Nat) (f : Pl) (c : Int) (g h : Pl) : ipr N (pad (psc c g) h) f = c * ipr N g f + ipr N h f := by
  rw [ipr_comm, ipr_linr, ipr_comm N f g, ipr_comm N f h]
theorem ipr_scl (N : Nat) (c : Int) (f g : Pl) : ipr N (psc c f) g = c * ipr N f g := by
  have e : psc c f = pad (psc c f) pz := pl_ext (fun k => by simp [pad, pz])
  have h0 : ipr N pz g = 0 := by
    unfold ipr
    rw [smm_cg (G := fun _ => 0) N (fun k _ => by simp [pz])]
    induction N with
    | zero => rfl
    | succ n ih => simp [smm, ih]
  rw [e, ipr_linl, h0]; omega
theorem ipr_scr (N : Nat) (c : Int) (f g : Pl) : ipr N f (psc c g) = c * ipr N f g := by
  rw [ipr_comm, ipr_scl, ipr_comm]
theorem ipr_zl (N : Nat) (g : Pl) : ipr N pz g = 0 := by
  have := ipr_scl N 0 pz g
  have e : psc 0 pz = pz := pl_ext (fun k => by simp [psc, pz])
  rw [e] at this; omega
theorem ipr_nn (N : Nat) (f : Pl) : 0 ≤ ipr N f f := smm_nn N (fun k _ => by
  have h1 := fct_pos k
  have h2 : 0 ≤ f k * f k := by
    rcases Int.le_total 0 (f k) with h | h
    · exact Int.mul_nonneg h h
    · exact Int.mul_nonneg_of_nonpos_of_nonpos h h
  exact Int.mul_nonneg (by omega) h2)
theorem ipr_x {N : Nat} {f : Pl} (h : Pl) (hf : pbd N f) : ipr N f (shf 1 h) = ipr N (der f) h := by
  unfold ipr
  have e1 : ∀ n, smm (n + 1) (fun k => fct k * (f k * shf 1 h k)) = smm n (fun k => fct k * (der f k * h k)) := by
    intro n
    rw [smm_front]
    have : fct 0 * (f 0 * shf 1 h 0) = 0 := by simp [shf]
    rw [this, Int.zero_add]
    refine smm_cg n (fun k _ => ?_)
    simp only [fct, der, shf, Nat.add_sub_cancel]
    have h1 : ¬ (k + 1 < 1) := by omega
    simp only [h1, if_false]; grind
  have e2 := e1 N
  rw [← e2]
  simp only [smm, hf N (Nat.le_refl _)]; grind
/-- what a divided derivative of P, in the derivative, makes of g -/
def hsl : Nat → Pl → Nat → Pl → Pl
  | 0, _, _, _ => pz
  | n + 1, P, 0, g => pad (psc (P 0) g) (hsl n (ptl P) 0 (der g))
  | n + 1, P, a + 1, g => pad (hsl n (ptl P) a g) (hsl n (ptl P) (a + 1) (der g))
theorem pbd_der {N : Nat} {f : Pl} (h : pbd N f) : pbd N (der f) := fun k hk => by
  simp only [der, h (k + 1) (by omega)]; omega
theorem hsl_addg : ∀ (n : Nat) (P : Pl) (a : Nat) (f g : Pl), hsl n P a (pad f g) = pad (hsl n P a f) (hsl n P a g)
  | 0, P, a, f, g => by simp only [hsl]; exact pl_ext (fun k => by simp [pad, pz])
  | n + 1, P, 0, f, g => by
    simp only [hsl, der_pad, hsl_addg n]
    exact pl_ext (fun k => by simp only [pad, psc]; grind)
  | n + 1, P, a + 1, f, g => by
    simp only [hsl, der_pad, hsl_addg n]
    exact pl_ext (fun k => by simp only [pad]; grind)
theorem hsl_addP : ∀ (n : Nat) (P Q : Pl) (a : Nat) (g : Pl), hsl n (pad P Q) a g = pad (hsl n P a g) (hsl n Q a g)
  | 0, P, Q, a, g => by simp only [hsl]; exact pl_ext (fun k => by simp [pad, pz])
  | n + 1, P, Q, 0, g => by
    have e : ptl (pad P Q) = pad (ptl P) (ptl Q) := rfl
    simp only [hsl, e, hsl_addP n]
    exact pl_ext (fun k => by simp only [pad, psc]; grind)
  | n + 1, P, Q, a + 1, g => by
    have e : ptl (pad P Q) = pad (ptl P) (ptl Q) := rfl
    simp only [hsl, e, hsl_addP n]
    exact pl_ext (fun k => by simp only [pad]; grind)
theorem hsl_hi : ∀ (n : Nat) (P : Pl) (a : Nat) (g : Pl), n ≤ a → hsl n P a g = pz
  | 0, P, a, g, _ => by simp [hsl]
  | n + 1, P, 0, g, h => by omega
  | n + 1, P, a + 1, g, h => by
    simp only [hsl, hsl_hi n _ a g (by omega), hsl_hi n _ (a + 1) (der g) (by omega)]
    exact pl_ext (fun k => by simp [pad, pz])
theorem hsl_top : ∀ (n : Nat) (P : Pl) (g : Pl), hsl (n + 1) P n g = psc (P n) g
  | 0, P, g => by
    simp only [hsl]
    exact pl_ext (fun k => by simp [pad, pz])
  | n + 1, P, g => by
    show pad (hsl (n + 1) (ptl P) n g) (hsl (n + 1) (ptl P) (n + 1) (der g)) = _
    rw [hsl_top n, hsl_hi (n + 1) _ (n + 1) _ (Nat.le_refl _)]
    exact pl_ext (fun k => by simp [pad, pz, ptl])
theorem ipr_mu {N : Nat} (g : Pl) : ∀ (n : Nat) (P f : Pl), pbd n P → pbd N f → ipr N f (pmu P g) = ipr N (hsl n P 0 f) g
  | 0, P, f, hP, hf => by
    have : P = pz := pl_ext (fun k => hP k (by omega))
    rw [this, pmu_z]
    simp only [hsl]
    rw [ipr_comm, ipr_zl, ipr_zl]
  | n + 1, P, f, hP, hf => by
    have e : pmu P g = pad (psc (P 0) g) (shf 1 (pmu (ptl P) g)) := pl_ext (fun k => by
      cases k with
      | zero => simp [pmu, pmn, pad, psc, shf]
      | succ k =>
        have : ¬ (k + 1 < 1) := by omega
        simp only [pad, psc, shf, this, if_false, Nat.add_sub_cancel]
        rfl)
    rw [e, ipr_linr, ipr_x _ hf, ipr_mu g n (ptl P) (der f) (fun k hk => hP (k + 1) (by omega)) (pbd_der hf)]
    simp only [hsl]
    rw [ipr_linl]
def dit : Nat → Pl → Pl
  | 0, f => f
  | n + 1, f => dit n (der f)
theorem dit_s : ∀ (n : Nat) (f : Pl), dit (n + 1) f = der (dit n f)
  | 0, f => rfl
  | n + 1, f => dit_s n (der f)
def pss : Nat → (Nat → Pl) → Pl
  | 0, _ => pz
  | n + 1, F => pad (pss n F) (F n)
theorem pss_front : ∀ (n : Nat) (F : Nat → Pl), pss (n + 1) F = pad (F 0) (pss n (fun i => F (i + 1)))
  | 0, F => by simp only [pss]; exact pl_ext (fun k => by simp [pad, pz])
  | n + 1, F => by
    have := pss_front n F
    simp only [pss] at this ⊢
    rw [this, pad_assoc]
theorem pss_add : ∀ (n : Nat) (F G H : Nat → Pl), (∀ k, k < n → F k = pad (G k) (H k)) → pss n F = pad (pss n G) (pss n H)
  | 0, F, G, H, _ => by simp only [pss]; exact pl_ext (fun k => by simp [pad, pz])
  | n + 1, F, G, H, h => by
    simp only [pss, pss_add n F G H (fun k hk => h k (by omega)), h n (by omega)]
    exact pl_ext (fun k => by simp only [pad]; grind)
theorem hsl_leib (f g : Pl) : ∀ (n : Nat) (P : Pl) (f g : Pl), hsl n P 0 (pmu f g) = pss n (fun a => pmu (dit a f) (hsl n P a g))
  | 0, P, f, g => by simp [hsl, pss]
  | n + 1, P, f, g => by
    have h1 := hsl_leib f g n (ptl P) (der f) g
    have h2 := hsl_leib f g n (ptl P) f (der g)
    have h3 : pss n (fun a => pmu (dit a f) (hsl n (ptl P) a (der g))) = pss (n + 1) (fun a => pmu (dit a f) (hsl n (ptl P) a (der g))) := by
      simp only [pss]
      rw [hsl_hi n _ n _ (Nat.le_refl _), pmu_comm _ pz, pmu_z]
      exact pl_ext (fun k => by simp [pad, pz])
    rw [h3, pss_front] at h2
    rw [pss_front]
    simp only [hsl]
    rw [der_pmu, hsl_addg, h1, h2]
    rw [pss_add n (fun i => pmu (dit (i + 1) f) (pad (hsl n (ptl P) i g) (hsl n (ptl P) (i + 1) (der g)))) (fun i => pmu (dit i (der f)) (hsl n (ptl P) i g)) (fun i => pmu (dit (i + 1) f) (hsl n (ptl P) (i + 1) (der g))) (fun k _ => by rw [pmu_addr]; rfl)]
    simp only [dit]
    rw [pmu_addr, psc_mur]
    exact pl_ext (fun k => by simp only [pad]; grind)
theorem hsl_der : ∀ (n : Nat) (P : Pl) (b : Nat) (g : Pl), hsl n (der P) b g = psc ((b : Int) + 1) (hsl (n + 1) P (b + 1) g)
  | 0, P, b, g => by
    simp only [hsl]
    exact pl_ext (fun k => by simp [pad, pz, psc])
  | n + 1, P, 0, g => by
    have e1 : ptl (der P) = pad (der (ptl P)) (ptl (ptl P)) := pl_ext (fun k => by simp only [ptl, der, pad]; grind)
    have h1 := hsl_der n (ptl P) 0 (der g)
    show pad (psc (der P 0) g) (hsl n (ptl (der P)) 0 (der g)) = psc _ (pad (hsl (n + 1) (ptl P) 0 g) (hsl (n + 1) (ptl P) 1 (der g)))
    rw [e1, hsl_addP, h1]
    show _ = psc _ (pad (pad (psc (ptl P 0) g) (hsl n (ptl (ptl P)) 0 (der g))) (hsl (n + 1) (ptl P) 1 (der g)))
    exact pl_ext (fun k => by simp only [pad, psc, der, ptl]; grind)
  | n + 1, P, b + 1, g => by
    have e1 : ptl (der P) = pad (der (ptl P)) (ptl (ptl P)) := pl_ext (fun k => by simp only [ptl, der, pad]; grind)
    have h1 := hsl_der n (ptl P) b g
    have h2 := hsl_der n (ptl P) (b + 1) (der g)
    show pad (hsl n (ptl (der P)) b g) (hsl n (ptl (der P)) (b + 1) (der g)) = psc _ (pad (hsl (n + 1) (ptl P) (b + 1) g) (hsl (n + 1) (ptl P) (b + 2) (der g)))
    rw [e1, hsl_addP, hsl_addP, h1, h2]
    have h3 : hsl (n + 1) (ptl P) (b + 1) g = pad (hsl n (ptl (ptl P)) b g) (hsl n (ptl (ptl P)) (b + 1) (der g)) := rfl
    refine pl_ext (fun k => ?_)
    have h4 := congrFun h3 k
    simp only [pad, psc] at h4 ⊢
    have h5 : (((b + 1 : Nat) : Int)) = (b : Int) + 1 := by omega
    rw [h5]
    generalize hsl (n + 1) (ptl P) (b + 1) g k = X at *
    grind
theorem hsl_dit : ∀ (a n : Nat) (P : Pl) (g : Pl), hsl n (dit a P) 0 g = psc (fct a) (hsl (n + a) P a g) := by
  have key : ∀ (a n : Nat) (P : Pl) (b : Nat) (g : Pl), ∃ c : Int, c * fct b = fct (b + a) ∧ hsl n (dit a P) b g = psc c (hsl (n + a) P (b + a) g) := by
    intro a
    induction a with
    | zero => intro n P b g; exact ⟨1, by simp, pl_ext (fun k => by simp [psc, dit])⟩
    | succ a ih =>
      intro n P b g
      obtain ⟨c, hc, h⟩ := ih n (der P) b g
      refine ⟨c * (((b + a : Nat) : Int) + 1), ?_, ?_⟩
      · show _ = fct (b + a) * (((b + a : Nat) : Int) + 1)
        rw [← hc]; grind
      · show hsl n (dit a (der P)) b g = _
        rw [h, hsl_der]
        show psc c (psc _ (hsl (n + a + 1) P (b + a + 1) g)) = psc _ (hsl (n + a + 1) P (b + a + 1) g)
        exact pl_ext (fun k => by simp only [psc]; rw [Int.mul_assoc])
  intro a n P g
  obtain ⟨c, hc, h⟩ := key a n P 0 g
  have h1 : c = fct a := by simpa [fct] using hc
  rw [h, h1]
  simp
theorem pbd_dit : ∀ (a n : Nat) (P : Pl), pbd n P → pbd (n - a) (dit a P)
  | 0, n, P, h => h
  | a + 1, n, P, h => by
    have h1 : pbd (n - 1) (der P) := fun k hk => by simp only [der, h (k + 1) (by omega)]; omega
    have h2 := pbd_dit a (n - 1) (der P) h1
    have e : n - 1 - a = n - (a + 1) := by omega
    rw [e] at h2
    exact h2
theorem ipr_pss (N : Nat) (g : Pl) : ∀ (n : Nat) (F : Nat → Pl), ipr N (pss n F) g = smm n (fun a => ipr N (F a) g)
  | 0, F => by simp only [pss, smm]; exact ipr_zl N g
  | n + 1, F => by
    simp only [pss, smm]
    rw [← ipr_pss N g n F]
    have e : pad (pss n F) (F n) = pad (psc 1 (pss n F)) (F n) := pl_ext (fun k => by simp [pad, psc])
    rw [e, ipr_linl]; omega
theorem fischer {N n : Nat} {B g : Pl} (hB : pbd (n + 1) B) (hg : pbd N g) (hBg : pbd N (pmu B g)) : fct n * (B n * B n) * ipr N g g ≤ ipr N (pmu B g) (pmu B g) := by
  have h1 := ipr_mu (N := N) g (n + 1) B (pmu B g) hB hBg
  rw [hsl_leib B g, ipr_pss] at h1
  have h2 : ∀ a, a < n + 1 → ipr N (pmu (dit a B) (hsl (n + 1) B a g)) g = fct a * ipr N (hsl (n + 1) B a g) (hsl (n + 1) B a g) := by
    intro a ha
    rw [ipr_comm, ipr_mu (N := N) _ (n + 1 - a) (dit a B) g (pbd_dit a _ B hB) hg, hsl_dit, ipr_scl]
    have e : n + 1 - a + a = n + 1 := by omega
    rw [e]
  rw [h1, smm_cg (n + 1) h2]
  simp only [smm]
  have h3 : 0 ≤ smm n (fun a => fct a * ipr N (hsl (n + 1) B a g) (hsl (n + 1) B a g)) := smm_nn n (fun a _ => Int.mul_nonneg (Int.le_of_lt (fct_pos a)) (ipr_nn N _))
  rw [hsl_top, ipr_scl, ipr_scr]
  have e : fct n * (B n * B n) * ipr N g g = fct n * (B n * (B n * ipr N g g)) := by grind
  omega
