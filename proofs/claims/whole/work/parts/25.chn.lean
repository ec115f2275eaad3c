/-! ===== the sequence: what is divided goes out, and how large its numbers are ===== -/
/-- step k: from members k - 1 and k to member k + 1 -/
def chs (c : Nat → Pl) (d g h : Nat → Nat) (k : Nat) : Prop :=
  ∃ (q : Nat → Int) (β s : Int), dvr β (c (k - 1)) s (c (k + 1)) q (d (k - 1) - d k) (c k) ∧
    β.natAbs = (c k (d k)).natAbs ^ (d (k - 1) - d k + 1) ∧ s.natAbs = g k * h k ^ (d (k - 1) - d k)
/-- members up to k, and what is divided up to there -/
def chn (c : Nat → Pl) (d g h : Nat → Nat) (k : Nat) : Prop :=
  g 1 = 1 ∧ h 1 = 1 ∧ d 1 ≤ d 0 ∧ (∀ i, i ≤ k → (∀ t, d i < t → c i t = 0) ∧ c i (d i) ≠ 0) ∧
  (∀ i, 1 ≤ i → i < k → chs c d g h i ∧ d (i + 1) < d i ∧ g (i + 1) = (c i (d i)).natAbs ∧
    (d i < d (i - 1) → h (i + 1) * h i ^ (d (i - 1) - d i - 1) = (c i (d i)).natAbs ^ (d (i - 1) - d i)) ∧
    (d i = d (i - 1) → h (i + 1) = 1))
theorem pw_step {b h h' u δ : Nat} (hu : 0 < u) (hδ : 0 < δ → h' * h ^ (δ - 1) = b ^ δ) (h0 : δ = 0 → h = 1 ∧ h' = 1) :
    h ^ (δ * u) * h' ^ (u - 1) * b ^ (δ + u) = b ^ ((δ + 1) * u) * h ^ (δ + u - 1) := by
  obtain ⟨w, rfl⟩ : ∃ w, u = w + 1 := ⟨u - 1, by omega⟩
  by_cases hd : δ = 0
  · obtain ⟨rfl, rfl⟩ := h0 hd
    subst hd
    simp
  · obtain ⟨e, rfl⟩ : ∃ e, δ = e + 1 := ⟨δ - 1, by omega⟩
    have h1 := hδ (by omega)
    simp only [Nat.add_sub_cancel] at h1 ⊢
    have h2 : h' ^ w * h ^ (e * w) = b ^ ((e + 1) * w) := by
      rw [Nat.pow_mul, ← Nat.mul_pow, h1, ← Nat.pow_mul]
    have e1 : h ^ ((e + 1) * (w + 1)) = h ^ (e * w) * h ^ (e + 1 + w) := by
      rw [← Nat.pow_add]; congr 1; grind
    have e2 : b ^ ((e + 1 + 1) * (w + 1)) = b ^ ((e + 1) * w) * b ^ (e + 1 + (w + 1)) := by
      rw [← Nat.pow_add]; congr 1; grind
    have e3 : e + 1 + (w + 1) - 1 = e + 1 + w := by omega
    rw [e1, e2, e3, ← h2]
    generalize h ^ (e * w) = X
    generalize h ^ (e + 1 + w) = Y
    generalize h' ^ w = Z
    generalize b ^ (e + 1 + (w + 1)) = W
    grind
theorem chn_mono {c : Nat → Pl} {d g h : Nat → Nat} {k : Nat} (H : chn c d g h (k + 1)) : chn c d g h k := by
  obtain ⟨h1, h2, h3, h4, h5⟩ := H
  exact ⟨h1, h2, h3, fun i hi => h4 i (by omega), fun i h6 h7 => h5 i h6 (by omega)⟩
theorem chn_h0 {c : Nat → Pl} {d g h : Nat → Nat} : ∀ {k : Nat}, chn c d g h k → ∀ i, 1 ≤ i → i ≤ k → 0 < g i ∧ 0 < h i := by
  intro k H i
  induction i with
  | zero => intro h; omega
  | succ i ih =>
    intro hi hk
    obtain ⟨h1, h2, h3, h4, h5⟩ := H
    by_cases hi0 : i = 0
    · subst hi0; simp [h1, h2]
    · obtain ⟨_, h6, h7, h8, h9⟩ := h5 i (by omega) (by omega)
      obtain ⟨_, h10⟩ := h4 i (by omega)
      have hb : 0 < (c i (d i)).natAbs := Int.natAbs_pos.mpr h10
      refine ⟨by rw [h7]; exact hb, ?_⟩
      by_cases hd : d i < d (i - 1)
      · have := h8 hd
        have h11 : 0 < (c i (d i)).natAbs ^ (d (i - 1) - d i) := Nat.pow_pos hb
        rw [← this] at h11
        exact Nat.pos_of_mul_pos_right h11
      · by_cases hd2 : d i = d (i - 1)
        · rw [h9 hd2]; omega
        · exfalso
          by_cases h12 : i = 1
          · subst h12; simp at hd hd2; omega
          · have := (h5 (i - 1) (by omega) (by omega)).2.1
            have e : i - 1 + 1 = i := by omega
            rw [e] at this; omega
theorem chn_d {c : Nat → Pl} {d g h : Nat → Nat} {k : Nat} (H : chn c d g h k) : ∀ i, 1 ≤ i → i ≤ k → d i ≤ d (i - 1) ∧ (2 ≤ i → d i < d (i - 1)) := by
  intro i h1 h2
  obtain ⟨_, _, h3, h4, h5⟩ := H
  by_cases h12 : i = 1
  · subst h12; exact ⟨h3, by omega⟩
  · have := (h5 (i - 1) (by omega) (by omega)).2.1
    have e : i - 1 + 1 = i := by omega
    rw [e] at this; omega
/-- the members' subresultants are those of the first two -/
theorem chn_sbr {φ : Pl → Int} (hφ : lnf φ) {c : Nat → Pl} {d g h : Nat → Nat} : ∀ {k : Nat}, 1 ≤ k → chn c d g h k → ∀ j, j ≤ d k → j < d (k - 1) →
    sbr φ j (c (k - 1)) (d k - j) (c k) (d (k - 1) - j) = g k ^ (d k - j) * h k ^ (d (k - 1) - j - 1) * sbr φ j (c 0) (d 1 - j) (c 1) (d 0 - j) := by
  intro k
  induction k with
  | zero => intro h; omega
  | succ k ih =>
    intro _ H j hj hj2
    by_cases hk : k = 0
    · subst hk
      obtain ⟨h1, h2, _⟩ := H
      simp [h1, h2]
    · have H0 := chn_mono H
      obtain ⟨hg, hh⟩ := chn_h0 H0 k (by omega) (by omega)
      obtain ⟨h3, h3'⟩ := chn_d H0 k (by omega) (by omega)
      obtain ⟨_, _, _, h4, h5⟩ := H
      obtain ⟨⟨q, β, s, h6, h7, h8⟩, h9, h10, h11, h12⟩ := h5 k (by omega) (by omega)
      obtain ⟨h13, h14⟩ := h4 k (by omega)
      obtain ⟨h15, _⟩ := h4 (k + 1) (by omega)
      have hb : 0 < (c k (d k)).natAbs := Int.natAbs_pos.mpr h14
      have hE := ih (by omega) H0 j (by omega) (by omega)
      have hs := sbr_step (φ := φ) (j := j) hφ h6 h13 h15 h9 hj
      have e1 : d k + (d (k - 1) - d k) = d (k - 1) := by omega
      rw [e1, hE, h7, h8] at hs
      have e2 : k + 1 - 1 = k := by omega
      rw [e2, h10]
      generalize hS : sbr φ j (c 0) (d 1 - j) (c 1) (d 0 - j) = S at hs ⊢
      generalize hY : sbr φ j (c k) (d (k + 1) - j) (c (k + 1)) (d k - j) = Y at hs ⊢
      have hp := pw_step (b := (c k (d k)).natAbs) (h := h k) (h' := h (k + 1)) (u := d k - j) (δ := d (k - 1) - d k) (by omega)
        (fun hδ => by
          have := h11 (by omega)
          exact this)
        (fun h0 => by
          refine ⟨?_, h12 (by omega)⟩
          have : k = 1 := by
            apply Classical.byContradiction
            intro hne
            have := h3' (by omega)
            omega
          subst this
          exact H0.2.1)
      have e3 : d (k - 1) - j - 1 = d (k - 1) - d k + (d k - j) - 1 := by omega
      have e4 : d (k - 1) - d (k + 1) = d (k - 1) - d k + (d k - j) - (d (k + 1) - j) := by omega
      rw [e3, e4] at hs
      generalize d (k - 1) - d k = δ at *
      generalize hu : d k - j = u at *
      generalize hv : d (k + 1) - j = v at *
      generalize (c k (d k)).natAbs = b at *
      have e5 : b ^ (δ + u) = b ^ (δ + u - v) * b ^ v := by rw [← Nat.pow_add]; congr 1; omega
      have h16 : (g k * h k ^ δ) ^ u * b ^ (δ + u - v) * Y = (g k * h k ^ δ) ^ u * b ^ (δ + u - v) * (b ^ v * h (k + 1) ^ (u - 1) * S) := by
        rw [Nat.mul_assoc _ _ Y, ← hs]
        rw [e5] at hp
        rw [Nat.mul_pow, ← Nat.pow_mul, ← Nat.pow_mul]
        generalize h k ^ (δ * u) = a1 at *
        generalize h (k + 1) ^ (u - 1) = a2 at *
        generalize b ^ (δ + u - v) = a3 at *
        generalize b ^ v = a4 at *
        generalize b ^ ((δ + 1) * u) = a5 at *
        generalize h k ^ (δ + u - 1) = a6 at *
        generalize g k ^ u = a7 at *
        have : a5 * (a7 * a6 * S) = (a5 * a6) * (a7 * S) := by grind
        rw [this, ← hp]; grind
      exact Nat.eq_of_mul_eq_mul_left (Nat.mul_pos (Nat.pow_pos (Nat.mul_pos hg (Nat.pow_pos hh))) (Nat.pow_pos hb)) h16
/-- what is left is divided -/
theorem chn_left {φ : Pl → Int} (hφ : lnf φ) {c : Nat → Pl} {d g h : Nat → Nat} {k : Nat} (hk : 1 ≤ k) (H : chn c d g h k) (hd : 0 < d k)
    {R : Pl} {β : Int} {q : Nat → Int} (h1 : dvr β (c (k - 1)) 1 R q (d (k - 1) - d k) (c k)) (h2 : β.natAbs = (c k (d k)).natAbs ^ (d (k - 1) - d k + 1))
    (h3 : ∀ t, d k ≤ t → R t = 0) :
    (φ R).natAbs = g k * h k ^ (d (k - 1) - d k) * sbr φ (d k - 1) (c 0) (d 1 - (d k - 1)) (c 1) (d 0 - (d k - 1)) := by
  obtain ⟨h4, _⟩ := chn_d H k hk (by omega)
  obtain ⟨h5, h6⟩ := H.2.2.2.1 k (by omega)
  have hb : 0 < (c k (d k)).natAbs := Int.natAbs_pos.mpr h6
  have hE := chn_sbr hφ hk H (d k - 1) (by omega) (by omega)
  have hs := sbr_last hφ h1 h5 h3 hd
  have e1 : d k - (d k - 1) = 1 := by omega
  have e2 : d (k - 1) - (d k - 1) = d (k - 1) - d k + 1 := by omega
  rw [e1, e2, Nat.add_sub_cancel, Nat.pow_one] at hE
  rw [hE, h2] at hs
  simp only [Int.natAbs_one, Nat.one_mul] at hs
  exact (Nat.eq_of_mul_eq_mul_left (Nat.pow_pos hb) hs).symm
/-- the next height is whole -/
theorem chn_high {c : Nat → Pl} {d g h : Nat → Nat} {k : Nat} (hk : 1 ≤ k) (H : chn c d g h k) (hd : d k < d (k - 1)) :
    (c k (d k)).natAbs ^ (d (k - 1) - d k) = h k ^ (d (k - 1) - d k - 1) * sbr (fun f => f (d k)) (d k) (c 0) (d 1 - d k) (c 1) (d 0 - d k) := by
  have hE := chn_sbr (φ := fun f => f (d k)) (fun a f g => rfl) hk H (d k) (by omega) (by omega)
  obtain ⟨h5, h6⟩ := H.2.2.2.1 k (by omega)
  have hs := sbr_own (φ := fun f => f (d k)) (A := c (k - 1)) (δ := d (k - 1) - d k) h5 (by omega)
  rw [Nat.sub_self, Nat.pow_zero, Nat.one_mul] at hE
  rw [hE] at hs
  rw [hs, ← Nat.pow_succ]
  congr 1
  omega
-- sizes
theorem nsz_mono {f : Pl} {n m : Nat} (h : n ≤ m) : nsz n f ≤ nsz m f := by
  induction m with
  | zero => have : n = 0 := by omega
            subst this; exact Nat.le_refl _
  | succ m ih =>
    by_cases h1 : n = m + 1
    · subst h1; exact Nat.le_refl _
    · have := ih (by omega)
      simp only [nsz]; omega
theorem nsz_top {f : Pl} {D : Nat} (h : ∀ t, D < t → f t = 0) : ∀ n, nsz n f ≤ nsz (D + 1) f
  | 0 => by simp [nsz]
  | n + 1 => by
    by_cases h1 : n + 1 ≤ D + 1
    · exact nsz_mono h1
    · have := nsz_top h n
      simp only [nsz] at this ⊢
      rw [h n (by omega)]
      simpa using this
theorem nsz_shf (f : Pl) (i : Nat) : ∀ n, nsz (i + n) (shf i f) = nsz n f
  | 0 => by
    have : ∀ m, m ≤ i → nsz m (shf i f) = 0 := by
      intro m
      induction m with
      | zero => intro _; rfl
      | succ m ih =>
        intro hm
        have h1 : m < i := by omega
        simp only [nsz, ih (by omega), shf, h1, if_true]
        rfl
    exact this i (Nat.le_refl _)
  | n + 1 => by
    have h1 : ¬ (i + n < i) := by omega
    have h2 : i + n - i = n := by omega
    show nsz (i + n) (shf i f) + (shf i f (i + n)).natAbs = nsz n f + (f n).natAbs
    rw [nsz_shf f i n]
    simp only [shf, h1, if_false, h2]
theorem nsz_shf_le {f : Pl} {D : Nat} (h : ∀ t, D < t → f t = 0) (i n : Nat) : nsz n (shf i f) ≤ nsz (D + 1) f := by
  have h1 := nsz_mono (f := shf i f) (n := n) (m := i + n) (by omega)
  rw [nsz_shf] at h1
  exact Nat.le_trans h1 (nsz_top h n)
theorem nsz_rwp {f : Pl} {t j : Nat} (ht : t ≤ j) : ∀ m, nsz m (rwp (fun f => f t) j f) ≤ nsz (j + m) f
  | 0 => by simp [nsz]
  | 1 => by
    simp only [nsz, rwp, if_true, Nat.zero_add]
    have h1 := nsz_mono (f := f) (n := t + 1) (m := j + 1) (by omega)
    simp only [nsz] at h1 ⊢
    omega
  | m + 2 => by
    have h1 := nsz_rwp (f := f) ht (m + 1)
    have h2 : m + 1 ≠ 0 := by omega
    show nsz (m + 1) (rwp (fun f => f t) j f) + (rwp (fun f => f t) j f (m + 1)).natAbs ≤ nsz (j + (m + 1)) f + (f (j + (m + 1))).natAbs
    simp only [rwp, h2, if_false] at h1 ⊢
    omega
theorem npr_rws {f : Pl} {D : Nat} (h : ∀ t, D < t → f t = 0) {t j : Nat} (ht : t ≤ j) (n : Nat) : ∀ a, npr n (rws (fun f => f t) j f a) ≤ nsz (D + 1) f ^ a
  | 0 => by simp [rws, npr]
  | a + 1 => by
    rw [rws_succ, npr_app, Nat.pow_succ]
    refine Nat.mul_le_mul (npr_rws h ht n a) ?_
    simp only [npr, Nat.mul_one]
    exact Nat.le_trans (nsz_rwp ht n) (nsz_shf_le h a (j + n))
theorem sbr_bd {A B : Pl} {m n : Nat} (hA : ∀ t, m < t → A t = 0) (hB : ∀ t, n < t → B t = 0) {t j : Nat} (ht : t ≤ j) (a b : Nat) :
    sbr (fun f => f t) j A a B b ≤ nsz (m + 1) A ^ a * nsz (n + 1) B ^ b := by
  unfold sbr
  refine Nat.le_trans (dt_bd _ _) ?_
  rw [npr_app]
  exact Nat.mul_le_mul (npr_rws hA ht _ a) (npr_rws hB ht _ b)
