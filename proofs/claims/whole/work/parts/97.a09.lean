/-! ===== all levels together: how often each root is one ===== -/
def smi : Nat → (Nat → Int) → Int
  | 0, _ => 0
  | n + 1, f => smi n f + f n
theorem smi_c {f g : Nat → Int} : ∀ {n : Nat}, (∀ k, k < n → f k = g k) → smi n f = smi n g
  | 0, _ => rfl
  | n + 1, h => by
    simp only [smi]
    rw [smi_c (fun k hk => h k (by omega)), h n (by omega)]
theorem smi_le {f g : Nat → Int} : ∀ {n : Nat}, (∀ k, k < n → f k ≤ g k) → smi n f ≤ smi n g
  | 0, _ => Int.le_refl _
  | n + 1, h => by
    simp only [smi]
    have := smi_le (n := n) (fun k hk => h k (by omega))
    have := h n (by omega)
    omega
theorem smi_sub {f g : Nat → Int} : ∀ (n : Nat), smi n (fun k => f k - g k) = smi n f - smi n g
  | 0 => rfl
  | n + 1 => by
    simp only [smi]
    rw [smi_sub n]
    omega
theorem smi_z : ∀ (n : Nat), smi n (fun _ => 0) = 0
  | 0 => rfl
  | n + 1 => by simp only [smi]; rw [smi_z n]; rfl
noncomputable def TT (P : Pl) (x : Rat) : Int := smi (dep P) (fun l => cn P l x)
noncomputable def ZZ (P : Pl) (x : Rat) : Int := smi (dep P) (fun l => zz P l x)
noncomputable def RT (P : Pl) : Int := smi (dep P) (rl P)
theorem dep_pos {P : Pl} (hP : pok P) (hd : 0 < dgg P) : 0 < dep P := (lvs_P hP hd).2.1
theorem TT_fn {P : Pl} (hP : pok P) (hd : 0 < dgg P) {x y : Rat} (h0 : cn P 0 x = cn P 0 y) : TT P x = TT P y := by
  rcases Rat.le_total (a := x) (b := y) with h | h
  · exact smi_c (fun l hl => cn_eq hP hd h h0 l hl)
  · exact smi_c (fun l hl => (cn_eq hP hd h h0.symm l hl).symm)
theorem cn_ivt {P : Pl} (hP : pok P) (hd : 0 < dgg P) (i : Int) (h1 : 0 ≤ i) (h2 : i ≤ rl P 0) : ∃ x, cn P 0 x = i := by
  have h := dep_pos hP hd
  obtain ⟨M, hM, hx, hy⟩ := inM_two (-100000001) 100000001
  have w := walk (M := M) (R := fun u v => ∀ i, cn P 0 u ≤ i → i ≤ cn P 0 v → ∃ x, cn P 0 x = i) (nr_imp (HL_stv hP hd h M hM) (fun u v _ _ _ hp i a b => by
    have := jmp_le (HL P 0) u v
    by_cases hu : cn P 0 u = i
    · exact ⟨u, hu⟩
    · exact ⟨v, by unfold cn at *; omega⟩)) (fun u w v _ _ a b i c d => by
    rcases Int.le_total i (cn P 0 w) with q | q
    · exact a i c q
    · exact b i q d) hx hy (by grind)
  refine w i ?_ ?_
  · rw [cn_l hP hd h Rat.le_refl]; exact h1
  · rw [cn_r hP hd h Rat.le_refl]; exact h2
noncomputable def pt (P : Pl) (i : Nat) : Rat := @Classical.epsilon Rat ⟨0⟩ (fun x => cn P 0 x = i)
theorem pt_ok {P : Pl} (hP : pok P) (hd : 0 < dgg P) {i : Nat} (h2 : (i : Int) ≤ rl P 0) : cn P 0 (pt P i) = i := Classical.epsilon_spec_aux ⟨0⟩ (fun x => cn P 0 x = (i : Int)) (cn_ivt hP hd i (by omega) h2)
/-- how often the i-th of the unlike roots is one -/
noncomputable def mu (P : Pl) (i : Nat) : Int := TT P (pt P (i + 1)) - TT P (pt P i)
theorem mu_eq {P : Pl} (hP : pok P) (hd : 0 < dgg P) {i : Nat} {x y : Rat} (h1 : cn P 0 x = i) (h2 : cn P 0 y = (i : Int) + 1) : TT P y - TT P x = mu P i := by
  have hr := cn_rg hP hd (dep_pos hP hd) y
  have a := pt_ok hP hd (i := i) (by omega)
  have b := pt_ok hP hd (i := i + 1) (by omega)
  unfold mu
  rw [TT_fn hP hd (x := y) (y := pt P (i + 1)) (by omega), TT_fn hP hd (x := x) (y := pt P i) (by omega)]
theorem TT_l {P : Pl} (hP : pok P) (hd : 0 < dgg P) {x : Rat} (hx : cn P 0 x = 0) : TT P x = 0 := by
  have e : TT P x = TT P (-100000001) := TT_fn hP hd (by rw [cn_l hP hd (dep_pos hP hd) Rat.le_refl]; exact hx)
  rw [e]
  unfold TT
  rw [smi_c (g := fun _ => 0) (fun l hl => cn_l hP hd hl Rat.le_refl)]
  exact smi_z _
theorem TT_pt {P : Pl} (hP : pok P) (hd : 0 < dgg P) : ∀ i : Nat, (i : Int) ≤ rl P 0 → TT P (pt P i) = smi i (mu P)
  | 0, h => TT_l hP hd (by have := pt_ok hP hd h; exact this)
  | i + 1, h => by
    have ih := TT_pt hP hd i (by omega)
    simp only [smi]
    rw [← ih]
    unfold mu
    omega
theorem TT_sum {P : Pl} (hP : pok P) (hd : 0 < dgg P) (x : Rat) : TT P x = smi (cn P 0 x).toNat (mu P) := by
  have hr := cn_rg hP hd (dep_pos hP hd) x
  rw [← TT_pt hP hd _ (by omega)]
  refine TT_fn hP hd ?_
  rw [pt_ok hP hd (by omega)]
  omega
theorem BB_sum {P : Pl} (hP : pok P) (hd : 0 < dgg P) (x : Rat) : TT P x - ZZ P x = smi (cn P 0 x - zz P 0 x).toNat (mu P) := by
  obtain ⟨ε, he, h⟩ := cn_left hP hd x (dep P) (Nat.le_refl _)
  have h' := h (x - ε) (by grind) (by grind)
  have e := TT_sum hP hd (x - ε)
  rw [h' 0 (dep_pos hP hd)] at e
  rw [← e]
  unfold TT ZZ
  rw [← smi_sub]
  exact smi_c (fun l hl => (h' l hl).symm)
theorem RT_sum {P : Pl} (hP : pok P) (hd : 0 < dgg P) : RT P = smi (rl P 0).toNat (mu P) := by
  have := TT_sum hP hd 100000001
  rw [cn_r hP hd (dep_pos hP hd) Rat.le_refl] at this
  rw [← this]
  exact smi_c (fun l hl => (cn_r hP hd hl Rat.le_refl).symm)
theorem smi_1 {f g : Nat → Int} : ∀ {n : Nat}, (∀ k, k < n → f k ≤ g k) → ∀ {m : Nat}, m < n → smi n f + (g m - f m) ≤ smi n g
  | 0, _, m, hm => by omega
  | n + 1, h, m, hm => by
    simp only [smi]
    have h1 := smi_le (n := n) (fun k hk => h k (by omega))
    have h2 := h n (by omega)
    by_cases e : m = n
    · subst e; omega
    · have := smi_1 (n := n) (fun k hk => h k (by omega)) (m := m) (by omega)
      omega
theorem mu_pos {P : Pl} (hP : pok P) (hd : 0 < dgg P) {i : Nat} (h : (i : Int) < rl P 0) : 1 ≤ mu P i := by
  have a := pt_ok hP hd (i := i) (by omega)
  have b := pt_ok hP hd (i := i + 1) (by omega)
  have hxy : pt P i ≤ pt P (i + 1) := by
    rcases Rat.le_total (a := pt P i) (b := pt P (i + 1)) with q | q
    · exact q
    · have := cn_mono hP hd (dep_pos hP hd) q
      omega
  have := smi_1 (n := dep P) (fun l hl => cn_mono hP hd hl hxy) (m := 0) (dep_pos hP hd)
  unfold mu TT
  omega
theorem mu_one {P : Pl} (hP : pok P) (hd : 0 < dgg P) (h1 : ∀ l, 1 ≤ l → l < dep P → rl P l ≤ 0) {i : Nat} (h : (i : Int) < rl P 0) : mu P i = 1 := by
  have a := pt_ok hP hd (i := i) (by omega)
  have b := pt_ok hP hd (i := i + 1) (by omega)
  have key : ∀ x n, n ≤ dep P → 0 < n → smi n (fun l => cn P l x) = cn P 0 x := by
    intro x n
    induction n with
    | zero => intro _ h; omega
    | succ n ih =>
      intro hn _
      simp only [smi]
      by_cases hz : n = 0
      · subst hz; simp only [smi]; omega
      · have := ih (by omega) (by omega)
        have e := cn_rg hP hd (show n < dep P by omega) x
        have := h1 n (by omega) (by omega)
        omega
  unfold mu TT
  rw [key _ _ (Nat.le_refl _) (dep_pos hP hd), key _ _ (Nat.le_refl _) (dep_pos hP hd), a, b]
  omega
/-- a floor: what lies at c / 2^s isn't above the root j, what lies at (c + 1) / 2^s is -/
theorem smi_mono {f : Nat → Int} (n : Nat) : ∀ m, n ≤ m → (∀ k, n ≤ k → k < m → 0 ≤ f k) → smi n f ≤ smi m f
  | 0, h, _ => by rw [show n = 0 by omega]; exact Int.le_refl _
  | m + 1, h, hf => by
    by_cases e : n = m + 1
    · rw [e]; exact Int.le_refl _
    · simp only [smi]
      have := smi_mono n m (by omega) (fun k a b => hf k a (by omega))
      have := hf m (by omega) (by omega)
      omega
