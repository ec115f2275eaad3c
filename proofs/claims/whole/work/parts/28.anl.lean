/-! ===== values: bounds, steps ===== -/
def fin (f : Pl) : Prop := ∃ n, pbd n f
noncomputable def vl (f : Pl) (x : Rat) : Rat := evn (Classical.epsilon (fun n => pbd n f)) f x
theorem vl_eq {n : Nat} {f : Pl} (h : pbd n f) (x : Rat) : vl f x = evn n f x := by
  have hx : ∃ n, pbd n f := ⟨n, h⟩
  have h1 : pbd (Classical.epsilon (fun n => pbd n f)) f := Classical.epsilon_spec hx
  unfold vl
  generalize Classical.epsilon (fun n => pbd n f) = m at h1
  by_cases hm : m ≤ n
  · exact (evn_st h1 hm).symm
  · exact evn_st h (by omega)
theorem pbd_mono {n m : Nat} {f : Pl} (h : pbd n f) (hm : n ≤ m) : pbd m f := fun k hk => h k (by omega)
theorem fin_pmu {f g : Pl} (hf : fin f) (hg : fin g) : fin (pmu f g) := by
  obtain ⟨n, hn⟩ := hf
  obtain ⟨m, hm⟩ := hg
  exact ⟨n + m, pbd_pmu hn hm⟩
theorem fin_pad {f g : Pl} (hf : fin f) (hg : fin g) : fin (pad f g) := by
  obtain ⟨n, hn⟩ := hf
  obtain ⟨m, hm⟩ := hg
  exact ⟨n + m, fun k hk => by simp only [pad, hn k (by omega), hm k (by omega)]; rfl⟩
theorem fin_psc {f : Pl} (c : Int) (hf : fin f) : fin (psc c f) := by
  obtain ⟨n, hn⟩ := hf
  exact ⟨n, fun k hk => by simp only [psc, hn k hk]; omega⟩
theorem fin_pcn (c : Int) : fin (pcn c) := ⟨1, fun k hk => by
  have : k ≠ 0 := by omega
  simp [pcn, this]⟩
theorem fin_psb {f g : Pl} (hf : fin f) (hg : fin g) : fin (psb f g) := by
  obtain ⟨n, hn⟩ := hf
  obtain ⟨m, hm⟩ := hg
  exact ⟨n + m, fun k hk => by simp only [psb, hn k (by omega), hm k (by omega)]; rfl⟩
theorem fin_der {f : Pl} (hf : fin f) : fin (der f) := by
  obtain ⟨n, hn⟩ := hf
  exact ⟨n, pbd_der hn⟩
theorem vl_pmu {f g : Pl} (hf : fin f) (hg : fin g) (x : Rat) : vl (pmu f g) x = vl f x * vl g x := by
  obtain ⟨n, hn⟩ := hf
  obtain ⟨m, hm⟩ := hg
  rw [vl_eq (pbd_pmu hn hm), vl_eq hn, vl_eq hm, evn_mu x hm n f hn]
theorem vl_lin {f g : Pl} (hf : fin f) (hg : fin g) (c : Int) (x : Rat) : vl (pad (psc c f) g) x = c * vl f x + vl g x := by
  obtain ⟨n, hn⟩ := hf
  obtain ⟨m, hm⟩ := hg
  have h1 : pbd (n + m) (pad (psc c f) g) := fun k hk => by simp only [pad, psc, hn k (by omega), hm k (by omega)]; omega
  rw [vl_eq h1, vl_eq (pbd_mono hn (by omega : n ≤ n + m)), vl_eq (pbd_mono hm (by omega : m ≤ n + m)), evn_lin]
theorem vl_pad {f g : Pl} (hf : fin f) (hg : fin g) (x : Rat) : vl (pad f g) x = vl f x + vl g x := by
  have e : pad f g = pad (psc 1 f) g := pl_ext (fun k => by simp [pad, psc])
  rw [e, vl_lin hf hg]
  have : ((1 : Int) : Rat) = 1 := rfl
  rw [this]; grind
theorem vl_pcn (c : Int) (x : Rat) : vl (pcn c) x = c := by
  rw [vl_eq (n := 1) (fun k hk => by
    have : k ≠ 0 := by omega
    simp [pcn, this])]
  simp only [evn]
  show ((c : Int) : Rat) + x * 0 = c
  grind
theorem vl_psc {f : Pl} (hf : fin f) (c : Int) (x : Rat) : vl (psc c f) x = c * vl f x := by
  rw [← pcn_mu, vl_pmu (fin_pcn c) hf, vl_pcn]
/-- within M -/
def inM (M x : Rat) : Prop := -M ≤ x ∧ x ≤ M
theorem inM_mul {M K x y : Rat} (hx : inM M x) (hy : inM K y) (hM : 0 ≤ M) (hK : 0 ≤ K) : inM (M * K) (x * y) := by
  obtain ⟨h1, h2⟩ := hx
  obtain ⟨h3, h4⟩ := hy
  have a1 : 0 ≤ (M - x) * (K - y) := Rat.mul_nonneg (by grind) (by grind)
  have a2 : 0 ≤ (M + x) * (K + y) := Rat.mul_nonneg (by grind) (by grind)
  have a3 : 0 ≤ (M - x) * (K + y) := Rat.mul_nonneg (by grind) (by grind)
  have a4 : 0 ≤ (M + x) * (K - y) := Rat.mul_nonneg (by grind) (by grind)
  constructor <;> grind
theorem inM_add {M K x y : Rat} (hx : inM M x) (hy : inM K y) : inM (M + K) (x + y) := by
  obtain ⟨h1, h2⟩ := hx
  obtain ⟨h3, h4⟩ := hy
  constructor <;> grind
theorem inM_le {M K x : Rat} (hx : inM M x) (h : M ≤ K) : inM K x := by
  obtain ⟨h1, h2⟩ := hx
  constructor <;> grind
theorem inM_self (x : Rat) : ∃ K, 0 ≤ K ∧ inM K x := by
  rcases Rat.le_total (a := 0) (b := x) with h | h
  · exact ⟨x, h, by constructor <;> grind⟩
  · exact ⟨-x, by grind, by constructor <;> grind⟩
theorem evn_bdd {M : Rat} (hM : 0 ≤ M) : ∀ (n : Nat) (f : Pl), ∃ K, 0 ≤ K ∧ ∀ x, inM M x → inM K (evn n f x)
  | 0, f => ⟨0, by grind, fun x _ => by constructor <;> simp only [evn] <;> grind⟩
  | n + 1, f => by
    obtain ⟨K, hK, h⟩ := evn_bdd hM n (ptl f)
    obtain ⟨C, hC, h2⟩ := inM_self (f 0 : Rat)
    refine ⟨C + M * K, ?_, fun x hx => ?_⟩
    · have := Rat.mul_nonneg hM hK
      grind
    · exact inM_add h2 (inM_mul hx (h x hx) hM hK)
theorem evn_der (n : Nat) (f : Pl) (x : Rat) : evn (n + 1) (der f) x = evn (n + 1) (ptl f) x + x * evn n (der (ptl f)) x := by
  have e1 : ptl (der f) = pad (psc 1 (der (ptl f))) (ptl (ptl f)) := pl_ext (fun k => by simp only [ptl, der, pad, psc]; grind)
  have h1 : evn (n + 1) (der f) x = (der f 0 : Rat) + x * evn n (ptl (der f)) x := rfl
  have h2 : evn (n + 1) (ptl f) x = (ptl f 0 : Rat) + x * evn n (ptl (ptl f)) x := rfl
  have h3 : der f 0 = ptl f 0 := by simp [der, ptl]
  have h4 : ((1 : Int) : Rat) = 1 := rfl
  rw [h1, h2, e1, evn_lin, h3, h4]; grind
/-- the second step is small -/
theorem evn_tay {M : Rat} (hM : 0 ≤ M) : ∀ (n : Nat) (f : Pl), ∃ C, 0 ≤ C ∧ ∀ x y, inM M x → inM M y →
    inM (C * ((y - x) * (y - x))) (evn (n + 1) f y - evn (n + 1) f x - (y - x) * evn n (der f) x)
  | 0, f => by
    refine ⟨0, by grind, fun x y _ _ => ?_⟩
    simp only [evn]
    constructor <;> grind
  | n + 1, f => by
    obtain ⟨C, hC, h⟩ := evn_tay hM n (ptl f)
    obtain ⟨K, hK, hb⟩ := evn_bdd hM n (der (ptl f))
    refine ⟨M * C + K, ?_, fun x y hx hy => ?_⟩
    · have := Rat.mul_nonneg hM hC
      grind
    · have h1 := h x y hx hy
      have hsq : 0 ≤ (y - x) * (y - x) := by
        rcases Rat.le_total (a := 0) (b := y - x) with h | h
        · exact Rat.mul_nonneg h h
        · have := Rat.mul_nonneg (a := -(y - x)) (b := -(y - x)) (by grind) (by grind)
          grind
      have h2 := inM_mul hy h1 hM (Rat.mul_nonneg hC hsq)
      have h3 := inM_mul (M := (y - x) * (y - x)) (x := (y - x) * (y - x)) ⟨by grind, by grind⟩ (hb x hx) hsq hK
      have h4 := inM_add h2 h3
      have e0 : ∀ z, evn (n + 1 + 1) f z = (f 0 : Rat) + z * evn (n + 1) (ptl f) z := fun z => rfl
      have e1 := evn_der n f x
      rw [e0, e0, e1]
      generalize evn (n + 1) (ptl f) y = gy at *
      generalize evn (n + 1) (ptl f) x = gx at *
      generalize evn n (der (ptl f)) x = g' at *
      obtain ⟨h5, h6⟩ := h4
      constructor <;> grind
theorem vl_bdd {f : Pl} (hf : fin f) {M : Rat} (hM : 0 ≤ M) : ∃ K, 0 ≤ K ∧ ∀ x, inM M x → inM K (vl f x) := by
  obtain ⟨n, hn⟩ := hf
  obtain ⟨K, h1, h2⟩ := evn_bdd hM n f
  exact ⟨K, h1, fun x hx => by rw [vl_eq hn]; exact h2 x hx⟩
theorem vl_tay {f : Pl} (hf : fin f) {M : Rat} (hM : 0 ≤ M) : ∃ C, 0 ≤ C ∧ ∀ x y, inM M x → inM M y → inM (C * ((y - x) * (y - x))) (vl f y - vl f x - (y - x) * vl (der f) x) := by
  obtain ⟨n, hn⟩ := hf
  obtain ⟨C, h1, h2⟩ := evn_tay hM n f
  refine ⟨C, h1, fun x y hx hy => ?_⟩
  have := h2 x y hx hy
  rw [vl_eq (pbd_mono hn (by omega : n ≤ n + 1)), vl_eq (pbd_mono hn (by omega : n ≤ n + 1)), vl_eq (pbd_der hn)]
  exact this
/-- near places have near values -/
theorem vl_lip {f : Pl} (hf : fin f) {M : Rat} (hM : 0 ≤ M) : ∃ L, 0 ≤ L ∧ ∀ x y, inM M x → inM M y → x ≤ y → inM (L * (y - x)) (vl f y - vl f x) := by
  obtain ⟨C, h1, h2⟩ := vl_tay hf hM
  obtain ⟨K, h3, h4⟩ := vl_bdd (fin_der hf) hM
  refine ⟨C * (2 * M) + K, ?_, fun x y hx hy hxy => ?_⟩
  · have := Rat.mul_nonneg h1 (b := 2 * M) (by grind)
    grind
  · have h5 := h2 x y hx hy
    have h6 : inM ((y - x) * K) ((y - x) * vl (der f) x) := inM_mul ⟨by grind, by grind⟩ (h4 x hx) (by grind) h3
    have h7 := inM_add h5 h6
    have h8 : (y - x) * (y - x) ≤ (y - x) * (2 * M) := Rat.mul_le_mul_of_nonneg_left (by obtain ⟨a, b⟩ := hx; obtain ⟨c, d⟩ := hy; grind) (by grind)
    have h9 : C * ((y - x) * (y - x)) ≤ C * ((y - x) * (2 * M)) := Rat.mul_le_mul_of_nonneg_left h8 h1
    obtain ⟨h10, h11⟩ := h7
    constructor <;> grind
