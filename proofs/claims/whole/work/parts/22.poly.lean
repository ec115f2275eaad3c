/-! ===== polynomials as rows of whole numbers ===== -/
def Pl : Type := Nat → Int
def pz : Pl := fun _ => 0
def pcn (a : Int) : Pl := fun n => if n = 0 then a else 0
def pad (f g : Pl) : Pl := fun n => f n + g n
def png (f : Pl) : Pl := fun n => - f n
def psb (f g : Pl) : Pl := fun n => f n - g n
def psc (a : Int) (f : Pl) : Pl := fun n => a * f n
def ptl (f : Pl) : Pl := fun n => f (n + 1)
def pmn : Nat → Pl → Pl → Int
  | 0, f, g => f 0 * g 0
  | n + 1, f, g => f 0 * g (n + 1) + pmn n (ptl f) g
def pmu (f g : Pl) : Pl := fun n => pmn n f g
theorem pl_ext {f g : Pl} (h : ∀ n, f n = g n) : f = g := funext h
theorem pmn_addr : ∀ (n : Nat) (f g h : Pl), pmn n f (pad g h) = pmn n f g + pmn n f h
  | 0, f, g, h => by simp only [pmn, pad]; grind
  | n + 1, f, g, h => by simp only [pmn, pmn_addr n]; simp only [pad]; grind
theorem pmn_addl : ∀ (n : Nat) (f g h : Pl), pmn n (pad f g) h = pmn n f h + pmn n g h
  | 0, f, g, h => by simp only [pmn, pad]; grind
  | n + 1, f, g, h => by
    have e : ptl (pad f g) = pad (ptl f) (ptl g) := rfl
    simp only [pmn, e, pmn_addl n]; simp only [pad]; grind
theorem pmn_scl : ∀ (n : Nat) (a : Int) (f h : Pl), pmn n (psc a f) h = a * pmn n f h
  | 0, a, f, h => by simp only [pmn, psc]; grind
  | n + 1, a, f, h => by
    have e : ptl (psc a f) = psc a (ptl f) := rfl
    simp only [pmn, e, pmn_scl n]; simp only [psc]; grind
theorem pmn_zl : ∀ (n : Nat) (h : Pl), pmn n pz h = 0
  | 0, h => by simp [pmn, pz]
  | n + 1, h => by
    have e : ptl pz = pz := rfl
    simp only [pmn, e, pmn_zl n]; simp [pz]
theorem pmn_sr : ∀ (n : Nat) (f g : Pl), pmn (n + 1) f g = f (n + 1) * g 0 + pmn n f (ptl g)
  | 0, f, g => by simp only [pmn, ptl]; grind
  | n + 1, f, g => by
    have h1 := pmn_sr n (ptl f) g
    have h2 : pmn (n + 1 + 1) f g = f 0 * g (n + 1 + 1) + pmn (n + 1) (ptl f) g := rfl
    have h3 : pmn (n + 1) f (ptl g) = f 0 * g (n + 1 + 1) + pmn n (ptl f) (ptl g) := rfl
    have h4 : ptl f (n + 1) = f (n + 1 + 1) := rfl
    rw [h2, h1, h3, h4]; grind
theorem pmn_comm : ∀ (n : Nat) (f g : Pl), pmn n f g = pmn n g f
  | 0, f, g => by simp only [pmn]; grind
  | n + 1, f, g => by
    rw [pmn_sr n g f]
    have h2 : pmn (n + 1) f g = f 0 * g (n + 1) + pmn n (ptl f) g := rfl
    rw [h2, pmn_comm n (ptl f) g]; grind
theorem pmn_assoc : ∀ (n : Nat) (f g h : Pl), pmn n (pmu f g) h = pmn n f (pmu g h)
  | 0, f, g, h => by simp only [pmn, pmu]; grind
  | n + 1, f, g, h => by
    have e : ptl (pmu f g) = pad (psc (f 0) (ptl g)) (pmu (ptl f) g) := rfl
    have h2 : pmn (n + 1) (pmu f g) h = f 0 * g 0 * h (n + 1) + pmn n (ptl (pmu f g)) h := rfl
    have h3 : pmn (n + 1) f (pmu g h) = f 0 * (g 0 * h (n + 1) + pmn n (ptl g) h) + pmn n (ptl f) (pmu g h) := rfl
    rw [h2, h3, e, pmn_addl, pmn_scl, pmn_assoc n (ptl f) g h]; grind
theorem pmn_one : ∀ (n : Nat) (h : Pl), pmn n (pcn 1) h = h n
  | 0, h => by simp [pmn, pcn]
  | n + 1, h => by
    have e : ptl (pcn 1) = pz := by funext k; simp [ptl, pcn, pz]
    simp only [pmn, e, pmn_zl]; simp [pcn]
theorem pmu_comm (f g : Pl) : pmu f g = pmu g f := pl_ext (fun n => pmn_comm n f g)
theorem pmu_assoc (f g h : Pl) : pmu (pmu f g) h = pmu f (pmu g h) := pl_ext (fun n => pmn_assoc n f g h)
theorem pmu_addr (f g h : Pl) : pmu f (pad g h) = pad (pmu f g) (pmu f h) := pl_ext (fun n => pmn_addr n f g h)
theorem pmu_addl (f g h : Pl) : pmu (pad f g) h = pad (pmu f h) (pmu g h) := pl_ext (fun n => pmn_addl n f g h)
theorem pmu_one (f : Pl) : pmu (pcn 1) f = f := pl_ext (fun n => pmn_one n f)
theorem pmu_z (f : Pl) : pmu pz f = pz := pl_ext (fun n => pmn_zl n f)
theorem pad_comm (f g : Pl) : pad f g = pad g f := pl_ext (fun n => Int.add_comm _ _)
theorem pad_assoc (f g h : Pl) : pad (pad f g) h = pad f (pad g h) := pl_ext (fun n => Int.add_assoc _ _ _)
theorem pcn_add (a b : Int) : pcn (a + b) = pad (pcn a) (pcn b) := pl_ext (fun n => by simp only [pcn, pad]; split <;> omega)
theorem pcn_neg (a : Int) : pcn (- a) = png (pcn a) := pl_ext (fun n => by simp only [pcn, png]; split <;> omega)
theorem pcn_mu (a : Int) (f : Pl) : pmu (pcn a) f = psc a f := pl_ext (fun n => by
  have e : pcn a = psc a (pcn 1) := pl_ext (fun k => by simp only [pcn, psc]; split <;> simp)
  show pmn n (pcn a) f = a * f n
  rw [e, pmn_scl, pmn_one])
def ppw (f : Pl) : Nat → Pl
  | 0 => pcn 1
  | n + 1 => pmu (ppw f n) f
def rP : Lean.Grind.CommRing Pl where
  add := pad
  mul := pmu
  natCast := ⟨fun n => pcn n⟩
  ofNat := fun n => ⟨pcn n⟩
  nsmul := ⟨fun n f => pmu (pcn n) f⟩
  npow := ⟨ppw⟩
  add_zero := fun a => pl_ext (fun n => by show a n + pcn 0 n = a n; simp [pcn])
  add_comm := pad_comm
  add_assoc := pad_assoc
  mul_assoc := pmu_assoc
  mul_one := fun a => by show pmu a (pcn 1) = a; rw [pmu_comm, pmu_one]
  one_mul := pmu_one
  left_distrib := pmu_addr
  right_distrib := pmu_addl
  zero_mul := fun a => by
    show pmu (pcn 0) a = pcn 0
    rw [pcn_mu]
    exact pl_ext (fun n => by simp [psc, pcn])
  mul_zero := fun a => by
    show pmu a (pcn 0) = pcn 0
    rw [pmu_comm, pcn_mu]
    exact pl_ext (fun n => by simp [psc, pcn])
  pow_zero := fun a => rfl
  pow_succ := fun a n => rfl
  ofNat_succ := fun a => by
    show pcn ((a + 1 : Nat) : Int) = pad (pcn a) (pcn 1)
    rw [← pcn_add]; rfl
  ofNat_eq_natCast := fun n => rfl
  nsmul_eq_natCast_mul := fun n a => rfl
  neg := png
  sub := psb
  intCast := ⟨pcn⟩
  zsmul := ⟨fun i f => pmu (pcn i) f⟩
  neg_add_cancel := fun a => pl_ext (fun n => by show - a n + a n = pcn 0 n; simp [pcn]; omega)
  sub_eq_add_neg := fun a b => pl_ext (fun n => by show a n - b n = a n + - b n; omega)
  neg_zsmul := fun i a => by
    show pmu (pcn (-i)) a = png (pmu (pcn i) a)
    rw [pcn_mu, pcn_mu]
    exact pl_ext (fun n => Int.neg_mul i (a n))
  zsmul_natCast_eq_nsmul := fun n a => rfl
  intCast_ofNat := fun n => rfl
  intCast_neg := pcn_neg
  mul_comm := pmu_comm
