/-! ===== the levels of a tray's polynomial ===== -/
def pok (P : Pl) : Prop := pbd 9 P ∧ ∀ k, -100000000 ≤ P k ∧ P k ≤ 100000000
/-- g goes into P -/
def dvs (P g : Pl) : Prop := pbd 9 g ∧ ∃ A n, P = pmu A g ∧ dgr A n
theorem nsz_mn (f : Pl) : ∀ {n m : Nat}, n ≤ m → nsz n f ≤ nsz m f := by
  intro n m h
  induction m with
  | zero => rw [show n = 0 by omega]; exact Nat.le_refl _
  | succ m ih =>
    by_cases hn : n = m + 1
    · rw [hn]; exact Nat.le_refl _
    · have := ih (by omega)
      simp only [nsz]
      omega
theorem nz_dln {f : Pl} (h : pbd 9 f) (h0 : f ≠ pz) : 0 < dln f := by
  apply Nat.pos_of_ne_zero
  intro hh
  exact h0 (dln_0 h hh)
theorem dln_nz {f : Pl} (h : pbd 9 f) (h0 : 0 < dln f) : f ≠ pz := fun hh => by
  have := (dln_top h h0).1.1
  rw [hh] at this
  exact this rfl
theorem dgr_pmu {A g : Pl} {n d : Nat} (hA : dgr A n) (hg : dgr g d) : dgr (pmu A g) (n + d) := by
  refine ⟨?_, fun t ht => pmu_hi (m := n) (n := d) (fun t ht => hA.2 t ht) (fun t ht => hg.2 t ht) t (by omega)⟩
  rw [pmu_top (m := n) (n := d) (fun t ht => hA.2 t ht) (fun t ht => hg.2 t ht)]
  exact Int.mul_ne_zero hA.1 hg.1
theorem dgr_un {f : Pl} {a b : Nat} (h : dgr f a) (h' : dgr f b) : a = b := by
  rcases Nat.lt_trichotomy a b with h1 | h1 | h1
  · exact absurd (h.2 b h1) h'.1
  · exact h1
  · exact absurd (h'.2 a h1) h.1
theorem dvs_nz {P g : Pl} (h0 : 0 < dln P) (hP : pbd 9 P) (h : dvs P g) : 0 < dln g := by
  obtain ⟨h9, A, n, e, hA⟩ := h
  refine nz_dln h9 (fun hg => ?_)
  rw [hg, pmu_comm, pmu_z] at e
  exact dln_nz hP h0 e
theorem dvs_dg {P g A : Pl} {n : Nat} (h0 : 0 < dln P) (hP : pbd 9 P) (h9 : pbd 9 g) (e : P = pmu A g) (hA : dgr A n) : dgg P = n + dgg g := by
  have hg := dvs_nz h0 hP ⟨h9, A, n, e, hA⟩
  have h1 := dgr_pmu hA (dln_top h9 hg).1
  rw [← e] at h1
  exact dgr_un (dln_top hP h0).1 h1
theorem dvs_tr {P f g h : Pl} (h0 : 0 < dln P) (hP : pbd 9 P) (hf : dvs P f) (e : f = pmu g h) (hg : pbd 9 g) (fh : fin h) : dvs P g := by
  obtain ⟨h9, A, n, e1, hA⟩ := hf
  have hh : h ≠ pz := fun hh => by
    rw [hh, pmu_comm, pmu_z] at e
    rw [e, pmu_comm, pmu_z] at e1
    exact dln_nz hP h0 e1
  obtain ⟨d, hd⟩ := fin_top fh hh
  exact ⟨hg, pmu A h, n + d, by rw [e1, e, pmu_comm g h, pmu_assoc], dgr_pmu hA hd⟩
theorem dvs_self {P : Pl} (hP : pbd 9 P) : dvs P P := ⟨hP, pcn 1, 0, by rw [pmu_one], ⟨by decide, fun k hk => by show (if k = 0 then (1 : Int) else 0) = 0; rw [if_neg (by omega)]⟩⟩
theorem dgr_0 {A : Pl} (h : dgr A 0) : A = pcn (A 0) := pl_ext (fun n => by
  show A n = if n = 0 then A 0 else 0
  by_cases hn : n = 0
  · subst hn; rw [if_pos rfl]
  · rw [if_neg hn]; exact h.2 n (by omega))
theorem nsz_le {f : Pl} {c : Nat} : ∀ n, (∀ k, (f k).natAbs ≤ c) → nsz n f ≤ n * c
  | 0, _ => by simp [nsz]
  | n + 1, h => by
    have := nsz_le n h
    have := h n
    simp only [nsz]
    rw [Nat.succ_mul]
    omega
theorem sm_nsz {g : Pl} (h9 : pbd 9 g) (hg : ∀ k, (g k).natAbs ≤ 100000000) : nsz 9 g ≤ 2 ^ 32 ∧ nsz 8 (der g) ≤ 2 ^ 32 := by
  have e : (2 : Nat) ^ 32 = 4294967296 := by decide
  rw [e]
  constructor
  · have := nsz_le 9 hg; omega
  · have d : ∀ k : Nat, (der g k).natAbs = (k + 1) * (g (k + 1)).natAbs := fun k => by
      show (((k : Int) + 1) * g (k + 1)).natAbs = _
      rw [Int.natAbs_mul]
      congr 1
    have a1 := hg (0 + 1)
    have a2 := hg (1 + 1)
    have a3 := hg (2 + 1)
    have a4 := hg (3 + 1)
    have a5 := hg (4 + 1)
    have a6 := hg (5 + 1)
    have a7 := hg (6 + 1)
    have a8 := hg (7 + 1)
    simp only [nsz, d]
    omega
theorem dvs_gdp {P g : Pl} (hP : pok P) (h0 : 0 < dln P) (h : dvs P g) (hd : 0 < dgg g) : ∃ s, gdp g (der g) s := by
  have hgz := dvs_nz h0 hP.1 h
  obtain ⟨h9, A, n, e, hA⟩ := h
  have hdg := dvs_dg h0 hP.1 h9 e hA
  obtain ⟨d1, d2, d3⟩ := dgg_der h9 hd
  have h8 := dgg_lt P
  by_cases hn : n = 0
  · subst hn
    have hgk : ∀ k, (g k).natAbs ≤ 100000000 := fun k => by
      have e1 := congrFun e k
      rw [dgr_0 hA, pcn_mu] at e1
      have e1 : P k = A 0 * g k := e1
      have hp := hP.2 k
      have e2 : (P k).natAbs = (A 0).natAbs * (g k).natAbs := by rw [e1, Int.natAbs_mul]
      have : 1 * (g k).natAbs ≤ (A 0).natAbs * (g k).natAbs := Nat.mul_le_mul_right _ (by have := hA.1; omega)
      omega
    obtain ⟨n1, n2⟩ := sm_nsz h9 hgk
    exact ⟨32, h9, der_pbd h9, hgz, by omega, by omega, Nat.le_trans (nsz_mn g (by omega)) n1, Nat.le_trans (nsz_mn _ (by omega)) n2, by omega, by omega, by omega⟩
  · have h8' : pbd 8 g := fun k hk => (dln_top h9 hgz).1.2 k (by omega)
    obtain ⟨n1, n2⟩ := fis_nsz h8' (fis_g hP.2 hP.1 e hA h9)
    exact ⟨37, h9, der_pbd h9, hgz, by omega, by omega, Nat.le_trans (nsz_mn g (by omega)) n1, Nat.le_trans (nsz_mn _ (by omega)) n2, by omega, by omega, by omega⟩
/-- a sequence comes to an end -/
theorem ex_ends {p q : Pl} {s : Nat} (h : gdp p q s) : ∃ M, ends p q M := by
  have go : ∀ (n k : Nat), dgg (mm p q (k + 1)) ≤ n → mmn p q (k + 1) → (∀ i, i < k + 1 → 1 ≤ i → 0 < dgg (mm p q i)) → ∃ M, ends p q M := by
    intro n
    induction n with
    | zero =>
      intro k hn h1 h2
      exact ⟨k + 2, by omega, h1, h2, fun hh => by rw [show k + 2 - 1 = k + 1 by omega] at hh; omega⟩
    | succ n ih =>
      intro k hn h1 h2
      by_cases hz : dln (mm p q (k + 2)) = 0
      · exact ⟨k + 2, by omega, h1, h2, fun _ => hz⟩
      · by_cases hd : dgg (mm p q (k + 1)) = 0
        · exact ⟨k + 2, by omega, h1, h2, fun hh => by rw [show k + 2 - 1 = k + 1 by omega] at hh; omega⟩
        · have h1' : mmn p q (k + 1 + 1) := fun i hi => by
            by_cases hi2 : i = k + 2
            · rw [hi2]; omega
            · exact h1 i (by omega)
          have h2' : ∀ i, i < k + 1 + 1 → 1 ≤ i → 0 < dgg (mm p q i) := fun i hi h3 => by
            by_cases hi2 : i = k + 1
            · rw [hi2]; omega
            · exact h2 i (by omega) h3
          obtain ⟨H, hb⟩ := mm_chn h.1 h.2.1 h.2.2.2.2.1 (k + 2) (by omega) h1' (fun i h3 h4 => h2' i h3 h4)
          have := (chn_d H (k + 2) (by omega) (by omega)).2 (by omega)
          have : dgg (mm p q (k + 1 + 1)) < dgg (mm p q (k + 1)) := this
          exact ih (k + 1) (by omega) h1' h2'
  refine go (dgg q) 0 (by rw [Nat.zero_add, dgg_q]; omega) (fun i hi => ?_) (fun i hi h3 => by omega)
  have : i = 0 ∨ i = 1 := by omega
  rcases this with hi | hi <;> subst hi
  · exact h.2.2.1
  · exact h.2.2.2.1
noncomputable def Mn (p q : Pl) : Nat := @Classical.epsilon Nat ⟨0⟩ (ends p q)
theorem Mn_ok {p q : Pl} {s : Nat} (h : gdp p q s) : ends p q (Mn p q) := Classical.epsilon_spec_aux ⟨0⟩ (ends p q) (ex_ends h)
theorem Mn_eq {p q : Pl} {M s : Nat} (h : gdp p q s) (he : ends p q M) : M = Mn p q := ends_uniq he (Mn_ok h)
noncomputable def FF (P : Pl) : Nat → Pl
  | 0 => P
  | l + 1 => ppt (mm (FF P l) (der (FF P l)) (Mn (FF P l) (der (FF P l)) - 1))
noncomputable def ML (P : Pl) (l : Nat) : Nat := Mn (FF P l) (der (FF P l))
theorem FF_s {P : Pl} {l : Nat} (hP : pok P) (h0 : 0 < dln P) (h : dvs P (FF P l)) (hd : 0 < dgg (FF P l)) :
    (∃ s, gdp (FF P l) (der (FF P l)) s) ∧ ends (FF P l) (der (FF P l)) (ML P l) ∧ dvs P (FF P (l + 1)) ∧ dgg (FF P (l + 1)) < dgg (FF P l) := by
  obtain ⟨s, hs⟩ := dvs_gdp hP h0 h hd
  have he := Mn_ok hs
  obtain ⟨c1, c2⟩ := cof_ok hs he (show 0 < Mn (FF P l) (der (FF P l)) by have := he.1; omega)
  obtain ⟨l1, l2⟩ := ends_last hs he
  obtain ⟨g1, g2, g3, g4, g5, g6⟩ := ppt_ok l1 l2
  refine ⟨⟨s, hs⟩, he, dvs_tr h0 hP.1 h c2 g2 c1, ?_⟩
  have h2 := he.1
  have e := ends_dec hs.1 hs.2.1 hs.2.2.2.2.1 (Mn (FF P l) (der (FF P l)) - 2) (by rw [show Mn (FF P l) (der (FF P l)) - 2 + 1 = Mn (FF P l) (der (FF P l)) - 1 by omega]; exact he.2.1) (fun i hi h3 => he.2.2.1 i (by omega) h3)
  rw [show Mn (FF P l) (der (FF P l)) - 2 + 1 = Mn (FF P l) (der (FF P l)) - 1 by omega] at e
  obtain ⟨d1, d2, d3⟩ := dgg_der hs.1 hd
  have e5 := dln_dgr g5 (by have := dgg_lt (mm (FF P l) (der (FF P l)) (Mn (FF P l) (der (FF P l)) - 1)); omega)
  have e6 : dgg (FF P (l + 1)) = dgg (mm (FF P l) (der (FF P l)) (Mn (FF P l) (der (FF P l)) - 1)) := by
    show dln (ppt _) - 1 = _
    rw [e5]; omega
  omega
def isdp (P : Pl) (m : Nat) : Prop := (∀ l, l < m → 0 < dgg (FF P l)) ∧ dgg (FF P m) = 0 ∧ m ≤ dgg P ∧ ∀ l, l ≤ m → dvs P (FF P l)
noncomputable def dep (P : Pl) : Nat := @Classical.epsilon Nat ⟨0⟩ (isdp P)
theorem dep_ok {P : Pl} (hP : pok P) (h0 : 0 < dln P) : isdp P (dep P) := by
  refine Classical.epsilon_spec_aux ⟨0⟩ (isdp P) ?_
  have go : ∀ (n k : Nat), dgg (FF P k) ≤ n → dgg (FF P k) + k ≤ dgg P → (∀ l, l < k → 0 < dgg (FF P l)) → (∀ l, l ≤ k → dvs P (FF P l)) → ∃ m, isdp P m := by
    intro n
    induction n with
    | zero => intro k h1 h2 h3 h4; exact ⟨k, h3, by omega, by omega, h4⟩
    | succ n ih =>
      intro k h1 h2 h3 h4
      by_cases hd : dgg (FF P k) = 0
      · exact ⟨k, h3, hd, by omega, h4⟩
      · obtain ⟨_, _, s3, s4⟩ := FF_s hP h0 (h4 k (Nat.le_refl _)) (by omega)
        refine ih (k + 1) (by omega) (by omega) (fun l hl => ?_) (fun l hl => ?_)
        · by_cases hlk : l = k
          · rw [hlk]; omega
          · exact h3 l (by omega)
        · by_cases hlk : l = k + 1
          · rw [hlk]; exact s3
          · exact h4 l (by omega)
  refine go (dgg P) 0 (Nat.le_refl _) (by show dgg P + 0 ≤ dgg P; omega) (fun l hl => by omega) (fun l hl => ?_)
  rw [show l = 0 by omega]
  exact dvs_self hP.1
theorem lvs_P {P : Pl} (hP : pok P) (hd : 0 < dgg P) : lvs (FF P) (ML P) (dep P) := by
  have h0 : 0 < dln P := by unfold dgg at hd; omega
  obtain ⟨a, b, c, d⟩ := dep_ok hP h0
  refine ⟨fun l hl => ?_, ?_, b⟩
  · obtain ⟨s1, s2, s3, s4⟩ := FF_s hP h0 (d l (by omega)) (a l hl)
    exact ⟨a l hl, s1, s2, rfl⟩
  · apply Nat.pos_of_ne_zero
    intro h
    rw [h] at b
    have : dgg P = 0 := b
    omega
