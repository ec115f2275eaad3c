/-! ===== mean ===== -/
theorem mcl_l {fu : Nat} {kk : Int64 → Option Int64} {Q : Int64 → Prop} {G : Nat} (hk : ∀ v : Int64, v.toInt = (G : Int) → wq (kk v) Q) :
    ∀ (e fl : Nat) (a b : Int64), 0 ≤ a.toInt → 0 ≤ b.toInt → b.toInt.natAbs < 2 ^ e → 2 * e + 2 ≤ fl → Nat.gcd a.toInt.natAbs b.toInt.natAbs = G → wq (l_Mod_common_12 fu fl a b kk) Q := by
  have stop : ∀ (fl : Nat) (a b : Int64), 0 ≤ a.toInt → b = 0 → Nat.gcd a.toInt.natAbs b.toInt.natAbs = G → wq (l_Mod_common_12 fu (fl + 1) a b kk) Q := by
    intro fl a b ha hb hG
    rw [l_Mod_common_12, if_pos hb]
    refine hk a ?_
    rw [hb, show (0 : Int64).toInt = 0 from rfl] at hG
    simp at hG
    omega
  have one : ∀ (fl : Nat) (a b : Int64), 0 ≤ a.toInt → 0 ≤ b.toInt → ¬ b = 0 → (∀ c : Int64, c.toInt = a.toInt % b.toInt → wq (l_Mod_common_12 fu fl b c kk) Q) → wq (l_Mod_common_12 fu (fl + 1) a b kk) Q := by
    intro fl a b ha hb h0 hnext
    rw [l_Mod_common_12, if_neg h0, if_neg h0]
    dsimp only [rr_lt]
    exact hnext _ (Jvm.Kit.i64_rem_nonneg ha)
  intro e
  induction e with
  | zero =>
    intro fl a b ha hb hlt hfl hG
    obtain ⟨f', rfl⟩ : ∃ f', fl = f' + 1 := ⟨fl - 1, by omega⟩
    exact stop f' a b ha (j_eq0.mpr (by simp at hlt; omega)) hG
  | succ e ih =>
    intro fl a b ha hb hlt hfl hG
    obtain ⟨f', rfl⟩ : ∃ f', fl = f' + 1 + 1 := ⟨fl - 2, by omega⟩
    by_cases h0 : b = 0
    · exact stop (f' + 1) a b ha h0 hG
    · have hb0 : b.toInt ≠ 0 := fun hh => h0 (j_eq0.mpr hh)
      refine one (f' + 1) a b ha hb h0 (fun c hc => ?_)
      have hc0 : 0 ≤ c.toInt := by rw [hc]; exact Int.emod_nonneg _ hb0
      have hcn : c.toInt.natAbs = a.toInt.natAbs % b.toInt.natAbs := by
        rw [hc]
        exact emod_abs ha hb
      have hG1 : Nat.gcd b.toInt.natAbs c.toInt.natAbs = G := by rw [hcn, ← hG, Nat.gcd_comm b.toInt.natAbs, ← Nat.gcd_rec, Nat.gcd_comm]
      by_cases h1 : c = 0
      · exact stop f' b c hb h1 hG1
      · have hc1 : c.toInt ≠ 0 := fun hh => h1 (j_eq0.mpr hh)
        refine one f' b c hb hc0 h1 (fun c' hc' => ?_)
        have hc0' : 0 ≤ c'.toInt := by rw [hc']; exact Int.emod_nonneg _ hc1
        have hcn' : c'.toInt.natAbs = b.toInt.natAbs % c.toInt.natAbs := by
          rw [hc']
          exact emod_abs hb hc0
        refine ih f' c c' hc0 hc0' ?_ (by omega) ?_
        · have hr : c.toInt.natAbs < b.toInt.natAbs := by rw [hcn]; exact Nat.mod_lt _ (by omega)
          have := euc_half hr (by omega)
          rw [hcn']
          rw [Nat.pow_succ] at hlt
          omega
        · rw [hcn', ← hG1, Nat.gcd_comm c.toInt.natAbs, ← Nat.gcd_rec, Nat.gcd_comm]
theorem siz_m {a : Int64} (h : a.toInt ≠ -9223372036854775808) : ∃ v : Int64, f_Mod_size a = some v ∧ v.toInt = (a.toInt.natAbs : Int) := by
  unfold f_Mod_size
  have z0 : (0 : Int64).toInt = 0 := rfl
  by_cases h0 : (0 : Int64) ≤ a
  · rw [if_pos h0]
    rw [Int64.le_iff_toInt_le, z0] at h0
    exact ⟨a, rfl, by omega⟩
  · rw [if_neg h0]
    rw [Int64.le_iff_toInt_le, z0] at h0
    exact ⟨-a, rfl, by rw [Jvm.Kit.i64_neg (by omega)]; omega⟩
theorem mcl_ok {fu : Nat} {a b : Int64} (hfu : 400 < fu) (ha : -1099511627776 ≤ a.toInt ∧ a.toInt ≤ 1099511627776) (hb : -1099511627776 ≤ b.toInt ∧ b.toInt ≤ 1099511627776) : wq (f_Mod_common fu a b) (fun v => v.toInt = (Nat.gcd a.toInt.natAbs b.toInt.natAbs : Int)) := by
  unfold f_Mod_common
  obtain ⟨x, e1, e2⟩ := siz_m (a := a) (by omega)
  obtain ⟨y, e3, e4⟩ := siz_m (a := b) (by omega)
  rw [e1, e3]
  refine wq_ob (wq_some (wq_ob (wq_some ?_)))
  refine mcl_l (G := Nat.gcd a.toInt.natAbs b.toInt.natAbs) (fun v hv => wq_some hv) 41 fu _ _ (by omega) (by omega) ?_ (by omega) ?_
  · rw [e4]
    have : (2 : Nat) ^ 41 = 2199023255552 := by decide
    simp only [Int.natAbs_natCast]
    omega
  · rw [e2, e4]; simp
def ttF (g : Nat → Int64) : Nat → Int64
  | 0 => 0
  | k + 1 => ttF g k + g k
def wwF (g : Nat → Int64) : Nat → Int64
  | 0 => 0
  | k + 1 => wwF g k + (nI k).toInt64 * g k
theorem ttF_b {g : Nat → Int64} (hg : ∀ k, k < 9 → -100000000 ≤ (g k).toInt ∧ (g k).toInt ≤ 100000000) : ∀ k : Nat, k ≤ 9 → (-100000000 * (k : Int) ≤ (ttF g k).toInt ∧ (ttF g k).toInt ≤ 100000000 * (k : Int)) ∧ (-1000000000 * (k : Int) ≤ (wwF g k).toInt ∧ (wwF g k).toInt ≤ 1000000000 * (k : Int))
  | 0, _ => by
    show (-100000000 * ((0 : Nat) : Int) ≤ (0 : Int64).toInt ∧ (0 : Int64).toInt ≤ 100000000 * ((0 : Nat) : Int)) ∧ (-1000000000 * ((0 : Nat) : Int) ≤ (0 : Int64).toInt ∧ (0 : Int64).toInt ≤ 1000000000 * ((0 : Nat) : Int))
    decide
  | k + 1, h => by
    obtain ⟨⟨i1, i2⟩, i3, i4⟩ := ttF_b hg k (by omega)
    obtain ⟨b1, b2⟩ := hg k (by omega)
    have tk : (nI k).toInt64.toInt = (k : Int) := by rw [Int32.toInt_toInt64, nI_toInt (by omega)]
    have hk8 : k = 0 ∨ k = 1 ∨ k = 2 ∨ k = 3 ∨ k = 4 ∨ k = 5 ∨ k = 6 ∨ k = 7 ∨ k = 8 := by omega
    have e2 : ((nI k).toInt64 * g k).toInt = (k : Int) * (g k).toInt := by
      rw [j_mul, tk] <;> rw [tk] <;> rcases hk8 with e | e | e | e | e | e | e | e | e <;> subst e <;> omega
    have e1 : (ttF g k + g k).toInt = (ttF g k).toInt + (g k).toInt := j_add (by omega) (by omega)
    have e3 : (wwF g k + (nI k).toInt64 * g k).toInt = (wwF g k).toInt + (k : Int) * (g k).toInt := by
      rw [j_add, e2] <;> rw [e2] <;> rcases hk8 with e | e | e | e | e | e | e | e | e <;> subst e <;> omega
    show (_ ≤ (ttF g k + g k).toInt ∧ _) ∧ (_ ≤ (wwF g k + (nI k).toInt64 * g k).toInt ∧ _)
    rw [show (ttF g (k + 1)).toInt = _ from e1, show (wwF g (k + 1)).toInt = _ from e3, e1, e3]
    rcases hk8 with e | e | e | e | e | e | e | e | e <;> subst e <;> omega
theorem men_x {fu B o : Nat} {σ : rr_M} {kk : Int64 → Int64 → Option Int64} (hn : nx B (B + o) = 9) : ∀ (fl k : Nat), k ≤ 9 → 10 - k ≤ fl → l_Roo_mean_30 fu (nx B) (B + o) σ fl (ttF (mg_l σ (B + o)) k) (wwF (mg_l σ (B + o)) k) (nI k) kk = kk (ttF (mg_l σ (B + o)) 9) (wwF (mg_l σ (B + o)) 9)
  | 0, k, h1, h2 => by omega
  | fl + 1, k, h1, h2 => by
    rw [l_Roo_mean_30, hn]
    by_cases hk : k = 9
    · subst hk
      rw [if_pos (by decide)]
    rw [if_neg (show ¬ (9 : Int32) ≤ nI k from nI_ge (b := 9) (by omega) (by omega)), ix_nI (show k < 9 by omega) (by omega), if_pos rfl]
    dsimp only [rr_lt]
    rw [if_pos rfl, nI_1, n_nI (show k < 2 ^ 31 by omega)]
    exact men_x hn fl (k + 1) (by omega) (by omega)
theorem men_m {fu C t : Nat} {σ : rr_M} {g : Nat → Int64} {kk : Int64 → Int64 → Option (Int64 × rr_M)} (hm : mrf C σ) (ht : t < 8) (hg : ∀ k, k < 9 → mg_l σ (C + 8) (9 * t + k) = g k) : ∀ (fl k : Nat), k ≤ 9 → 10 - k ≤ fl → l_Mod_mean_25 fu (nm C) C (nI t) σ fl (ttF g k) (wwF g k) (nI k) kk = kk (ttF g 9) (wwF g 9)
  | 0, k, h1, h2 => by omega
  | fl + 1, k, h1, h2 => by
    rw [l_Mod_mean_25]
    by_cases hk : k = 9
    · subst hk
      rw [if_pos (by decide)]
    rw [if_neg (show ¬ (9 : Int32) ≤ nI k from nI_ge (b := 9) (by omega) (by omega)), mat_g hm ht hg (show k < 9 by omega)]
    dsimp only [rr_lt, Option.bind]
    rw [nI_1]
    exact men_m hm ht hg fl (k + 1) (by omega) (by omega)
theorem op_mean_ok {fu B C : Nat} (hfu : 70000 < fu) : op_mean fu B C (Inv B C) := by
  rintro a1 a2 σx σm ha2 ⟨T, hX, hM, hT⟩
  obtain ⟨hM1, FM1⟩ := imc_0 (v := 0) hM
  obtain ⟨Y1, L1⟩ := hM1.1
  rcases try_c a1 with ⟨e1, e2⟩ | ⟨t, ht, rfl, e1, e2⟩
  · refine op_cn (T := T) (-1000000000000000000) hX hT ?_ ?_
    · unfold f_Roo_mean
      rw [e1]
      exact wq_ob (wq_some (wq_ip rfl (wq_some rfl)))
    · unfold f_Mod_mean
      dsimp only [rr_lt]
      rw [e2 C]
      exact wq_ob (wq_some (wq_ip rfl (wq_some ⟨rfl, hM1, FM1⟩)))
  obtain ⟨b1, b2, _⟩ := hX.2.2.2 t ht
  obtain ⟨q0, q1, q2, q3, q4, q5, q6, q7, q8⟩ := roo_t hX.1
  have n9 : nx B (B + (3 + 7 * t)) = 9 := by rw [nx_at]; exact (nx_tr t ht).1
  have hg : ∀ k, k < 9 → mg_l (ms_i σm C 0 0) (C + 8) (9 * t + k) = mg_l σx (B + (3 + 7 * t)) k := fun k hk => j_inj (by rw [b2 k hk]; exact hM1.2 t ht k hk)
  have bnd := ttF_b (g := mg_l σx (B + (3 + 7 * t))) (fun k hk => by rw [b2 k hk]; exact b1.2 k) 9 (by omega)
  have fX : ∀ kk, l_Roo_mean_30 fu (nx B) (B + (3 + 7 * t)) σx fu 0 0 0 kk = kk (ttF (mg_l σx (B + (3 + 7 * t))) 9) (wwF (mg_l σx (B + (3 + 7 * t))) 9) := fun kk => men_x n9 fu 0 (by omega) (by omega)
  have fM : ∀ kk, l_Mod_mean_25 fu (nm C) C (nI t) (ms_i σm C 0 0) fu 0 0 0 kk = kk (ttF (mg_l σx (B + (3 + 7 * t))) 9) (wwF (mg_l σx (B + (3 + 7 * t))) 9) := fun kk => men_m L1.1 ht hg fu 0 (by omega) (by omega)
  generalize ttF (mg_l σx (B + (3 + 7 * t))) 9 = A at *
  generalize wwF (mg_l σx (B + (3 + 7 * t))) 9 = W at *
  by_cases hA : A = 0
  · refine op_cn (T := T) (-1000000000000000000) hX hT ?_ ?_
    · unfold f_Roo_mean
      dsimp only [rr_lt]
      rw [e1, q0, n_nI (show t < 2 ^ 31 by omega), (q7 t ht).1, (q7 t ht).2, fX]
      exact wq_ob (wq_some (wq_in (by decide) (wq_ip (q8 t ht) (wq_ip hA (wq_some rfl)))))
    · unfold f_Mod_mean
      dsimp only [rr_lt]
      rw [e2 C, fM]
      exact wq_ob (wq_some (wq_in (by decide) (wq_ip hA (wq_some ⟨rfl, hM1, FM1⟩))))
  have hA0 : A.toInt ≠ 0 := fun hh => hA (j_eq0.mpr hh)
  obtain ⟨G, g1, g2⟩ := gcl_ok (fu := fu) (a := W) (b := A) (by omega) (by omega) (by omega)
  obtain ⟨H, h1, h2⟩ := mcl_ok (fu := fu) (a := W) (b := A) (by omega) (by omega) (by omega)
  have hGH : H = G := j_inj (by rw [h2, g2])
  subst hGH
  have hpos : 0 < Nat.gcd W.toInt.natAbs A.toInt.natAbs := Nat.gcd_pos_of_pos_right _ (by omega)
  have hG0 : ¬ H = 0 := fun hh => by
    rw [hh, show (0 : Int64).toInt = 0 from rfl] at g2
    omega
  have hle : Nat.gcd W.toInt.natAbs A.toInt.natAbs ≤ A.toInt.natAbs := Nat.gcd_le_right _ (by omega)
  have hneg : (-H).toInt = -H.toInt := Jvm.Kit.i64_neg (by omega)
  have hG1 : ¬ (-H) = 0 := fun hh => by
    rw [j_eq0, hneg] at hh
    omega
  have m1 : H * 1 = H := Int64.mul_one H
  have m2 : H * (-1) = -H := by
    apply j_inj
    rw [j_mul, hneg, show (-1 : Int64).toInt = -1 from by decide]
    · omega
    · rw [show (-1 : Int64).toInt = -1 from by decide]; omega
    · rw [show (-1 : Int64).toInt = -1 from by decide]; omega
  refine op_cn (T := T) ((if a2 = 0 then W else A) / (if 0 ≤ A then H else -H)) hX hT ?_ ?_
  · unfold f_Roo_mean
    dsimp only [rr_lt]
    rw [e1, q0, n_nI (show t < 2 ^ 31 by omega), (q7 t ht).1, (q7 t ht).2, fX]
    refine wq_ob (wq_some (wq_in (by decide) (wq_ip (q8 t ht) (wq_in hA ?_))))
    rw [g1]
    refine wq_ob (wq_some (wq_in hG0 ?_))
    dsimp only [rr_jn]
    by_cases hp : 0 ≤ A
    · rw [if_pos hp, if_pos hp, if_neg hG0, if_neg hG0]
      by_cases hl : a2 = 0
      · rw [if_pos hl, if_pos hl]; exact wq_some rfl
      · rw [if_neg hl, if_neg hl]; exact wq_some rfl
    · rw [if_neg hp, if_neg hp, if_neg hG1, if_neg hG1]
      by_cases hl : a2 = 0
      · rw [if_pos hl, if_pos hl]; exact wq_some rfl
      · rw [if_neg hl, if_neg hl]; exact wq_some rfl
  · unfold f_Mod_mean
    dsimp only [rr_lt]
    rw [e2 C, fM]
    refine wq_ob (wq_some (wq_in (by decide) (wq_in hA ?_)))
    rw [h1]
    refine wq_ob (wq_some ?_)
    dsimp only [rr_jn]
    rw [m1, m2]
    by_cases hp : 0 ≤ A
    · rw [if_pos hp, if_pos hp, if_neg hG0, if_neg hG0]
      by_cases hl : a2 = 0
      · rw [if_pos hl, if_pos hl]; exact wq_some ⟨rfl, hM1, FM1⟩
      · rw [if_neg hl, if_neg hl]; exact wq_some ⟨rfl, hM1, FM1⟩
    · rw [if_neg hp, if_neg hp, if_neg hG1, if_neg hG1]
      by_cases hl : a2 = 0
      · rw [if_pos hl, if_pos hl]; exact wq_some ⟨rfl, hM1, FM1⟩
      · rw [if_neg hl, if_neg hl]; exact wq_some ⟨rfl, hM1, FM1⟩
