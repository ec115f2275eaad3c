/-! ===== bits: zeros at the end, shifts ===== -/
theorem or_dis {x y : Int64} {q : Nat} (hq : q ≤ 62) (hx1 : 0 ≤ x.toInt) (hx2 : x.toInt < 2 ^ q) {m : Int} (hy : y.toInt = m * 2 ^ q) : (x ||| y).toInt = (x + y).toInt := by
  have hX : x.toBitVec.toNat < 2 ^ q := by
    have h1 : x.toInt = (x.toBitVec.toNat : Int) := by
      have := BitVec.toInt_eq_toNat_cond x.toBitVec
      have h2 : x.toInt = x.toBitVec.toInt := rfl
      rw [h2] at hx1 ⊢
      rw [this] at hx1 ⊢
      split at hx1
      · rw [if_pos (by assumption)]
      · have := x.toBitVec.isLt
        omega
    have h3 : ((2 ^ q : Nat) : Int) = (2 : Int) ^ q := by simp
    omega
  have hY : y.toBitVec.toNat % 2 ^ q = 0 := by
    have h1 := BitVec.toInt_eq_toNat_cond y.toBitVec
    have h2 : y.toInt = y.toBitVec.toInt := rfl
    have h3 : (2 : Int) ^ 64 = 2 ^ (64 - q) * 2 ^ q := by rw [← Int.pow_add]; congr 1; omega
    have h4 : ((y.toBitVec.toNat % 2 ^ q : Nat) : Int) = 0 := by
      rw [Int.natCast_emod]
      have h5 : ((2 ^ q : Nat) : Int) = (2 : Int) ^ q := by simp
      rw [h5]
      have h6 : (y.toBitVec.toNat : Int) = m * 2 ^ q ∨ (y.toBitVec.toNat : Int) = (m + 2 ^ (64 - q)) * 2 ^ q := by
        rw [h2, h1] at hy
        split at hy
        · exact Or.inl hy
        · right
          rw [Int.add_mul, ← h3, ← hy]
          simp
      rcases h6 with h | h <;> rw [h] <;> exact Int.mul_emod_left _ _
    omega
  have h0 : x.toBitVec &&& y.toBitVec = 0#64 := by
    apply BitVec.eq_of_toNat_eq
    rw [BitVec.toNat_and]
    show _ = 0
    apply Nat.eq_of_testBit_eq
    intro i
    rw [Nat.testBit_and, Nat.zero_testBit]
    rcases Nat.lt_or_ge i q with h | h
    · have e : y.toBitVec.toNat = 2 ^ q * (y.toBitVec.toNat / 2 ^ q) := by
        have := Nat.div_add_mod y.toBitVec.toNat (2 ^ q)
        omega
      rw [e, Nat.testBit_two_pow_mul]
      have : ¬ (i ≥ q) := by omega
      simp [this]
    · rw [Nat.testBit_lt_two_pow (Nat.lt_of_lt_of_le hX (Nat.pow_le_pow_right (by decide) h))]
      rfl
  have h1 : (x ||| y) = x + y := by
    apply Int64.toBitVec_inj.mp
    rw [Int64.toBitVec_or, Int64.toBitVec_add]
    exact (BitVec.add_eq_or_of_and_eq_zero _ _ h0).symm
  rw [h1]
theorem sh_am : ∀ p, p < 64 → (((nI p).toInt64 &&& 63).toBitVec.smod 64).toNat = p := by decide +kernel
theorem jshr (x : Int64) {p : Nat} (hp : p < 64) : (x >>> ((nI p).toInt64 &&& 63)).toInt = x.toInt / 2 ^ p := Jvm.Kit.i64_shr x _ (k := p) (sh_am p hp)
theorem jshl (x : Int64) {p : Nat} (hp : p < 64) (h1 : -2 ^ 63 ≤ x.toInt * 2 ^ p) (h2 : x.toInt * 2 ^ p < 2 ^ 63) : (x <<< ((nI p).toInt64 &&& 63)).toInt = x.toInt * 2 ^ p := Jvm.Kit.i64_shl x _ (k := p) (sh_am p hp) h1 h2
theorem p2_pos (n : Nat) : (0 : Int) < 2 ^ n := Int.pow_pos (by decide)
theorem p2_30 {p : Nat} (hp : p ≤ 30) : (2 : Int) ^ p * 2 ^ (30 - p) = 1073741824 := by
  rw [← Int.pow_add, show p + (30 - p) = 30 by omega]
  rfl
/-- what a digit becomes when the number is moved down by p bits -/
theorem dig_sh {x y : Int64} {p : Nat} (hp : p < 30) (hx1 : 0 ≤ x.toInt) (hx2 : x.toInt < 1073741824) (hy1 : -1073741824 ≤ y.toInt) (hy2 : y.toInt ≤ 1073741824) :
    (((x >>> ((nI p).toInt64 &&& 63)) ||| (y <<< ((30 - nI p).toInt64 &&& 63))) &&& 1073741823).toInt = x.toInt / 2 ^ p + (y.toInt % 2 ^ p) * 2 ^ (30 - p) := by
  have e1 : (30 : Int32) - nI p = nI (30 - p) := nI_sub (a := 30) (by omega)
  have h30 := p2_30 (show p ≤ 30 by omega)
  have hp1 := p2_pos p
  have hp2 := p2_pos (30 - p)
  have hle : (2 : Int) ^ (30 - p) ≤ 1073741824 := by
    rw [← h30]
    have := Int.mul_le_mul_of_nonneg_right (show (1 : Int) ≤ 2 ^ p by omega) (Int.le_of_lt hp2)
    omega
  have hyb := abs_mul_le (X := 1073741824) (Y := 1073741824) hy1 hy2 (show -1073741824 ≤ (2 : Int) ^ (30 - p) by omega) hle
  have s1 := jshr x (show p < 64 by omega)
  have s2 := jshl y (show 30 - p < 64 by omega) (by omega) (by omega)
  rw [e1, jm30, or_dis (q := 30 - p) (by omega) (by rw [s1]; exact Int.ediv_nonneg hx1 (Int.le_of_lt hp1)) (by rw [s1]; apply Int.ediv_lt_of_lt_mul hp1; rw [Int.mul_comm, h30]; exact hx2) s2]
  have hd1 : 0 ≤ x.toInt / 2 ^ p := Int.ediv_nonneg hx1 (Int.le_of_lt hp1)
  have hd2 : x.toInt / 2 ^ p < 2 ^ (30 - p) := by apply Int.ediv_lt_of_lt_mul hp1; rw [Int.mul_comm, h30]; exact hx2
  rw [j_add (by rw [s1, s2]; omega) (by rw [s1, s2]; omega), s1, s2]
  have hy3 := Int.emod_add_mul_ediv y.toInt (2 ^ p)
  have hr1 := Int.emod_nonneg y.toInt (Int.ne_of_gt hp1)
  have hr2 := Int.emod_lt_of_pos y.toInt hp1
  generalize y.toInt % 2 ^ p = r at *
  generalize y.toInt / 2 ^ p = q at *
  generalize x.toInt / 2 ^ p = d at *
  have e3 : d + y.toInt * 2 ^ (30 - p) = (d + r * 2 ^ (30 - p)) + 1073741824 * q := by
    rw [← h30, ← hy3]
    generalize (2 : Int) ^ p = P
    generalize (2 : Int) ^ (30 - p) = P'
    grind
  rw [e3, Int.add_mul_emod_self_left]
  apply Int.emod_eq_of_lt
  · have := Int.mul_nonneg hr1 (Int.le_of_lt hp2); omega
  · have h5 := Int.mul_le_mul_of_nonneg_right (show r + 1 ≤ 2 ^ p by omega) (Int.le_of_lt hp2)
    rw [h30, Int.add_mul] at h5
    omega
-- zeros at the end
theorem ntz_mask {n t k : Nat} (hn : n = 2 ^ (t + 1) * k + 2 ^ t) (h32 : n < 2 ^ 32) : (2 ^ 32 - 1 - n) &&& (n - 1) = 2 ^ t - 1 := by
  have ht : 2 ^ (t + 1) = 2 ^ t * 2 := Nat.pow_succ _ _
  have hp : 0 < 2 ^ t := Nat.pow_pos (by decide)
  have e1 : n - 1 = 2 ^ (t + 1) * k + (2 ^ t - 1) := by omega
  apply Nat.eq_of_testBit_eq
  intro i
  rw [Nat.testBit_and, Nat.testBit_two_pow_sub_one]
  have hc : (2 ^ 32 - 1 - n).testBit i = (decide (i < 32) && !n.testBit i) := by
    rw [show 2 ^ 32 - 1 - n = 2 ^ 32 - (n + 1) by omega]
    exact Nat.testBit_two_pow_sub_succ h32 i
  rw [hc]
  have b1 : n.testBit i = if i < t + 1 then (2 ^ t).testBit i else k.testBit (i - (t + 1)) := by
    rw [hn]
    exact Nat.testBit_two_pow_mul_add k (by omega) i
  have b2 : (n - 1).testBit i = if i < t + 1 then (2 ^ t - 1).testBit i else k.testBit (i - (t + 1)) := by
    rw [e1]
    exact Nat.testBit_two_pow_mul_add k (by omega) i
  rw [b1, b2]
  have htn : t < 32 := by
    apply Nat.lt_of_not_le
    intro h
    have := Nat.pow_le_pow_right (show 2 > 0 by decide) h
    omega
  rcases Nat.lt_trichotomy i t with h | h | h
  · rw [if_pos (by omega), if_pos (by omega), Nat.testBit_two_pow_sub_one, Nat.testBit_two_pow]
    have h1 : ¬ t = i := by omega
    have h2 : i < 32 := by omega
    simp [h, h1, h2]
  · subst h
    rw [if_pos (by omega), if_pos (by omega), Nat.testBit_two_pow_sub_one, Nat.testBit_two_pow]
    simp
  · rw [if_neg (by omega), if_neg (by omega)]
    have h1 : ¬ i < t := by omega
    rw [decide_eq_false h1]
    cases k.testBit (i - (t + 1)) <;> simp
theorem ntz_rest : ∀ t, t < 31 → ((if 0 < (nI (2 ^ t - 1)) then (rr_jn (fun (v0_3 : Int32) (v1_4 : Int32) =>
    rr_jn (fun (v0_5 : Int32) (v1_6 : Int32) =>
    rr_jn (fun (v0_7 : Int32) (v1_8 : Int32) =>
    rr_jn (fun (v0_9 : Int32) (v1_10 : Int32) =>
    some (v1_10 + ((v0_9.toUInt32 >>> ((1 : Int32).toUInt32 &&& Int32.toUInt32 31)).toInt32))) fun j74 =>
    if v0_7 ≤ 4 then (j74 v0_7 v1_8) else
    rr_lt (v1_8 + 2) fun v1_12 =>
    rr_lt ((v0_7.toUInt32 >>> ((2 : Int32).toUInt32 &&& Int32.toUInt32 31)).toInt32) fun v0_13 =>
    j74 v0_13 v1_12) fun j62 =>
    if v0_5 ≤ 16 then (j62 v0_5 v1_6) else
    rr_lt (v1_6 + 4) fun v1_15 =>
    rr_lt ((v0_5.toUInt32 >>> ((4 : Int32).toUInt32 &&& Int32.toUInt32 31)).toInt32) fun v0_16 =>
    j62 v0_16 v1_15) fun j49 =>
    if v0_3 ≤ 256 then (j49 v0_3 v1_4) else
    rr_lt (v1_4 + 8) fun v1_18 =>
    rr_lt ((v0_3.toUInt32 >>> ((8 : Int32).toUInt32 &&& Int32.toUInt32 31)).toInt32) fun v0_19 =>
    j49 v0_19 v1_18) fun j34 =>
    if (nI (2 ^ t - 1)) ≤ 65536 then (j34 (nI (2 ^ t - 1)) 1) else
    rr_lt (1 + 16) fun v1_21 =>
    rr_lt (((nI (2 ^ t - 1)).toUInt32 >>> ((16 : Int32).toUInt32 &&& Int32.toUInt32 31)).toInt32) fun v0_22 =>
    j34 v0_22 v1_21) else
    some ((nI (2 ^ t - 1)) &&& 32)) : Option Int32) = some (nI t) := by decide +kernel
theorem two_adic : ∀ (n : Nat), 0 < n → ∃ t k : Nat, n = 2 ^ (t + 1) * k + 2 ^ t := by
  intro n
  induction n using Nat.strongRecOn with
  | _ n ih =>
    intro h0
    by_cases h : n % 2 = 1
    · exact ⟨0, n / 2, by simp; omega⟩
    · obtain ⟨t, k, e⟩ := ih (n / 2) (by omega) (by omega)
      refine ⟨t + 1, k, ?_⟩
      have h1 : 2 ^ (t + 1 + 1) = 2 ^ (t + 1) * 2 := Nat.pow_succ _ _
      have h2 : 2 ^ (t + 1) = 2 ^ t * 2 := Nat.pow_succ _ _
      have h3 : n = 2 * (n / 2) := by omega
      rw [h3, e, h1]
      grind
theorem jin_ntz (x : Int32) (h0 : x.toInt ≠ 0) (h1 : -1073741824 ≤ x.toInt) (h2 : x.toInt ≤ 1073741824) : ∃ (t : Nat) (m : Int), t < 31 ∧ f_Jin_numberOfTrailingZeros x = some (nI t) ∧ x.toInt = 2 ^ t * (2 * m + 1) := by
  have hc := BitVec.toInt_eq_toNat_cond x.toBitVec
  have hx : x.toInt = x.toBitVec.toInt := rfl
  have hlt := x.toBitVec.isLt
  have hpos : 0 < x.toBitVec.toNat := by
    apply Nat.pos_of_ne_zero
    intro h
    rw [hx, hc, h] at h0
    simp at h0
  obtain ⟨t, k, e⟩ := two_adic x.toBitVec.toNat hpos
  have hp : 0 < 2 ^ t := Nat.pow_pos (by decide)
  have ht : t < 31 := by
    apply Nat.lt_of_not_le
    intro h
    have h5 := Nat.pow_le_pow_right (show 2 > 0 by decide) h
    have ht1 : 2 ^ (t + 1) = 2 ^ t * 2 := Nat.pow_succ _ _
    have hk0 : k = 0 := by
      rcases Nat.eq_zero_or_pos k with h6 | h6
      · exact h6
      · have := Nat.mul_le_mul_left (2 ^ (t + 1)) h6
        omega
    have ht32 : t < 32 := by
      apply Nat.lt_of_not_le
      intro h7
      have := Nat.pow_le_pow_right (show 2 > 0 by decide) h7
      omega
    have ht31 : t = 31 := by omega
    have e31 : x.toBitVec.toNat = 2147483648 := by rw [e, hk0, ht31]
    rw [hx, hc, e31] at h1 h2
    simp at h1 h2
  have hm := ntz_mask e hlt
  have hw : ((x ^^^ (-1)) &&& (x - 1)) = nI (2 ^ t - 1) := by
    apply Int32.toBitVec_inj.mp
    apply BitVec.eq_of_toNat_eq
    rw [Int32.toBitVec_and, BitVec.toNat_and, Int32.toBitVec_xor, Int32.toBitVec_sub]
    have a1 : (x.toBitVec ^^^ (-1 : Int32).toBitVec).toNat = 2 ^ 32 - 1 - x.toBitVec.toNat := by
      have : (-1 : Int32).toBitVec = BitVec.allOnes 32 := by decide
      rw [this, BitVec.xor_allOnes, BitVec.toNat_not]
    have a2 : (x.toBitVec - (1 : Int32).toBitVec).toNat = x.toBitVec.toNat - 1 := by
      rw [BitVec.toNat_sub]
      have : (1 : Int32).toBitVec.toNat = 1 := by decide
      rw [this]
      omega
    rw [a1, a2, hm]
    show _ = (Int32.ofNat (2 ^ t - 1)).toBitVec.toNat
    have : 2 ^ t ≤ 2 ^ 30 := Nat.pow_le_pow_right (by decide) (by omega)
    simp [Int32.toBitVec_ofNat']
    omega
  refine ⟨t, (if 2 * x.toBitVec.toNat < 2 ^ 32 then (k : Int) else (k : Int) - 2 ^ (32 - (t + 1))), ht, ?_, ?_⟩
  · unfold f_Jin_numberOfTrailingZeros
    rw [hw]
    exact ntz_rest t ht
  · rw [hx, hc]
    have e2 : (x.toBitVec.toNat : Int) = 2 ^ (t + 1) * k + 2 ^ t := by
      rw [e]; simp
    have e3 : (2 : Int) ^ (t + 1) = 2 ^ t * 2 := Int.pow_succ _ _
    split
    · rw [e2, e3]
      generalize (2 : Int) ^ t = P
      grind
    · have e4 : ((2 ^ 32 : Nat) : Int) = 2 ^ t * 2 * 2 ^ (32 - (t + 1)) := by
        rw [← e3, ← Int.pow_add, show t + 1 + (32 - (t + 1)) = 32 by omega]
        rfl
      rw [e2, e3, e4]
      generalize (2 : Int) ^ t = P
      generalize (2 : Int) ^ (32 - (t + 1)) = P'
      grind
theorem jlo_ntz (x : Int64) (h0 : x.toInt ≠ 0) (h1 : -1073741824 ≤ x.toInt) (h2 : x.toInt ≤ 1073741824) : ∃ (t : Nat) (m : Int), t < 31 ∧ f_Jlo_numberOfTrailingZeros_l x = some (nI t) ∧ x.toInt = 2 ^ t * (2 * m + 1) := by
  have e : x.toInt32.toInt = x.toInt := Jvm.Kit.i32_of_i64 (by omega) (by omega)
  obtain ⟨t, m, q1, q2, q3⟩ := jin_ntz x.toInt32 (by omega) (by omega) (by omega)
  refine ⟨t, m, q1, ?_, by omega⟩
  have hne : ¬ x.toInt32 = 0 := by
    intro h
    rw [h] at e
    exact h0 (by rw [← e]; rfl)
  unfold f_Jlo_numberOfTrailingZeros_l
  rw [if_neg hne, q2]
  rfl
