/-! ===== operators of the class by powers: ck times a to the k, p at x + a ===== -/
def OK6 (P : Pl) (a : Int) : Prop := ∀ k, k < 9 → ∀ i, i ≤ k → b8 (P k * a ^ i)
theorem str_i {fu B k : Nat} {σ : rr_M} {P : Pl} {a : Int32} (hk8 : k < 9) (ha : -1000 ≤ a.toInt ∧ a.toInt ≤ 1000) {kk : Int64 → Option (Int32 × rr_M)} {Q : Int32 × rr_M → Prop} (hk : (∀ i, i ≤ k → b8 (P k * a.toInt ^ i)) → ∀ v : Int64, v.toInt = P k * a.toInt ^ k → wq (kk v) Q) (hno : (¬ ∀ i, i ≤ k → b8 (P k * a.toInt ^ i)) → Q (0, σ)) :
    ∀ (fl i : Nat) (v : Int64), i ≤ k → k + 1 - i ≤ fl → v.toInt = P k * a.toInt ^ i → (∀ j, j ≤ i → b8 (P k * a.toInt ^ j)) → wq (l_Mak_stretch_22 fu (nx B) a (nI k) σ fl v (nI i) kk) Q
  | 0, i, v, h1, h2, _, _ => by omega
  | fl + 1, i, v, h1, h2, hv, hb => by
    rw [l_Mak_stretch_22]
    by_cases hi : i = k
    · subst hi
      exact wq_ip (nI_le (Nat.le_refl _) (by omega)) (hk hb v hv)
    refine wq_in (nI_ge (by omega) (by omega)) ?_
    dsimp only [rr_lt]
    have z8 : (100000000 : Int64).toInt = 100000000 := by decide
    have z8n : (-100000000 : Int64).toInt = -100000000 := by decide
    have e0 : P k * a.toInt ^ i * a.toInt = P k * a.toInt ^ (i + 1) := by rw [Int.pow_succ, Int.mul_assoc]
    have e : (v * a.toInt64).toInt = P k * a.toInt ^ (i + 1) := by
      have := abd_m (n := 100000000) (m := 1000) (abd_8 (hb i (Nat.le_refl _))) (abd_n ha.1 ha.2)
      unfold abd at this
      rw [e0] at this
      rw [j_mul, hv, Int32.toInt_toInt64, e0] <;> rw [hv, Int32.toInt_toInt64, e0] <;> omega
    rw [nI_1]
    by_cases c1 : (100000000 : Int64) < v * a.toInt64
    · refine wq_ip c1 (wq_ip (by decide) (wq_some (hno (fun hh => ?_))))
      have := hh (i + 1) (by omega)
      unfold b8 at this
      rw [j_lt, z8, e] at c1
      omega
    · refine wq_in c1 ?_
      rw [j_lt, z8, e] at c1
      by_cases c2 : (-100000000 : Int64) ≤ v * a.toInt64
      · refine wq_ip c2 (str_i hk8 ha hk hno fl (i + 1) _ (by omega) (by omega) e (fun j hj => ?_))
        rw [j_le, z8n, e] at c2
        by_cases hji : j = i + 1
        · subst hji; unfold b8; omega
        · exact hb j (by omega)
      · refine wq_in c2 (wq_ip (by decide) (wq_some (hno (fun hh => ?_))))
        have := hh (i + 1) (by omega)
        unfold b8 at this
        rw [j_le, z8n, e] at c2
        omega
theorem str_l {fu B o : Nat} {σ0 : rr_M} {P : Pl} {a : Int32} (hfu : 400 < fu) (hc : crf B σ0) (ho : o ≠ 62) (hn : nx B (B + o) = 9) (hP : ∀ j, j < 9 → (mg_l σ0 (B + o) j).toInt = P j) (hPb : ∀ j, b8 (P j)) (ha : -1000 ≤ a.toInt ∧ a.toInt ≤ 1000) {kk : rr_M → Option (Int32 × rr_M)} {Q : Int32 × rr_M → Prop} (hk : ∀ σ, OK6 P a.toInt → mkr B σ0 σ (fun j => if j < 9 then P j * a.toInt ^ j else 0) → wq (kk σ) Q) (hno : ∀ σ, ¬ OK6 P a.toInt → mkf B σ0 σ → Q (0, σ)) :
    ∀ (fl k : Nat) (σ : rr_M), k ≤ 9 → 10 - k ≤ fl → (∀ j, j < k → ∀ i, i ≤ j → b8 (P j * a.toInt ^ i)) → mkr B σ0 σ (fun j => if j < k then P j * a.toInt ^ j else 0) → wq (l_Mak_stretch_2 fu (nx B) (B + 61) (B + o) a fl (nI k) σ kk) Q
  | 0, k, σ, h1, h2, _, _ => by omega
  | fl + 1, k, σ, h1, h2, hO, hR => by
    rw [l_Mak_stretch_2, hn]
    by_cases hk9 : k = 9
    · subst hk9
      exact wq_ip (by decide) (hk σ hO hR)
    refine wq_in (nI_ge (by omega) (by omega)) (wq_in (show ¬ (17 : Int32) ≤ nI k from nI_ge (b := 17) (by omega) (by omega)) (wq_ip (ix_nI (by omega) (by omega)) ?_))
    dsimp only [rr_lt]
    have v2 := hP k (by omega)
    rw [← hR.1.2.2 (B + o) (by omega)] at v2
    rw [n_nI (show k < 2 ^ 31 by omega)]
    refine str_i (P := P) (show k < 9 by omega) ha ?_ ?_ fu 0 _ (by omega) (by omega) (by rw [v2, Int.pow_zero, Int.mul_one]) (fun j hj => ?_)
    · intro hb v hv
      rw [mk_r hc hR.1, nI_1, nx_62]
      refine wq_ip (ix_nI (by omega) (by omega)) ?_
      refine str_l hfu hc ho hn hP hPb ha hk hno fl (k + 1) _ (by omega) (by omega) (fun j hj => ?_) ⟨mkf_s hR.1, fun j hj => ?_⟩
      · by_cases hjk : j = k
        · subst hjk; exact hb
        · exact hO j (by omega)
      · by_cases hjk : j = k
        · subst hjk
          rw [sl_s, hv]
          exact (if_pos (by omega)).symm
        · rw [sl_n (Or.inr hjk), hR.2 j hj]
          dsimp only
          by_cases hc2 : j < k
          · rw [if_pos hc2, if_pos (by omega)]
          · rw [if_neg hc2, if_neg (by omega)]
    · intro hb
      exact hno σ (fun hh => hb (hh k (by omega))) hR.1
    · have : j = 0 := by omega
      subst this
      rw [Int.pow_zero, Int.mul_one]
      exact hPb k
-- p at x + a, by Horner's way
def psF (a : Int) (c : Nat → Int) : Nat → Int
  | 0 => c 8
  | m + 1 => c (7 - m) + a * psF a c m
def shR (P : Nat → Int) (a : Int) : Nat → Nat → Int
  | 0 => P
  | i + 1 => fun k => if k < i ∨ 8 < k then shR P a i k else psF a (shR P a i) (8 - k)
theorem shR_s (P : Nat → Int) (a : Int) {i k : Nat} (h1 : i ≤ k) (h2 : k ≤ 7) : shR P a (i + 1) k = shR P a i k + a * shR P a (i + 1) (k + 1) := by
  show (if k < i ∨ 8 < k then shR P a i k else psF a (shR P a i) (8 - k)) = shR P a i k + a * (if k + 1 < i ∨ 8 < k + 1 then shR P a i (k + 1) else psF a (shR P a i) (8 - (k + 1)))
  rw [if_neg (by omega), if_neg (by omega)]
  obtain ⟨m, hm⟩ : ∃ m, 8 - k = m + 1 := ⟨7 - k, by omega⟩
  rw [hm, show 8 - (k + 1) = m by omega]
  show shR P a i (7 - m) + a * psF a (shR P a i) m = _
  rw [show 7 - m = k by omega]
theorem shR_8 (P : Nat → Int) (a : Int) (i : Nat) (hi : i ≤ 8) : shR P a (i + 1) 8 = shR P a i 8 := by
  show (if 8 < i ∨ 8 < 8 then shR P a i 8 else psF a (shR P a i) (8 - 8)) = _
  rw [if_neg (by omega)]
  rfl
theorem shR_lo (P : Nat → Int) (a : Int) {i k : Nat} (h : k < i) : shR P a (i + 1) k = shR P a i k := by
  show (if k < i ∨ 8 < k then shR P a i k else psF a (shR P a i) (8 - k)) = _
  rw [if_pos (Or.inl h)]
theorem shR_hi (P : Nat → Int) (a : Int) {k : Nat} (h : 8 < k) : ∀ i, shR P a i k = P k
  | 0 => rfl
  | i + 1 => by
    show (if k < i ∨ 8 < k then shR P a i k else psF a (shR P a i) (8 - k)) = _
    rw [if_pos (Or.inr h)]
    exact shR_hi P a h i
theorem shR_end (P : Nat → Int) (a : Int) (i : Nat) : ∀ n, shR P a (i + 1 + n) i = shR P a (i + 1) i
  | 0 => rfl
  | n + 1 => by
    show shR P a (i + 1 + n + 1) i = _
    rw [shR_lo P a (by omega)]
    exact shR_end P a i n
def Mb : Nat → Nat
  | 0 => 100000000
  | i + 1 => 100000000 + 8 * Mb i
theorem Mb_le : ∀ i, i ≤ 8 → Mb i ≤ 2000000000000000 := by decide
theorem sh_bd {P : Nat → Int} {a : Int} (hP : ∀ j, b8 (P j)) (hE : ∀ j, j < 9 → b8 (shR P a 8 j)) : ∀ i, i ≤ 8 → ∀ k, i ≤ k → k ≤ 8 → abd (Mb i) (shR P a i k)
  | 0, _, k, _, _ => abd_8 (hP k)
  | i + 1, hi, k, h1, h2 => by
    have ih := sh_bd hP hE i (by omega)
    by_cases ha : a = 0
    · subst ha
      have e : shR P 0 (i + 1) k = shR P 0 i k := by
        by_cases hk8 : k = 8
        · subst hk8; exact shR_8 P 0 i (by omega)
        · rw [shR_s P 0 (by omega) (by omega), Int.zero_mul, Int.add_zero]
      rw [e]
      refine abd_w (ih k (by omega) h2) ?_
      show Mb i ≤ 100000000 + 8 * Mb i
      omega
    · have key : ∀ n, i + n ≤ 8 → abd (100000000 + n * Mb i) (shR P a (i + 1) (i + n)) := by
        intro n
        induction n with
        | zero =>
          intro _
          have := hE i (by omega)
          have e := shR_end P a i (7 - i)
          rw [show i + 1 + (7 - i) = 8 by omega] at e
          rw [e] at this
          exact abd_w (abd_8 this) (by omega)
        | succ n ihn =>
          intro hn
          have s := shR_s P a (i := i) (k := i + n) (by omega) (by omega)
          have b1 := ihn (by omega)
          have b2 := ih (i + n) (by omega) (by omega)
          have b3 : abd (100000000 + n * Mb i + Mb i) (a * shR P a (i + 1) (i + n + 1)) := by
            have : a * shR P a (i + 1) (i + n + 1) = shR P a (i + 1) (i + n) - shR P a i (i + n) := by omega
            rw [this]
            unfold abd at *
            omega
          unfold abd at b3 ⊢
          rw [Int.natAbs_mul] at b3
          have h1a : 1 ≤ a.natAbs := by omega
          have := Nat.mul_le_mul_right (shR P a (i + 1) (i + n + 1)).natAbs h1a
          rw [Nat.one_mul] at this
          rw [Nat.succ_mul]
          show (shR P a (i + 1) (i + n + 1)).natAbs ≤ _
          omega
      have := key (k - i) (by omega)
      rw [show i + (k - i) = k by omega] at this
      refine abd_w this ?_
      show _ ≤ 100000000 + 8 * Mb i
      have : (k - i) * Mb i ≤ 8 * Mb i := Nat.mul_le_mul_right _ (by omega)
      omega
def SB (z : Int) : Prop := -2000000000000000 ≤ z ∧ z ≤ 2000000000000000
def mid (P : Nat → Int) (a : Int) (i k' : Nat) (j : Nat) : Int := if k' ≤ j ∧ j ≤ 8 then shR P a (i + 1) j else shR P a i j
theorem nI_m {n : Nat} (h : 0 < n) : nI n + (-1) = nI (n - 1) := by
  obtain ⟨m, rfl⟩ : ∃ m, n = m + 1 := ⟨n - 1, by omega⟩
  exact nI_m1 m
theorem shi_l {fu B i : Nat} {σ0 : rr_M} {P : Nat → Int} {a : Int32} {OK : Prop} (hc : crf B σ0) (hi : i ≤ 7) (ha : -1000 ≤ a.toInt ∧ a.toInt ≤ 1000) (hOK : OK → ∀ k, i ≤ k → k ≤ 8 → SB (shR P a.toInt (i + 1) k)) {kk : rr_M → Option (Int32 × rr_M)} {Q : Int32 × rr_M → Prop}
    (hk : ∀ σ, mkr B σ0 σ (mid P a.toInt i i) → (∀ j, j ≤ 8 → SB (mid P a.toInt i i j)) → wq (kk σ) Q) (hno : ∀ σ, ¬ OK → mkf B σ0 σ → Q (0, σ)) :
    ∀ (fl k' : Nat) (σ : rr_M), i ≤ k' → k' ≤ 8 → k' + 1 ≤ fl → mkr B σ0 σ (mid P a.toInt i k') → (∀ j, j ≤ 8 → SB (mid P a.toInt i k' j)) → wq (l_Mak_shift_19 fu (nx B) (B + 61) a (nI i) fl (nI k' + (-1)) σ kk) Q
  | 0, k', σ, _, h1, h2, _, _ => by omega
  | fl + 1, k', σ, h0, h1, h2, hR, hS => by
    rw [l_Mak_shift_19]
    by_cases hki : k' = i
    · subst hki
      refine wq_ip ?_ (hk σ hR hS)
      by_cases h00 : k' = 0
      · subst h00; decide
      · rw [nI_m (by omega)]
        exact nI_lt (by omega) (by omega)
    have hpos : 0 < k' := by omega
    obtain ⟨k, rfl⟩ : ∃ k, k' = k + 1 := ⟨k' - 1, by omega⟩
    rw [nI_m hpos, Nat.add_sub_cancel]
    refine wq_in (nI_nlt (by omega) (by omega)) ?_
    dsimp only [rr_lt]
    have v1 := hR.2 k (by omega)
    have v2 := hR.2 (k + 1) (by omega)
    have s1 := hS k (by omega)
    have s2 := hS (k + 1) (by omega)
    have m1 : mid P a.toInt i (k + 1) k = shR P a.toInt i k := if_neg (by omega)
    have m2 : mid P a.toInt i (k + 1) (k + 1) = shR P a.toInt (i + 1) (k + 1) := if_pos (by omega)
    rw [m1] at v1 s1
    rw [m2] at v2 s2
    have st := shR_s P a.toInt (i := i) (k := k) (by omega) (by omega)
    have z1 : (2000000000000000 : Int64).toInt = 2000000000000000 := by decide
    have z2 : (-2000000000000000 : Int64).toInt = -2000000000000000 := by decide
    unfold SB at s1 s2
    have ab := abd_m (n := 1000) (m := 2000000000000000) (abd_n ha.1 ha.2) (show abd 2000000000000000 (shR P a.toInt (i + 1) (k + 1)) by unfold abd; omega)
    unfold abd at ab
    have e1 : (a.toInt64 * mg_l σ (B + 62) (k + 1)).toInt = a.toInt * shR P a.toInt (i + 1) (k + 1) := by
      rw [j_mul, Int32.toInt_toInt64, v2] <;> rw [Int32.toInt_toInt64, v2] <;> omega
    have e2 : (mg_l σ (B + 62) k + a.toInt64 * mg_l σ (B + 62) (k + 1)).toInt = shR P a.toInt (i + 1) k := by
      rw [st, j_add, v1, e1] <;> rw [v1, e1] <;> omega
    have mr := mk_r hc hR.1
    have ix1 := ix_nI (show k < 17 by omega) (by omega)
    have ix2 := ix_nI (show k + 1 < 17 by omega) (by omega)
    have md : ∀ j, j ≠ k → mid P a.toInt i k j = mid P a.toInt i (k + 1) j := fun j hj => by
      unfold mid
      by_cases h : k + 1 ≤ j ∧ j ≤ 8
      · rw [if_pos (by omega), if_pos h]
      · rw [if_neg (by omega), if_neg h]
    have mk : mid P a.toInt i k k = shR P a.toInt (i + 1) k := if_pos (by omega)
    rw [nI_1, sl_r, mr, nx_62, n_nI (show k < 2 ^ 31 by omega), n_nI (show k + 1 < 2 ^ 31 by omega), sl_s]
    refine wq_ip ix1 (wq_ip ix2 (wq_ip ix1 (wq_ip ix1 ?_)))
    by_cases c1 : (2000000000000000 : Int64) < mg_l σ (B + 62) k + a.toInt64 * mg_l σ (B + 62) (k + 1)
    · refine wq_ip c1 (wq_ip (by decide) (wq_some (hno _ (fun hh => ?_) (mkf_s hR.1))))
      have := hOK hh k (by omega) (by omega)
      unfold SB at this
      rw [j_lt, z1, e2] at c1
      omega
    refine wq_in c1 (wq_ip ix1 ?_)
    rw [j_lt, z1, e2] at c1
    by_cases c2 : (-2000000000000000 : Int64) ≤ mg_l σ (B + 62) k + a.toInt64 * mg_l σ (B + 62) (k + 1)
    · refine wq_ip c2 ?_
      rw [j_le, z2, e2] at c2
      refine shi_l hc hi ha hOK hk hno fl k _ (by omega) (by omega) (by omega) ⟨mkf_s hR.1, fun j hj => ?_⟩ (fun j hj => ?_)
      · by_cases hjk : j = k
        · subst hjk
          rw [sl_s, e2, mk]
        · rw [sl_n (Or.inr hjk), hR.2 j hj, md j hjk]
      · by_cases hjk : j = k
        · subst hjk
          rw [mk]
          unfold SB
          omega
        · rw [md j hjk]
          exact hS j hj
    · refine wq_in c2 (wq_ip (by decide) (wq_some (hno _ (fun hh => ?_) (mkf_s hR.1))))
      have := hOK hh k (by omega) (by omega)
      unfold SB at this
      rw [j_le, z2, e2] at c2
      omega
theorem sho_l {fu B : Nat} {σ0 : rr_M} {P : Nat → Int} {a : Int32} {OK : Prop} (hfu : 400 < fu) (hc : crf B σ0) (ha : -1000 ≤ a.toInt ∧ a.toInt ≤ 1000) (hOK : OK → ∀ i, i ≤ 7 → ∀ k, i ≤ k → k ≤ 8 → SB (shR P a.toInt (i + 1) k)) {kk : rr_M → Option (Int32 × rr_M)} {Q : Int32 × rr_M → Prop}
    (hk : ∀ σ, mkr B σ0 σ (shR P a.toInt 8) → wq (kk σ) Q) (hno : ∀ σ, ¬ OK → mkf B σ0 σ → Q (0, σ)) :
    ∀ (fl i : Nat) (σ : rr_M), i ≤ 8 → 9 - i ≤ fl → mkr B σ0 σ (shR P a.toInt i) → (∀ j, j ≤ 8 → SB (shR P a.toInt i j)) → wq (l_Mak_shift_9 fu (nx B) (B + 61) a fl (nI i) σ kk) Q
  | 0, i, σ, h1, h2, _, _ => by omega
  | fl + 1, i, σ, h1, h2, hR, hS => by
    rw [l_Mak_shift_9]
    by_cases h8 : i = 8
    · subst h8
      exact wq_ip (by decide) (hk σ hR)
    refine wq_in (show ¬ (8 : Int32) ≤ nI i from nI_ge (b := 8) (by omega) (by omega)) ?_
    have m8 : ∀ j, mid P a.toInt i 8 j = shR P a.toInt i j := fun j => by
      unfold mid
      by_cases h : 8 ≤ j ∧ j ≤ 8
      · have : j = 8 := by omega
        subst this
        rw [if_pos (by omega), shR_8 P _ i (by omega)]
      · rw [if_neg h]
    have mi : ∀ j, mid P a.toInt i i j = shR P a.toInt (i + 1) j := fun j => by
      unfold mid
      by_cases h : i ≤ j ∧ j ≤ 8
      · rw [if_pos h]
      · rw [if_neg h]
        by_cases h2 : j < i
        · rw [shR_lo P _ h2]
        · rw [shR_hi P _ (by omega), shR_hi P _ (by omega)]
    refine shi_l (P := P) (i := i) (OK := OK) hc (by omega) ha (fun h => hOK h i (by omega)) ?_ hno fu 8 σ (by omega) (by omega) (by omega) (mkr_e hR (fun j _ => (m8 j).symm)) (fun j hj => by rw [m8]; exact hS j hj)
    · intro σ' hR' hS'
      dsimp only [rr_lt]
      rw [nI_1]
      exact sho_l hfu hc ha hOK hk hno fl (i + 1) σ' (by omega) (by omega) (mkr_e hR' (fun j _ => mi j)) (fun j hj => by rw [← mi]; exact hS' j hj)
theorem sh_SB {P : Nat → Int} {a : Int} (hP : ∀ j, b8 (P j)) (hE : ∀ j, j < 9 → b8 (shR P a 8 j)) : ∀ i, i ≤ 7 → ∀ k, i ≤ k → k ≤ 8 → SB (shR P a (i + 1) k) := by
  intro i hi k h1 h2
  by_cases hki : i + 1 ≤ k
  · have h3 := sh_bd hP hE (i + 1) (by omega) k hki h2
    have h4 := Mb_le (i + 1) (by omega)
    unfold abd at h3
    unfold SB
    omega
  · have : k = i := by omega
    subst this
    have h3 := hE k (by omega)
    have e := shR_end P a k (7 - k)
    rw [show k + 1 + (7 - k) = 8 by omega] at e
    rw [e] at h3
    unfold b8 at h3
    unfold SB
    omega
noncomputable def oR (P : Pl) (a : Int) (op : Nat) : Nat → Int := if op = 6 then (fun j => if j < 9 then P j * a ^ j else 0) else if op = 4 then shR P a 8 else oG P a op
def oOK (P : Pl) (a : Int) (op : Nat) : Prop := if op = 6 then OK6 P a else ∀ j, j < 17 → fl1 (oR P a op) j
theorem apl_x {fu B o op : Nat} {σ : rr_M} {P : Pl} {a : Int32} (hfu : 400 < fu) (hc : crf B σ) (ho : o ≠ 62) (hn : nx B (B + o) = 9) (hP : ∀ j, j < 9 → (mg_l σ (B + o) j).toInt = P j) (h9 : pbd 9 P) (hPb : ∀ j, b8 (P j)) (ha : -1000 ≤ a.toInt ∧ a.toInt ≤ 1000) (hop : op ≤ 9) : wq (f_Mak_apply fu (nx B) (B + 61) (B + o) (nI op) a σ) (apS B σ (oOK P a.toInt op) (oR P a.toInt op)) := by
  unfold f_Mak_apply
  refine wq_bd (wq_mo (clr_ok hfu hc) ?_)
  rintro ⟨x1, σ1⟩ h1
  dsimp only [rr_lt, rr_jn] at h1 ⊢
  have b0 : mkb B σ σ1 (fun _ => 0) 0 := ⟨h1, fun j _ => Nat.zero_le _⟩
  have t1 : (1 : Int64).toInt = 1 := rfl
  have tm1 : (-1 : Int64).toInt = -1 := by decide
  have ta : a.toInt64.toInt = a.toInt := Int32.toInt_toInt64 a
  have r1 : -1000 ≤ (1 : Int) ∧ (1 : Int) ≤ 1000 := by decide
  have rm : -1000 ≤ (-1 : Int) ∧ (-1 : Int) ≤ 1000 := by decide
  have fin : ∀ {σ' : rr_M} {G : Nat → Int}, op ≠ 6 → op ≠ 4 → mkr B σ σ' G → (∀ j, j < 17 → G j = oG P a.toInt op j) → wq (Option.bind (f_Num_fits fu (nx B) (mg_r σ' (B + 61) 0) σ') fun r_5 => if rr_b1 r_5 = true then some (r_5, σ') else none) (apS B σ (oOK P a.toInt op) (oR P a.toInt op)) := fun {σ' G} h6 h4 h e => by
    have e1 : oR P a.toInt op = oG P a.toInt op := by unfold oR; rw [if_neg h6, if_neg h4]
    have e2 : oOK P a.toInt op = ∀ j, j < 17 → fl1 (oR P a.toInt op) j := by unfold oOK; rw [if_neg h6]
    rw [e2, e1]
    exact j199 hfu hc (mkr_e h e)
  have hop10 : op = 0 ∨ op = 1 ∨ op = 2 ∨ op = 3 ∨ op = 4 ∨ op = 5 ∨ op = 6 ∨ op = 7 ∨ op = 8 ∨ op = 9 := by omega
  rcases hop10 with rfl | rfl | rfl | rfl | rfl | rfl | rfl | rfl | rfl | rfl
  · refine wq_ip (by decide) (wq_bd (wq_mo (ads0 (f := 1) hfu hc ho hn hP h9 hPb t1 r1 (by omega) b0) ?_))
    rintro ⟨x2, σ2⟩ h2
    exact fin (by omega) (by omega) h2.1 (fun j _ => Int.zero_add _)
  · refine wq_in (by decide) (wq_ip (by decide) (wq_bd (wq_mo (ads1 (f := 1) hfu hc ho hn hP h9 hPb t1 r1 (by omega) b0) ?_)))
    rintro ⟨x2, σ2⟩ h2
    exact fin (by omega) (by omega) h2.1 (fun j _ => Int.zero_add _)
  · refine wq_in (by decide) (wq_in (by decide) (wq_ip (by decide) (wq_bd (wq_mo (adn0 (f := 1) hfu hc ho hn hP h9 hPb t1 r1 (by omega) b0) ?_))))
    rintro ⟨x2, σ2⟩ h2
    refine wq_bd (wq_mo (ads0 hfu hc ho hn hP h9 hPb ta ha (by omega) h2) ?_)
    rintro ⟨x3, σ3⟩ h3
    refine fin (by omega) (by omega) h3.1 (fun j _ => ?_)
    show 0 + 1 * P j + _ = 1 * P j + _
    rw [Int.zero_add]
  · refine wq_in (by decide) (wq_in (by decide) (wq_in (by decide) (wq_ip (by decide) (wq_bd (wq_mo (adn1 (f := 1) hfu hc ho hn hP h9 hPb t1 r1 (by omega) b0) ?_)))))
    rintro ⟨x2, σ2⟩ h2
    refine wq_bd (wq_mo (adn0 hfu hc ho hn hP h9 hPb ta ha (by omega) h2) ?_)
    rintro ⟨x3, σ3⟩ h3
    refine fin (by omega) (by omega) h3.1 (fun j _ => ?_)
    show 0 + 1 * ahd P j + _ = 1 * ahd P j + _
    rw [Int.zero_add]
  · refine wq_in (by decide) (wq_in (by decide) (wq_in (by decide) (wq_in (by decide) (wq_ip (by decide) ?_))))
    unfold f_Mak_shift
    refine wq_bd (wq_bd (wq_mo (adn0 (f := 1) hfu hc ho hn hP h9 hPb t1 r1 (by omega) b0) ?_))
    rintro ⟨x2, σ2⟩ h2
    dsimp only [rr_lt] at h2 ⊢
    have h2' : mkr B σ σ2 (shR P a.toInt 0) := mkr_e h2.1 (fun j _ => by
      show 0 + 1 * P j = P j
      rw [Int.zero_add, Int.one_mul])
    have e1 : oR P a.toInt 4 = shR P a.toInt 8 := by unfold oR; rw [if_neg (by omega), if_pos rfl]
    have e2 : oOK P a.toInt 4 = ∀ j, j < 17 → fl1 (shR P a.toInt 8) j := by unfold oOK; rw [if_neg (by omega), e1]
    rw [e2, e1]
    refine sho_l (P := P) (OK := ∀ j, j < 17 → fl1 (shR P a.toInt 8) j) hfu hc ha (fun h => sh_SB hPb (fun j hj => by
      have := h j (by omega)
      unfold fl1 at this
      rw [if_neg (by omega)] at this
      exact this)) ?_ ?_ fu 0 σ2 (by omega) (by omega) h2' (fun j _ => by
        have := hPb j
        unfold b8 at this
        show SB (P j)
        unfold SB
        omega)
    · intro σ3 h3
      refine wq_mo (j199 hfu hc h3) ?_
      rintro ⟨r, σ4⟩ hy
      refine wq_ip ?_ (wq_some hy)
      rcases hy.2.1 with ⟨e, _⟩ | ⟨e, _⟩ <;> dsimp only at e ⊢ <;> rw [e] <;> decide
    · intro σ3 h F
      exact wq_ip (show rr_b1 0 = true by decide) (wq_some ⟨F, Or.inr ⟨rfl, h⟩, fun hh => absurd hh h⟩)
  · refine wq_in (by decide) (wq_in (by decide) (wq_in (by decide) (wq_in (by decide) (wq_in (by decide) (wq_ip (by decide) ?_)))))
    unfold f_Mak_turn
    have d9 : dln P ≤ 9 := lnn_le 9 P
    rw [num_deg (fu := fu) (o := o) (B := B) (σ := σ1) (f := P) hfu hn (fun j hj => by rw [h1.1.2.2 (B + o) (by omega)]; exact hP j hj)]
    refine wq_bd (wq_ob (wq_some ?_))
    by_cases hz : dln P = 0
    · rw [hz]
      obtain ⟨f, rfl⟩ : ∃ f, fu = f + 1 := ⟨fu - 1, by omega⟩
      rw [l_Mak_turn_7]
      refine wq_ip (by decide) (wq_some ?_)
      refine fin (by omega) (by omega) h1 (fun j _ => ?_)
      show 0 = (if j < dln P then P (dgg P - j) else 0)
      rw [if_neg (by omega)]
    · rw [nI_pr (show 0 < dln P by omega)]
      refine trn_l (d := dln P - 1) hc ho hn hP (by omega) ?_ fu 0 σ1 (by omega) (by omega) (mkr_e h1 (fun j _ => by rw [if_neg (by omega)]))
      intro σ2 h2
      refine wq_some ?_
      refine fin (by omega) (by omega) h2 (fun j _ => ?_)
      show _ = (if j < dln P then P (dgg P - j) else 0)
      by_cases h : j < dln P
      · rw [if_pos (by omega), if_pos h]; rfl
      · rw [if_neg (by omega), if_neg h]
  · refine wq_in (by decide) (wq_in (by decide) (wq_in (by decide) (wq_in (by decide) (wq_in (by decide) (wq_in (by decide) (wq_ip (by decide) ?_))))))
    have e1 : oR P a.toInt 6 = (fun j => if j < 9 then P j * a.toInt ^ j else 0) := by unfold oR; rw [if_pos rfl]
    have e2 : oOK P a.toInt 6 = OK6 P a.toInt := by unfold oOK; rw [if_pos rfl]
    rw [e2, e1]
    unfold f_Mak_stretch
    refine wq_bd (str_l hfu hc ho hn hP hPb ha ?_ ?_ fu 0 σ1 (by omega) (by omega) (fun j hj => absurd hj (by omega)) (mkr_e h1 (fun j _ => by rw [if_neg (by omega)])))
    · intro σ2 h F
      refine wq_ip (by decide) (wq_some (wq_ip (show rr_b1 1 = true by decide) (wq_some ⟨F.1, Or.inl ⟨rfl, h⟩, fun _ j hj => ⟨?_, F.2 j (by omega)⟩⟩)))
      dsimp only
      rw [if_pos hj]
      exact h j hj j (Nat.le_refl _)
    · intro σ2 h F
      exact wq_ip (show rr_b1 0 = true by decide) (wq_some ⟨F, Or.inr ⟨rfl, h⟩, fun hh => absurd hh h⟩)
  · refine wq_in (by decide) (wq_in (by decide) (wq_in (by decide) (wq_in (by decide) (wq_in (by decide) (wq_in (by decide) (wq_in (by decide) (wq_ip (by decide) ?_)))))))
    refine wq_bd (wq_mo (adn0 (f := 1) hfu hc ho hn hP h9 hPb t1 r1 (by omega) b0) ?_)
    rintro ⟨x2, σ2⟩ h2
    refine wq_bd (wq_mo (adn1 hfu hc ho hn hP h9 hPb ta ha (by omega) h2) ?_)
    rintro ⟨x3, σ3⟩ h3
    refine wq_bd (wq_mo (ads1 (f := 1) hfu hc ho hn hP h9 hPb t1 r1 (by omega) h3) ?_)
    rintro ⟨x4, σ4⟩ h4
    refine wq_bd (wq_mo (ads2 (f := -1) hfu hc ho hn hP h9 hPb tm1 rm (by omega) h4) ?_)
    rintro ⟨x5, σ5⟩ h5
    refine fin (by omega) (by omega) h5.1 (fun j _ => ?_)
    show 0 + 1 * P j + a.toInt * ahd P j + 1 * (j : Int) * P j + _ = 1 * P j + a.toInt * ahd P j + 1 * (j : Int) * P j + _
    rw [Int.zero_add]
  · refine wq_in (by decide) (wq_in (by decide) (wq_in (by decide) (wq_in (by decide) (wq_in (by decide) (wq_in (by decide) (wq_in (by decide) (wq_in (by decide) (wq_ip (by decide) ?_))))))))
    refine wq_bd (wq_mo (adn1 (f := 1) hfu hc ho hn hP h9 hPb t1 r1 (by omega) b0) ?_)
    rintro ⟨x2, σ2⟩ h2
    refine wq_bd (wq_mo (ads1 (f := 1) hfu hc ho hn hP h9 hPb t1 r1 (by omega) h2) ?_)
    rintro ⟨x3, σ3⟩ h3
    refine fin (by omega) (by omega) h3.1 (fun j _ => ?_)
    show 0 + 1 * ahd P j + _ = 1 * ahd P j + _
    rw [Int.zero_add]
  · refine wq_in (by decide) (wq_in (by decide) (wq_in (by decide) (wq_in (by decide) (wq_in (by decide) (wq_in (by decide) (wq_in (by decide) (wq_in (by decide) (wq_in (by decide) (wq_ip (by decide) ?_)))))))))
    unfold f_Mak_weigh
    refine wq_bd (wgh_l hc ho hn hP hPb ?_ fu 0 1 σ1 (by omega) (by omega) rfl (mkr_e h1 (fun j _ => by rw [if_neg (by omega)])))
    intro σ2 h2
    refine wq_some ?_
    refine fin (by omega) (by omega) h2 (fun j _ => ?_)
    show _ = P j * fcz j
    by_cases h : j < 9
    · rw [if_pos h]
    · rw [if_neg h, h9 j (by omega), Int.zero_mul]
