/-! ===== operators of the model, but for p at x + a ===== -/
theorem j_mulb {x y : Int64} {a b : Int} {n m : Nat} (hx : x.toInt = a) (hy : y.toInt = b) (ha : abd n a) (hb : abd m b) (h : n * m < 9000000000000000000) : (x * y).toInt = a * b ∧ abd (n * m) (a * b) := by
  have := abd_m ha hb
  refine ⟨?_, this⟩
  unfold abd at this
  rw [j_mul, hx, hy] <;> rw [hx, hy] <;> omega
theorem j_addb {x y : Int64} {a b : Int} {n m : Nat} (hx : x.toInt = a) (hy : y.toInt = b) (ha : abd n a) (hb : abd m b) (h : n + m < 9000000000000000000) : (x + y).toInt = a + b ∧ abd (n + m) (a + b) := by
  have := abd_a ha hb
  refine ⟨?_, this⟩
  unfold abd at this
  rw [j_add, hx, hy] <;> rw [hx, hy] <;> omega
theorem j_subb {x y : Int64} {a b : Int} {n m : Nat} (hx : x.toInt = a) (hy : y.toInt = b) (ha : abd n a) (hb : abd m b) (h : n + m < 9000000000000000000) : (x - y).toInt = a - b ∧ abd (n + m) (a - b) := by
  have h2 : abd (n + m) (a - b) := by unfold abd at *; omega
  refine ⟨?_, h2⟩
  unfold abd at h2
  rw [j_sub, hx, hy] <;> rw [hx, hy] <;> omega
theorem nat_m {C u : Nat} {σ : rr_M} {P : Pl} {v : Int32} {z : Int} (hm : mrf C σ) (hu : u < 8) (hP : mpo C σ u P) (hz : v.toInt = z) : ∃ x : Int64, f_Mod_numberAt (nm C) C (nI u) v σ = some x ∧ x.toInt = (if 0 ≤ z ∧ z ≤ 8 then P z.toNat else 0) := by
  unfold f_Mod_numberAt
  rw [isin_ok, Int32.toInt_toInt64, hz, show (0 : Int64).toInt = 0 from rfl, show (8 : Int64).toInt = 8 from rfl]
  by_cases h : 0 ≤ z ∧ z ≤ 8
  · rw [if_pos h, if_pos h]
    obtain ⟨k, hk, rfl⟩ : ∃ k, k < 9 ∧ v = nI k := ⟨z.toNat, by omega, i_inj (by rw [nI_toInt (by omega)]; omega)⟩
    rw [mat_ok hm (show u < 23 by omega) hk]
    refine ⟨_, rfl, ?_⟩
    rw [hP k hk]
    rw [nI_toInt (by omega)] at hz
    congr 1
    omega
  · rw [if_neg h, if_neg h]
    exact ⟨0, rfl, rfl⟩
theorem mad_m {fu C u op k : Nat} {σ : rr_M} {P : Pl} {a : Int32} (hfu : 400 < fu) (hm : mrf C σ) (hu : u < 8) (hP : mpo C σ u P) (h9 : pbd 9 P) (hPb : ∀ j, b8 (P j)) (ha : -1000 ≤ a.toInt ∧ a.toInt ≤ 1000) (hop : op ≤ 9) (hk : k ≤ 9) : ∃ x : Int64, f_Mod_made fu (nm C) C (nI u) (nI op) a (nI k) σ = some x ∧ x.toInt = (if op = 4 ∨ op = 6 ∨ op = 9 then P k else oG P a.toInt op k) ∧ abd 100000000000000 x.toInt := by
  have tk : (nI k).toInt = (k : Int) := nI_toInt (by omega)
  have tk1 : (nI k + 1).toInt = (k : Int) + 1 := by rw [nI_1, nI_toInt (by omega)]; omega
  have tkm : (nI k - 1).toInt = (k : Int) - 1 := nI_subT (b := 1) (by omega) (by omega)
  obtain ⟨c, c1, c2⟩ := nat_m (v := nI k) hm hu hP tk
  obtain ⟨b, b1, b2⟩ := nat_m (v := nI k - 1) hm hu hP tkm
  obtain ⟨d, d1, d2⟩ := nat_m (v := nI k + 1) hm hu hP tk1
  have vc : c.toInt = P k := by
    rw [c2]
    by_cases h : (k : Int) ≤ 8
    · rw [if_pos (by omega)]; rfl
    · rw [if_neg (by omega), h9 k (by omega)]
  have vb : b.toInt = ahd P k := by
    rw [b2]
    unfold ahd
    by_cases h : k = 0
    · rw [if_neg (by omega), if_pos h]
    · rw [if_pos (by omega), if_neg h]
      congr 1
      omega
  have vd : d.toInt = P (k + 1) := by
    rw [d2]
    by_cases h : (k : Int) + 1 ≤ 8
    · rw [if_pos (by omega)]; rfl
    · rw [if_neg (by omega), h9 (k + 1) (by omega)]
  have t64 : (nI k).toInt64.toInt = (k : Int) := by rw [Int32.toInt_toInt64, tk]
  have t641 : (nI k + 1).toInt64.toInt = (k : Int) + 1 := by rw [Int32.toInt_toInt64, tk1]
  have ta : a.toInt64.toInt = a.toInt := Int32.toInt_toInt64 a
  have t64m : ((nI k).toInt64 - 1).toInt = (k : Int) - 1 := (j_subb (n := 10) (m := 1) t64 (show (1 : Int64).toInt = 1 from rfl) (abd_n (by omega) (by omega)) (abd_n (by omega) (by omega)) (by omega)).1
  have ac := abd_8 (hPb k)
  have ab := abd_8 (ahd_b hPb k)
  have ad := abd_8 (hPb (k + 1))
  have aa : abd 1000 a.toInt := abd_n ha.1 ha.2
  have ak : abd 10 (k : Int) := abd_n (by omega) (by omega)
  have ak1 : abd 10 ((k : Int) + 1) := abd_n (by omega) (by omega)
  have akm : abd 10 ((k : Int) - 1) := abd_n (by omega) (by omega)
  unfold f_Mod_made
  rw [c1, b1, d1]
  dsimp only [Option.bind]
  have hop10 : op = 0 ∨ op = 1 ∨ op = 2 ∨ op = 3 ∨ op = 4 ∨ op = 5 ∨ op = 6 ∨ op = 7 ∨ op = 8 ∨ op = 9 := by omega
  rcases hop10 with rfl | rfl | rfl | rfl | rfl | rfl | rfl | rfl | rfl | rfl
  · rw [if_pos (by decide), if_neg (by omega)]
    obtain ⟨x1, x2⟩ := j_mulb t641 vd ak1 ad (by omega)
    refine ⟨_, rfl, ?_, ?_⟩
    · rw [x1]; show _ = 1 * ((k : Int) + 1) * P (k + 1); rw [Int.one_mul]
    · rw [x1]; exact abd_w x2 (by omega)
  · rw [if_neg (by decide), if_pos (by decide), if_neg (by omega)]
    obtain ⟨x1, x2⟩ := j_mulb t64 vc ak ac (by omega)
    refine ⟨_, rfl, ?_, ?_⟩
    · rw [x1]; show _ = 1 * (k : Int) * P k; rw [Int.one_mul]
    · rw [x1]; exact abd_w x2 (by omega)
  · rw [if_neg (by decide), if_neg (by decide), if_pos (by decide), if_neg (by omega)]
    obtain ⟨x1, x2⟩ := j_mulb ta t641 aa ak1 (by omega)
    obtain ⟨x3, x4⟩ := j_mulb x1 vd x2 ad (by omega)
    obtain ⟨x5, x6⟩ := j_addb vc x3 ac x4 (by omega)
    refine ⟨_, rfl, ?_, ?_⟩
    · rw [x5]; show _ = 1 * P k + a.toInt * ((k : Int) + 1) * P (k + 1); rw [Int.one_mul]
    · rw [x5]; exact abd_w x6 (by omega)
  · rw [if_neg (by decide), if_neg (by decide), if_neg (by decide), if_pos (by decide), if_neg (by omega)]
    obtain ⟨x1, x2⟩ := j_mulb ta vc aa ac (by omega)
    obtain ⟨x3, x4⟩ := j_addb vb x1 ab x2 (by omega)
    refine ⟨_, rfl, ?_, ?_⟩
    · rw [x3]; show _ = 1 * ahd P k + a.toInt * P k; rw [Int.one_mul]
    · rw [x3]; exact abd_w x4 (by omega)
  · rw [if_neg (by decide), if_neg (by decide), if_neg (by decide), if_neg (by decide), if_pos (by decide), if_pos (by omega)]
    exact ⟨_, rfl, vc, by rw [vc]; exact abd_w ac (by omega)⟩
  · rw [if_neg (by decide), if_neg (by decide), if_neg (by decide), if_neg (by decide), if_neg (by decide), if_pos (by decide), if_neg (by omega), mdg_ok (fu := fu) (r := u) hfu hm (by omega) hP]
    have l9 : dln P ≤ 9 := lnn_le 9 P
    dsimp only
    have e1 : (nI (dln P) - 1).toInt = (dln P : Int) - 1 := nI_subT (b := 1) (by omega) (by omega)
    have e2 : (nI (dln P) - 1 - nI k).toInt = (dln P : Int) - 1 - k := by
      rw [Jvm.Kit.i32_sub, e1, tk] <;> rw [e1, tk] <;> omega
    obtain ⟨y, y1, y2⟩ := nat_m (v := nI (dln P) - 1 - nI k) hm hu hP e2
    rw [y1]
    refine ⟨y, rfl, ?_, ?_⟩
    · rw [y2]
      show _ = (if k < dln P then P (dgg P - k) else 0)
      by_cases h : k < dln P
      · rw [if_pos (by omega), if_pos h]
        congr 1
        unfold dgg
        omega
      · rw [if_neg (by omega), if_neg h]
    · rw [y2]
      split
      · exact abd_w (abd_8 (hPb _)) (by omega)
      · exact Nat.zero_le _
  · rw [if_neg (by decide), if_neg (by decide), if_neg (by decide), if_neg (by decide), if_neg (by decide), if_neg (by decide), if_pos (by decide), if_pos (by omega)]
    exact ⟨_, rfl, vc, by rw [vc]; exact abd_w ac (by omega)⟩
  · rw [if_neg (by decide), if_neg (by decide), if_neg (by decide), if_neg (by decide), if_neg (by decide), if_neg (by decide), if_neg (by decide), if_pos (by decide), if_neg (by omega)]
    obtain ⟨x1, x2⟩ := j_mulb ta vb aa ab (by omega)
    obtain ⟨x3, x4⟩ := j_addb vc x1 ac x2 (by omega)
    obtain ⟨x5, x6⟩ := j_mulb t64 vc ak ac (by omega)
    obtain ⟨x7, x8⟩ := j_addb x3 x5 x4 x6 (by omega)
    obtain ⟨x9, x10⟩ := j_mulb t64m vb akm ab (by omega)
    obtain ⟨x11, x12⟩ := j_subb x7 x9 x8 x10 (by omega)
    refine ⟨_, rfl, ?_, ?_⟩
    · rw [x11]
      show _ = 1 * P k + a.toInt * ahd P k + 1 * (k : Int) * P k + -1 * ((k : Int) - 1) * ahd P k
      rw [Int.one_mul, Int.one_mul, Int.neg_mul, Int.one_mul, Int.neg_mul]
      omega
    · rw [x11]; exact abd_w x12 (by omega)
  · rw [if_neg (by decide), if_neg (by decide), if_neg (by decide), if_neg (by decide), if_neg (by decide), if_neg (by decide), if_neg (by decide), if_neg (by decide), if_pos (by decide), if_neg (by omega)]
    obtain ⟨x1, x2⟩ := j_mulb t64 vc ak ac (by omega)
    obtain ⟨x3, x4⟩ := j_addb vb x1 ab x2 (by omega)
    refine ⟨_, rfl, ?_, ?_⟩
    · rw [x3]; show _ = 1 * ahd P k + 1 * (k : Int) * P k; rw [Int.one_mul, Int.one_mul]
    · rw [x3]; exact abd_w x4 (by omega)
  · rw [if_neg (by decide), if_neg (by decide), if_neg (by decide), if_neg (by decide), if_neg (by decide), if_neg (by decide), if_neg (by decide), if_neg (by decide), if_neg (by decide), if_pos (by omega)]
    exact ⟨_, rfl, vc, by rw [vc]; exact abd_w ac (by omega)⟩
-- ck times a to the power of k, or more than can be
def scF (a : Int) : Nat → Int → Int
  | 0, v => v
  | n + 1, v => if -100000000 ≤ v ∧ v ≤ 100000000 then scF a n (v * a) else v
theorem scF_ok (a : Int) : ∀ (n : Nat) (v : Int), (b8 (scF a n v) ↔ ∀ i, i ≤ n → b8 (v * a ^ i)) ∧ (b8 (scF a n v) → scF a n v = v * a ^ n)
  | 0, v => by
    refine ⟨⟨fun h i hi => ?_, fun h => ?_⟩, fun _ => ?_⟩
    · have : i = 0 := by omega
      subst this
      rw [Int.pow_zero, Int.mul_one]
      exact h
    · have := h 0 (by omega)
      rw [Int.pow_zero, Int.mul_one] at this
      exact this
    · rw [Int.pow_zero, Int.mul_one]
      rfl
  | n + 1, v => by
    obtain ⟨i1, i2⟩ := scF_ok a n (v * a)
    have ep : ∀ i : Nat, v * a * a ^ i = v * a ^ (i + 1) := fun i => by rw [Int.pow_succ, Int.mul_assoc, Int.mul_comm a]
    show (b8 (if -100000000 ≤ v ∧ v ≤ 100000000 then scF a n (v * a) else v) ↔ _) ∧ (b8 (if -100000000 ≤ v ∧ v ≤ 100000000 then scF a n (v * a) else v) → (if -100000000 ≤ v ∧ v ≤ 100000000 then scF a n (v * a) else v) = _)
    by_cases hv : -100000000 ≤ v ∧ v ≤ 100000000
    · rw [if_pos hv]
      refine ⟨⟨fun h i hi => ?_, fun h => ?_⟩, fun h => ?_⟩
      · by_cases h0 : i = 0
        · subst h0
          rw [Int.pow_zero, Int.mul_one]
          exact hv
        · have := i1.mp h (i - 1) (by omega)
          rw [ep, show i - 1 + 1 = i by omega] at this
          exact this
      · refine i1.mpr (fun i hi => ?_)
        rw [ep]
        exact h (i + 1) (by omega)
      · rw [i2 h, ep]
    · rw [if_neg hv]
      refine ⟨⟨fun h => absurd h hv, fun h => ?_⟩, fun h => absurd h hv⟩
      have := h 0 (by omega)
      rw [Int.pow_zero, Int.mul_one] at this
      exact this
theorem scF_b {a : Int} (ha : -1000 ≤ a ∧ a ≤ 1000) : ∀ (n : Nat) (v : Int), abd 100000000000 v → abd 100000000000 (scF a n v)
  | 0, v, h => h
  | n + 1, v, h => by
    show abd _ (if -100000000 ≤ v ∧ v ≤ 100000000 then scF a n (v * a) else v)
    by_cases hv : -100000000 ≤ v ∧ v ≤ 100000000
    · rw [if_pos hv]
      exact scF_b ha n _ (abd_m (n := 100000000) (m := 1000) (abd_8 hv) (abd_n ha.1 ha.2))
    · rw [if_neg hv]
      exact h
theorem scl_m {fu C k : Nat} {σ : rr_M} {a : Int32} (ha : -1000 ≤ a.toInt ∧ a.toInt ≤ 1000) (hk8 : k < 9) : ∀ (fl n : Nat) (v : Int64), n ≤ k → n + 1 ≤ fl → abd 100000000000 v.toInt → ∃ x : Int64, l_Mod_scaled_11 fu (nm C) (nI k) a σ fl v (nI (k - n)) (fun v => some v) = some x ∧ x.toInt = scF a.toInt n v.toInt
  | 0, n, v, h1, h2, _ => by omega
  | fl + 1, n, v, h1, h2, hb => by
    rw [l_Mod_scaled_11]
    by_cases h0 : n = 0
    · subst h0
      rw [if_pos (nI_le (by omega) (by omega))]
      exact ⟨v, rfl, rfl⟩
    obtain ⟨m, rfl⟩ : ∃ m, n = m + 1 := ⟨n - 1, by omega⟩
    unfold abd at hb
    obtain ⟨w, w1, w2⟩ := siz_m (a := v) (by omega)
    rw [if_neg (nI_ge (by omega) (by omega)), w1]
    dsimp only [Option.bind, rr_lt]
    have z8 : (100000000 : Int64).toInt = 100000000 := by decide
    show ∃ x, _ ∧ _ = (if -100000000 ≤ v.toInt ∧ v.toInt ≤ 100000000 then scF a.toInt m (v.toInt * a.toInt) else v.toInt)
    by_cases hv : -100000000 ≤ v.toInt ∧ v.toInt ≤ 100000000
    · rw [if_neg (show ¬ (100000000 : Int64) < w by rw [j_lt, w2, z8]; omega), if_pos hv, nI_1, show k - (m + 1) + 1 = k - m by omega]
      obtain ⟨x1, x2⟩ := j_mulb (x := v) (y := a.toInt64) rfl (Int32.toInt_toInt64 a) (abd_8 hv) (abd_n (n := 1000) ha.1 ha.2) (by omega)
      obtain ⟨y, y1, y2⟩ := scl_m (C := C) (σ := σ) (fu := fu) ha hk8 fl m (v * a.toInt64) (by omega) (by omega) (by rw [x1]; exact x2)
      exact ⟨y, y1, by rw [y2, x1]⟩
    · rw [if_pos (show (100000000 : Int64) < w by rw [j_lt, w2, z8]; omega), if_neg hv]
      exact ⟨v, rfl, rfl⟩
/-- what the model lays aside for an operator -/
noncomputable def mG (P : Pl) (a : Int) (op : Nat) (k : Nat) : Int := if op = 6 then scF a k (P k) else oG P a op k
theorem fac_m {fu C k : Nat} {σ : rr_M} {K : Int64 → Option (Int32 × rr_M)} {R : Int32 × rr_M → Prop} {p : Int} (hk8 : k < 9) (hp : b8 p) (hK : ∀ v : Int64, v.toInt = p * fcz k → wq (K v) R) : ∀ (fl i : Nat) (v : Int64), 2 ≤ i → (i ≤ k + 1 ∨ i = 2) → 10 - i < fl → v.toInt = p * fcz (min (i - 1) k) → wq (l_Mod_operate_121 fu (nm C) 9 (nI k) σ fl v (nI i) K) R
  | 0, i, v, h0, h1, h2, _ => by omega
  | fl + 1, i, v, h0, h1, h2, hv => by
    rw [l_Mod_operate_121]
    by_cases hi : k < i
    · refine wq_ip (nI_lt hi (by omega)) (hK v ?_)
      rw [hv, show min (i - 1) k = k by omega]
    refine wq_in (nI_nlt (by omega) (by omega)) (wq_ip rfl ?_)
    dsimp only [rr_lt]
    rw [nI_1]
    have f1 := fcz_b (i - 1) (by omega)
    have f2 := fcz_b i (by omega)
    rw [show min (i - 1) k = i - 1 by omega] at hv
    have ti : (nI i).toInt64.toInt = (i : Int) := by rw [Int32.toInt_toInt64, nI_toInt (by omega)]
    obtain ⟨x1, x2⟩ := j_mulb (n := 100000000 * 40320) (m := 10) hv ti (abd_m (abd_8 hp) (abd_n (n := 40320) (by omega) (by omega))) (abd_n (by omega) (by omega)) (by omega)
    refine fac_m hk8 hp hK fl (i + 1) _ (by omega) (by omega) (by omega) ?_
    rw [x1, show min (i + 1 - 1) k = i by omega, fcz_s i (by omega), Int.mul_assoc]
theorem opb_m {fu C u op k : Nat} {σ : rr_M} {P : Pl} {a : Int32} (hfu : 400 < fu) (hm : mrf C σ) (hu : u < 8) (hP : mpo C σ u P) (h9 : pbd 9 P) (hPb : ∀ j, b8 (P j)) (ha : -1000 ≤ a.toInt ∧ a.toInt ≤ 1000) (hop : op ≤ 9) (hop4 : op ≠ 4) (hk : k < 9) {K : Int64 → Option (Int32 × rr_M)} {R : Int32 × rr_M → Prop} (hK : ∀ v : Int64, v.toInt = mG P a.toInt op k → wq (K v) R) :
    wq (Option.bind (f_Mod_made fu (nm C) C (nI u) (nI op) a (nI k) σ) fun r_16 => if nI op = 6 then Option.bind (f_Mod_scaled fu (nm C) C (nI u) (nI k) a σ) fun r_28 => l_Mod_operate_121 fu (nm C) (nI op) (nI k) σ fu r_28 2 K else l_Mod_operate_121 fu (nm C) (nI op) (nI k) σ fu r_16 2 K) R := by
  obtain ⟨x, x1, x2, x3⟩ := mad_m (op := op) (k := k) hfu hm hu hP h9 hPb ha hop (by omega)
  have pass : ∀ v : Int64, op ≠ 9 → v.toInt = mG P a.toInt op k → wq (l_Mod_operate_121 fu (nm C) (nI op) (nI k) σ fu v 2 K) R := by
    intro v h v1
    obtain ⟨f, hf⟩ : ∃ f, fu = f + 1 := ⟨fu - 1, by omega⟩
    have : ∀ fl, wq (l_Mod_operate_121 fu (nm C) (nI op) (nI k) σ (fl + 1) v 2 K) R := fun fl => by
      rw [l_Mod_operate_121]
      by_cases c : nI k < 2
      · exact wq_ip c (hK v v1)
      · exact wq_in c (wq_in (fun hh => h ((nI_eq (b := 9) (by omega) (by omega)).mp hh)) (hK v v1))
    have h2 := this f
    rw [← hf] at h2
    exact h2
  rw [x1]
  refine wq_ob (wq_some ?_)
  by_cases h6 : op = 6
  · subst h6
    refine wq_ip (by decide) ?_
    unfold f_Mod_scaled
    rw [mat_ok hm (show u < 23 by omega) hk]
    have v := hP k hk
    obtain ⟨y, y1, y2⟩ := scl_m (C := C) (σ := σ) (fu := fu) (k := k) ha hk fu k (mg_l σ (C + 8) (9 * u + k)) (Nat.le_refl _) (by omega) (by rw [v]; exact abd_w (abd_8 (hPb k)) (by omega))
    rw [Nat.sub_self] at y1
    refine wq_ob (wq_ob (wq_some ?_))
    refine ⟨y, y1, ?_⟩
    refine pass y (by omega) ?_
    rw [y2, v]
    exact (if_pos rfl).symm
  · refine wq_in (fun hh => h6 ((nI_eq (b := 6) (by omega) (by omega)).mp hh)) ?_
    have hmg : mG P a.toInt op k = oG P a.toInt op k := if_neg h6
    by_cases h9' : op = 9
    · subst h9'
      rw [if_pos (by omega)] at x2
      refine fac_m (p := P k) hk (hPb k) (fun v hv => hK v (by rw [hmg, hv]; rfl)) fu 2 x (by omega) (Or.inr rfl) (by omega) ?_
      have : fcz (min (2 - 1) k) = 1 := by
        have hk8 : k = 0 ∨ 1 ≤ k := by omega
        rcases hk8 with e | e
        · subst e; rfl
        · rw [show min (2 - 1) k = 1 by omega]; rfl
      rw [x2, this, Int.mul_one]
    · rw [if_neg (by omega)] at x2
      exact pass x h9' (by rw [hmg, x2])
theorem opo_m {fu C u op : Nat} {σ0 : rr_M} {P : Pl} {a : Int32} (hfu : 400 < fu) (hm : mrf C σ0) (hu : u < 8) (hP : mpo C σ0 u P) (h9 : pbd 9 P) (hPb : ∀ j, b8 (P j)) (ha : -1000 ≤ a.toInt ∧ a.toInt ≤ 1000) (hop : op ≤ 9) (hop4 : op ≠ 4) {kk : rr_M → Option (Int32 × rr_M)} {R : Int32 × rr_M → Prop}
    (hk : ∀ σ, mlf C σ0 σ → (∀ j, j < 9 → (mg_l σ (C + 8) (189 + j)).toInt = mG P a.toInt op j) → wq (kk σ) R) :
    ∀ (fl k : Nat) (σ : rr_M), k ≤ 9 → 10 - k ≤ fl → mlf C σ0 σ → (∀ j, j < k → (mg_l σ (C + 8) (189 + j)).toInt = mG P a.toInt op j) → wq (l_Mod_operate_82 fu (nm C) C (nI u) (nI op) a fl (nI k) σ kk) R
  | 0, k, σ, h1, h2, _, _ => by omega
  | fl + 1, k, σ, h1, h2, hF, hV => by
    rw [l_Mod_operate_82]
    by_cases hk9 : k = 9
    · subst hk9
      exact wq_ip (by decide) (hk σ hF hV)
    have hm' : mrf C σ := mrf_of hm hF.1
    have hP' : mpo C σ u P := fun j hj => by rw [hF.2.2 _ (by omega)]; exact hP j hj
    refine wq_in (show ¬ (9 : Int32) ≤ nI k from nI_ge (b := 9) (by omega) (by omega)) ?_
    dsimp only [rr_jn]
    refine opb_m hfu hm' hu hP' h9 hPb ha hop hop4 (show k < 9 by omega) (fun v hv => ?_)
    rw [p21 hm' (show k < 9 by omega), nI_1]
    refine wq_bd (wq_some ?_)
    dsimp only [rr_lt]
    refine opo_m hfu hm hu hP h9 hPb ha hop hop4 hk fl (k + 1) _ (by omega) (by omega) (mlf_s hF) (fun j hj => ?_)
    by_cases hjk : j = k
    · subst hjk
      rw [sl_s, hv]
    · rw [sl_n (Or.inr (by omega))]
      exact hV j (by omega)
