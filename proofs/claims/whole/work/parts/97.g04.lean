/-! ===== a text, read by the model ===== -/
def mdt (C : Nat) (σ : rr_M) (b : Nat → Nat) (n p F : Nat) (G : Nat → Int) : Prop := mrf C σ ∧ n ≤ 200 ∧ mg_i σ C 16 = nI n ∧ mg_i σ C 17 = nI p ∧ mg_i σ C 15 = nI F ∧ (∀ i, i < n → b i < 256 ∧ (mg_i σ (C + 12) i).toInt = (if b i < 128 then (b i : Int) else (b i : Int) - 256)) ∧ ∀ j, j < 9 → (mg_l σ (C + 8) (189 + j)).toInt = G j
def mrd (C : Nat) (σ0 σ : rr_M) : Prop := mg_r σ = mg_r σ0 ∧ (∀ a, a ≠ C → mg_i σ a = mg_i σ0 a) ∧ (∀ k, k ≠ 15 → k ≠ 17 → mg_i σ C k = mg_i σ0 C k) ∧ ∀ i, i < 189 → mg_l σ (C + 8) i = mg_l σ0 (C + 8) i
theorem mrd_rf {C : Nat} {σ : rr_M} : mrd C σ σ := ⟨rfl, fun _ _ => rfl, fun _ _ _ => rfl, fun _ _ => rfl⟩
theorem mrd_tr {C : Nat} {σ σ' σ'' : rr_M} (h : mrd C σ σ') (h' : mrd C σ' σ'') : mrd C σ σ'' := ⟨h'.1.trans h.1, fun a x => (h'.2.1 a x).trans (h.2.1 a x), fun k x y => (h'.2.2.1 k x y).trans (h.2.2.1 k x y), fun i x => (h'.2.2.2 i x).trans (h.2.2.2 i x)⟩
theorem mrd_17 {C : Nat} {σ : rr_M} {v : Int32} : mrd C σ (ms_i σ C 17 v) := ⟨rfl, fun a h => si_row h, fun k _ h => si_n (Or.inr h), fun _ _ => rfl⟩
theorem mrd_15 {C : Nat} {σ : rr_M} {v : Int32} : mrd C σ (ms_i σ C 15 v) := ⟨rfl, fun a h => si_row h, fun k h _ => si_n (Or.inr h), fun _ _ => rfl⟩
theorem mdt_17 {C n p p' F : Nat} {σ : rr_M} {b : Nat → Nat} {G : Nat → Int} (h : mdt C σ b n p F G) : mdt C (ms_i σ C 17 (nI p')) b n p' F G := by
  obtain ⟨h1, h2, h3, h4, h5, h6, h7⟩ := h
  exact ⟨h1, h2, by rw [si_n (Or.inr (by omega))]; exact h3, si_s _ _ _ _, by rw [si_n (Or.inr (by omega))]; exact h5, fun i hi => by rw [si_row (by omega)]; exact h6 i hi, h7⟩
theorem mdt_15 {C n p F F' : Nat} {σ : rr_M} {b : Nat → Nat} {G : Nat → Int} (h : mdt C σ b n p F G) : mdt C (ms_i σ C 15 (nI F')) b n p F' G := by
  obtain ⟨h1, h2, h3, h4, h5, h6, h7⟩ := h
  exact ⟨h1, h2, by rw [si_n (Or.inr (by omega))]; exact h3, by rw [si_n (Or.inr (by omega))]; exact h4, si_s _ _ _ _, fun i hi => by rw [si_row (by omega)]; exact h6 i hi, h7⟩
theorem and255 {x : Int32} {c : Nat} (hc : c < 256) (h : x.toInt = (if c < 128 then (c : Int) else (c : Int) - 256)) : x &&& 255 = nI c := by
  apply i_inj
  rw [Jvm.Kit.i32_mask x 255 (k := 8) (by omega) (by decide), h, nI_toInt (by omega)]
  split <;> omega
/-- a byte of the model's tape is what it is -/
theorem byq {x : Int32} {c d : Nat} (hc : c < 256) (h : x.toInt = (if c < 128 then (c : Int) else (c : Int) - 256)) (hd : d < 128) : x = nI d ↔ c = d := by
  constructor
  · intro e
    rw [e, nI_toInt (by omega)] at h
    split at h <;> omega
  · intro e
    subst e
    rw [if_pos hd] at h
    apply i_inj
    rw [h, nI_toInt (by omega)]
theorem ix12 {C k : Nat} (h : k < 200) : rr_ix (nI k) (nm C (C + 12)) = true := by rw [nm_12]; exact ix_nI h (by omega)
def hcF (b : Nat → Nat) (n q : Nat) : Int32 := if n ≤ q then -1 else nI (b q)
theorem hcF_e {b : Nat → Nat} {n q c : Nat} (hb : b q < 256 ∨ n ≤ q) (hc : c < 256) : hcF b n q = nI c ↔ q < n ∧ b q = c := by
  unfold hcF
  by_cases h : n ≤ q
  · rw [if_pos h]
    constructor
    · intro e
      have := congrArg Int32.toInt e
      rw [nI_toInt (by omega)] at this
      have h1 : (-1 : Int32).toInt = -1 := by decide
      omega
    · intro e; omega
  · rw [if_neg h, nI_eq (by omega) (by omega)]
    exact ⟨fun e => ⟨by omega, e⟩, fun e => e.2⟩
section RDM
variable {fu C n F : Nat} {b : Nat → Nat} {G : Nat → Int}
theorem her_l (hfu : 400 < fu) {σ0 : rr_M} {kk : rr_M → Option (Int32 × rr_M)} {Q : Int32 × rr_M → Prop} {P : Nat} (hk : ∀ σ, mrd C σ0 σ → mdt C σ b n P F G → wq (kk σ) Q) :
    ∀ (fl p : Nat) (σ : rr_M), p ≤ n → n - p < fl → sk b (n - p) p = P → mrd C σ0 σ → mdt C σ b n p F G → wq (l_Mod_here_0 fu (nm C) C fl σ kk) Q
  | 0, p, σ, h1, h2, _, _, _ => by omega
  | fl + 1, p, σ, h1, h2, hP, hF, hM => by
    have hM' := hM
    obtain ⟨a1, a2, a3, a4, a5, a6, a7⟩ := hM
    rw [l_Mod_here_0, a3, a4]
    by_cases hpn : p = n
    · subst hpn
      rw [Nat.sub_self] at hP
      have e : p = P := hP
      subst e
      exact wq_ip (nI_le (Nat.le_refl _) (by omega)) (hk σ hF hM')
    refine wq_in (nI_ge (by omega) (by omega)) ?_
    obtain ⟨e1, e2⟩ := a6 p (by omega)
    dsimp only [rr_lt, rr_jn]
    rw [mrf_13 a1, n_nI (show p < 2 ^ 31 by omega), nI_1]
    obtain ⟨d, hd⟩ : ∃ d, n - p = d + 1 := ⟨n - p - 1, by omega⟩
    rw [hd] at hP
    simp only [sk] at hP
    have go : b p = 32 ∨ b p = 10 → wq (l_Mod_here_0 fu (nm C) C fl (ms_i σ C 17 (nI (p + 1))) kk) Q := by
      intro h
      rw [if_pos h] at hP
      exact her_l hfu hk fl (p + 1) _ (by omega) (by omega) (by rw [show n - (p + 1) = d by omega]; exact hP) (mrd_tr hF mrd_17) (mdt_17 hM')
    refine wq_ip (ix12 (by omega)) ?_
    by_cases h32 : b p = 32
    · exact wq_ip ((byq (d := 32) e1 e2 (by omega)).mpr h32) (go (Or.inl h32))
    refine wq_in (fun h => h32 ((byq (d := 32) e1 e2 (by omega)).mp h)) (wq_ip (ix12 (by omega)) ?_)
    by_cases h10 : b p = 10
    · exact wq_ip ((byq (d := 10) e1 e2 (by omega)).mpr h10) (go (Or.inr h10))
    refine wq_in (fun h => h10 ((byq (d := 10) e1 e2 (by omega)).mp h)) ?_
    rw [if_neg (by omega)] at hP
    subst hP
    exact hk σ hF hM'
theorem her_ok (hfu : 400 < fu) {p : Nat} {σ : rr_M} (hp : p ≤ n) (hM : mdt C σ b n p F G) : wq (f_Mod_here fu (nm C) C σ) (fun y => mrd C σ y.2 ∧ mdt C y.2 b n (sk b (n - p) p) F G ∧ y.1 = hcF b n (sk b (n - p) p)) := by
  obtain ⟨q1, q2, q3⟩ := sk_q (b := b) hp
  unfold f_Mod_here
  refine her_l hfu ?_ fu p σ hp (by have := hM.2.1; omega) rfl mrd_rf hM
  intro σ1 F1 M1
  generalize sk b (n - p) p = q at *
  have M1' := M1
  obtain ⟨a1, a2, a3, a4, a5, a6, a7⟩ := M1
  rw [a3, a4]
  unfold hcF
  by_cases h : n ≤ q
  · rw [if_pos h]
    exact wq_ip (nI_le h (by omega)) (wq_some ⟨F1, M1', rfl⟩)
  · rw [if_neg h]
    obtain ⟨e1, e2⟩ := a6 q (by omega)
    dsimp only [rr_lt]
    rw [mrf_13 a1, n_nI (show q < 2 ^ 31 by omega)]
    exact wq_in (nI_ge (by omega) (by omega)) (wq_ip (ix12 (by omega)) (wq_some ⟨F1, M1', and255 e1 e2⟩))
theorem dig_m (hfu : 400 < fu) {p : Nat} {σ : rr_M} (hp : p ≤ n) (hM : mdt C σ b n p F G) : wq (f_Mod_isDigit fu (nm C) C σ) (fun y => mrd C σ y.2 ∧ mdt C y.2 b n (sk b (n - p) p) F G ∧ y.1 = (if sk b (n - p) p < n ∧ 48 ≤ b (sk b (n - p) p) ∧ b (sk b (n - p) p) ≤ 57 then 1 else 0)) := by
  obtain ⟨q1, q2, q3⟩ := sk_q (b := b) hp
  unfold f_Mod_isDigit
  refine wq_bd (wq_mo (her_ok hfu hp hM) ?_)
  rintro ⟨r, σ1⟩ ⟨F1, M1, e⟩
  dsimp only at F1 M1 e ⊢
  subst e
  generalize sk b (n - p) p = q at *
  have z48 : (48 : Int64).toInt = 48 := by decide
  have z57 : (57 : Int64).toInt = 57 := by decide
  rw [isin_ok, Int32.toInt_toInt64, z48, z57]
  refine wq_ob (wq_some ?_)
  unfold hcF
  by_cases h : n ≤ q
  · rw [if_pos h, show (-1 : Int32).toInt = -1 from by decide, if_neg (show ¬ ((48 : Int) ≤ -1 ∧ (-1 : Int) ≤ 57) by omega), if_neg (show ¬ (q < n ∧ 48 ≤ b q ∧ b q ≤ 57) by omega)]
    exact wq_ip (by decide) (wq_some ⟨F1, M1, rfl⟩)
  · obtain ⟨e1, e2⟩ := M1.2.2.2.2.2.1 q (by omega)
    rw [if_neg h, nI_toInt (by omega)]
    by_cases hd : 48 ≤ b q ∧ b q ≤ 57
    · rw [if_pos (show (48 : Int) ≤ (b q : Int) ∧ (b q : Int) ≤ 57 by omega), if_pos (show q < n ∧ 48 ≤ b q ∧ b q ≤ 57 by omega)]
      exact wq_ip (by decide) (wq_some ⟨F1, M1, rfl⟩)
    · rw [if_neg (show ¬ ((48 : Int) ≤ (b q : Int) ∧ (b q : Int) ≤ 57) by omega), if_neg (show ¬ (q < n ∧ 48 ≤ b q ∧ b q ≤ 57) by omega)]
      exact wq_ip (by decide) (wq_some ⟨F1, M1, rfl⟩)
theorem fls_m {c w : Nat} {p : Nat} {σ : rr_M} (hM : mdt C σ b n p F G) (hF : F < 2000) : wq (f_Mod_fails C (nI c) (nI w) σ) (fun y => mrd C σ y.2 ∧ mdt C y.2 b n p (if F = 0 then c + 8 * w else F) G) := by
  unfold f_Mod_fails
  rw [hM.2.2.2.2.1]
  by_cases h : F = 0
  · subst h
    dsimp only [rr_lt]
    rw [e8p]
    exact wq_ip (by decide) (wq_some ⟨mrd_15, by rw [if_pos rfl]; exact mdt_15 hM⟩)
  · exact wq_in (nI_ne0 (by omega) (by omega)) (wq_some ⟨mrd_rf, by rw [if_neg h]; exact hM⟩)
theorem nmb_l (hfu : 400 < fu) {σ0 : rr_M} {kk : Int64 → rr_M → Option (Int64 × rr_M)} {Q : Int64 × rr_M → Prop} {E : Nat} {V : Int} (hk : ∀ (v : Int64) σ, v.toInt = V → mrd C σ0 σ → mdt C σ b n E F G → wq (kk v σ) Q) :
    ∀ (fl p : Nat) (v : Int64) (σ : rr_M), p ≤ n → n - p < fl → nE b (n - p) p = E → vM b (E - p) p v.toInt = V → 0 ≤ v.toInt → v.toInt ≤ 1000000009 → mrd C σ0 σ → mdt C σ b n p F G → wq (l_Mod_number_13 fu (nm C) C fl v σ kk) Q
  | 0, p, v, σ, h1, h2, _, _, _, _, _, _ => by omega
  | fl + 1, p, v, σ, h1, h2, hE, hV, v0, v1, hF, hM => by
    have hM' := hM
    obtain ⟨a1, a2, a3, a4, a5, a6, a7⟩ := hM
    rw [l_Mod_number_13, a3, a4]
    by_cases hpn : p = n
    · subst hpn
      rw [Nat.sub_self] at hE
      have e : p = E := hE
      subst e
      rw [Nat.sub_self] at hV
      exact wq_ip (nI_le (Nat.le_refl _) (by omega)) (hk v σ hV hF hM')
    refine wq_in (nI_ge (by omega) (by omega)) ?_
    obtain ⟨e1, e2⟩ := a6 p (by omega)
    have z48 : (48 : Int64).toInt = 48 := by decide
    have z57 : (57 : Int64).toInt = 57 := by decide
    have z10 : (10 : Int64).toInt = 10 := by decide
    have z8 : (100000000 : Int64).toInt = 100000000 := by decide
    dsimp only [rr_lt, rr_jn]
    rw [mrf_13 a1, n_nI (show p < 2 ^ 31 by omega), nI_1, isin_ok, Int32.toInt_toInt64, z48, z57]
    obtain ⟨d, hd⟩ : ∃ d, n - p = d + 1 := ⟨n - p - 1, by omega⟩
    rw [hd] at hE
    simp only [nE] at hE
    refine wq_ip (ix12 (by omega)) (wq_ob (wq_some ?_))
    by_cases hdg : 48 ≤ b p ∧ b p ≤ 57
    · rw [if_pos (show (48 : Int) ≤ (mg_i σ (C + 12) p).toInt ∧ (mg_i σ (C + 12) p).toInt ≤ 57 by rw [e2]; split <;> omega)]
      rw [if_pos hdg] at hE
      have hr := nE_rg b d (p + 1)
      rw [hE] at hr
      obtain ⟨m, hm⟩ : ∃ m, E - p = m + 1 := ⟨E - p - 1, by omega⟩
      rw [hm] at hV
      simp only [vM] at hV
      refine wq_in (by decide) ?_
      by_cases hle : v ≤ 100000000
      · refine wq_ip hle (wq_ip (ix12 (by omega)) ?_)
        rw [j_le, z8] at hle
        rw [if_neg (by omega)] at hV
        have tb : ((mg_i σ (C + 12) p).toInt64).toInt = (b p : Int) := by rw [Int32.toInt_toInt64, e2, if_pos (by omega)]
        have m1 : (10 * v).toInt = 10 * v.toInt := by
          rw [j_mul, z10] <;> rw [z10] <;> omega
        have m2 : (10 * v + (mg_i σ (C + 12) p).toInt64).toInt = 10 * v.toInt + (b p : Int) := by
          rw [j_add, m1, tb] <;> rw [m1, tb] <;> omega
        have m3 : (10 * v + (mg_i σ (C + 12) p).toInt64 - 48).toInt = 10 * v.toInt + (b p : Int) - 48 := by
          rw [j_sub, m2, z48] <;> rw [m2, z48] <;> omega
        exact nmb_l hfu hk fl (p + 1) _ _ (by omega) (by omega) (by rw [show n - (p + 1) = d by omega]; exact hE) (by rw [m3, show E - (p + 1) = m by omega]; exact hV) (by rw [m3]; omega) (by rw [m3]; omega) (mrd_tr hF mrd_17) (mdt_17 hM')
      · refine wq_in hle ?_
        rw [j_le, z8] at hle
        rw [if_pos (by omega)] at hV
        exact nmb_l hfu hk fl (p + 1) v _ (by omega) (by omega) (by rw [show n - (p + 1) = d by omega]; exact hE) (by rw [show E - (p + 1) = m by omega]; exact hV) v0 v1 (mrd_tr hF mrd_17) (mdt_17 hM')
    · rw [if_neg (show ¬ ((48 : Int) ≤ (mg_i σ (C + 12) p).toInt ∧ (mg_i σ (C + 12) p).toInt ≤ 57) by rw [e2]; split <;> omega)]
      rw [if_neg hdg] at hE
      subst hE
      rw [Nat.sub_self] at hV
      exact wq_ip rfl (hk v σ hV hF hM')
theorem nmb_ok (hfu : 400 < fu) {p : Nat} {σ : rr_M} {most : Int64} (hp : p ≤ n) (hsk : sk b (n - p) p = p) (hM : mdt C σ b n p F G) (hF : F < 2000) : wq (f_Mod_number fu (nm C) C most σ) (fun y => mrd C σ y.2 ∧ y.1.toInt = vM b (nE b (n - p) p - p) p 0 ∧ mdt C y.2 b n (nE b (n - p) p) (if vM b (nE b (n - p) p - p) p 0 ≤ most.toInt then F else if F = 0 then 2 + 8 * p else F) G) := by
  unfold f_Mod_number
  refine wq_bd (wq_mo (her_ok hfu hp hM) ?_)
  rintro ⟨r, σ1⟩ ⟨F1, M1, e⟩
  dsimp only [rr_lt] at F1 M1 e ⊢
  rw [hsk] at M1
  have hn := hM.2.1
  rw [M1.2.2.2.1]
  refine nmb_l (E := nE b (n - p) p) (V := vM b (nE b (n - p) p - p) p 0) hfu ?_ fu p 0 σ1 hp (by omega) rfl rfl (by decide) (by decide) mrd_rf M1
  intro v σ2 hv F2 M2
  by_cases h : v ≤ most
  · refine wq_ip h (wq_some ⟨mrd_tr F1 F2, hv, ?_⟩)
    rw [j_le, hv] at h
    rw [if_pos h]
    exact M2
  · refine wq_in h (wq_bd (wq_mo (fls_m (c := 2) (w := p) M2 hF) ?_))
    rintro ⟨_, σ3⟩ ⟨F3, M3⟩
    rw [j_le, hv] at h
    refine wq_some ⟨mrd_tr F1 (mrd_tr F2 F3), hv, ?_⟩
    rw [if_neg h]
    exact M3
end RDM
