/-! ===== a text, read by the model: terms ===== -/
theorem sk_sk {b : Nat → Nat} {n p : Nat} (hp : p ≤ n) : sk b (n - sk b (n - p) p) (sk b (n - p) p) = sk b (n - p) p := by
  obtain ⟨q1, q2, q3⟩ := sk_q (b := b) hp
  generalize sk b (n - p) p = q at *
  by_cases h : q < n
  · exact sk_at (q3 h)
  · rw [show n - q = 0 by omega]
    rfl
theorem WP_sk {b : Nat → Nat} {n p : Nat} {G : Nat → Int} (hp : p ≤ n) : WP b n p G = WP b n (sk b (n - p) p) G := by
  have e := sk_sk (b := b) hp
  unfold WP
  rw [e]
/-- what a term comes to -/
def trS (C : Nat) (σ0 : rr_M) (b : Nat → Nat) (n p0 : Nat) (R : Nat × (Nat → Int)) (y : Unit × rr_M) : Prop := mrd C σ0 y.2 ∧ ((∃ p' F' G', F' ≠ 0 ∧ F' < 2000 ∧ p' ≤ n ∧ mdt C y.2 b n p' F' G' ∧ R = (F', zzG)) ∨ (∃ p' G', p0 < p' ∧ p' ≤ n ∧ mdt C y.2 b n p' 0 G' ∧ R = WP b n p' G' ∧ ∀ j, j < 9 → abd (100000000 * p') (G' j)))
section TRM
variable {fu C n : Nat} {b : Nat → Nat} {G : Nat → Int} {m : Bool} {v1 : Int32} {t8 : Int64} {f : Int}
theorem t122a {p k : Nat} {σ : rr_M} {Q : Unit × rr_M → Prop} (hv : v1 = if m = true then 1 else 0) (ht : t8.toInt = f) (hf : 0 ≤ f ∧ f ≤ 100000000) (hk8 : k ≤ 8) (hM : mdt C σ b n p 0 G) (hG : ∀ j, j < 9 → abd 100000000000 (G j)) (hk : ∀ σ', mrd C σ σ' → mdt C σ' b n p 0 (adT G m f k) → Q ((), σ')) :
    wq (if mg_i σ C 15 = 0 then Option.bind (f_Mod_at (nm C) C 21 (nI k) σ) fun r_13 => if v1 = 0 then (rr_bd (f_Mod_puts (nm C) C 21 (nI k) (r_13 + t8) σ) fun _ σ_16 => some ((), σ_16)) else (rr_bd (f_Mod_puts (nm C) C 21 (nI k) (r_13 + -t8) σ) fun _ σ_16 => some ((), σ_16)) else some ((), σ)) Q := by
  obtain ⟨a1, a2, a3, a4, a5, a6, a7⟩ := hM
  have v := a7 k (by omega)
  have g := hG k (by omega)
  unfold abd at g
  rw [i21 a1 (by omega)]
  refine wq_ip (by rw [a5]; rfl) (wq_ob (wq_some ?_))
  rw [p21 a1 (by omega), p21 a1 (by omega)]
  have fin : ∀ x : Int64, x.toInt = (if m = true then -f else f) → Q ((), ms_l σ (C + 8) (189 + k) (mg_l σ (C + 8) (189 + k) + x)) := by
    intro x hx
    have hxb : -100000000 ≤ x.toInt ∧ x.toInt ≤ 100000000 := by
      rw [hx]
      split <;> omega
    refine hk _ ⟨rfl, fun _ _ => rfl, fun _ _ _ => rfl, fun i hi => sl_n (Or.inr (by omega))⟩ ⟨a1, a2, a3, a4, a5, a6, fun j hj => ?_⟩
    unfold adT
    by_cases hjk : j = k
    · subst hjk
      rw [sl_s, if_pos rfl, j_add, v, hx] <;> rw [v] <;> omega
    · rw [sl_n (Or.inr (by omega)), if_neg hjk]
      exact a7 j hj
  subst hv
  cases m with
  | false => exact wq_ip rfl (wq_bd (wq_some (wq_some (fin _ (by rw [ht]; rfl)))))
  | true =>
    refine wq_in (by decide) (wq_bd (wq_some (wq_some (fin _ ?_))))
    rw [Jvm.Kit.i64_neg (by rw [ht]; omega), ht]
    rfl
theorem t122b {p F : Nat} {kv : Int32} {σ : rr_M} {Q : Unit × rr_M → Prop} (hM : mdt C σ b n p F G) (hF0 : F ≠ 0) (hF : F < 2000) (hk : Q ((), σ)) :
    wq (if mg_i σ C 15 = 0 then Option.bind (f_Mod_at (nm C) C 21 kv σ) fun r_13 => if v1 = 0 then (rr_bd (f_Mod_puts (nm C) C 21 kv (r_13 + t8) σ) fun _ σ_16 => some ((), σ_16)) else (rr_bd (f_Mod_puts (nm C) C 21 kv (r_13 + -t8) σ) fun _ σ_16 => some ((), σ_16)) else some ((), σ)) Q := by
  refine wq_in ?_ (wq_some hk)
  rw [hM.2.2.2.2.1]
  exact nI_ne0 (by omega) (by omega)
/-- vC and vM at a digit -/
theorem vv {q c : Nat} (hc : c ≤ 100000000) (hq : q < n) (hd : 48 ≤ b q ∧ b q ≤ 57) : (vC b (nE b (n - q) q - q) q 0 ≤ (c : Int) ↔ vM b (nE b (n - q) q - q) q 0 ≤ (c : Int)) ∧ (vM b (nE b (n - q) q - q) q 0 ≤ (c : Int) → vC b (nE b (n - q) q - q) q 0 = vM b (nE b (n - q) q - q) q 0) ∧ 0 ≤ vM b (nE b (n - q) q - q) q 0 := by
  have e := nE_1 hq hd
  obtain ⟨x1, x2, x3⟩ := vCM (b := b) (nE b (n - q) q - q) q 0 0 (fun i h1 h2 => nE_dg b (n - q) q i h1 (by omega)) (by decide) (by decide) (by decide)
  refine ⟨?_, fun h => ?_, x2⟩
  · rw [x1]
    split <;> omega
  · rw [x1, if_neg (by omega)]
/-- behind an x -/
theorem t3_m (hfu : 400 < fu) {p0 p : Nat} {σ0 σ : rr_M} (hv : v1 = if m = true then 1 else 0) (ht : t8.toInt = f) (hf : 0 ≤ f ∧ f ≤ 100000000) (hp0 : p0 < p) (hp : p ≤ n) (hM : mdt C σ b n p 0 G) (hF0 : mrd C σ0 σ) (hG : ∀ j, j < 9 → abd (100000000 * p0) (G j)) :
    wq (rr_bd (f_Mod_here fu (nm C) C σ) fun r_25 σ_26 =>
      if r_25 = 94 then (rr_bd (f_Mod_isDigit fu (nm C) C (ms_i σ_26 C 17 ((mg_i σ_26 C 17) + 1))) fun r_30 σ_31 =>
        if r_30 = 0 then (rr_bd (f_Mod_fails C 1 (mg_i σ_31 C 17) σ_31) fun _ σ_38 =>
          rr_bd (f_Mod_number fu (nm C) C 8 σ_38) fun r_34 σ_35 =>
          if mg_i σ_35 C 15 = 0 then Option.bind (f_Mod_at (nm C) C 21 r_34.toInt32 σ_35) fun r_13 => if v1 = 0 then (rr_bd (f_Mod_puts (nm C) C 21 r_34.toInt32 (r_13 + t8) σ_35) fun _ σ_16 => some ((), σ_16)) else (rr_bd (f_Mod_puts (nm C) C 21 r_34.toInt32 (r_13 + -t8) σ_35) fun _ σ_16 => some ((), σ_16)) else some ((), σ_35)) else
        (rr_bd (f_Mod_number fu (nm C) C 8 σ_31) fun r_34 σ_35 =>
          if mg_i σ_35 C 15 = 0 then Option.bind (f_Mod_at (nm C) C 21 r_34.toInt32 σ_35) fun r_13 => if v1 = 0 then (rr_bd (f_Mod_puts (nm C) C 21 r_34.toInt32 (r_13 + t8) σ_35) fun _ σ_16 => some ((), σ_16)) else (rr_bd (f_Mod_puts (nm C) C 21 r_34.toInt32 (r_13 + -t8) σ_35) fun _ σ_16 => some ((), σ_16)) else some ((), σ_35))) else
      (if mg_i σ_26 C 15 = 0 then Option.bind (f_Mod_at (nm C) C 21 1 σ_26) fun r_13 => if v1 = 0 then (rr_bd (f_Mod_puts (nm C) C 21 1 (r_13 + t8) σ_26) fun _ σ_16 => some ((), σ_16)) else (rr_bd (f_Mod_puts (nm C) C 21 1 (r_13 + -t8) σ_26) fun _ σ_16 => some ((), σ_16)) else some ((), σ_26))) (trS C σ0 b n p0 (CP b n p 3 m f 1 G)) := by
  have hn := hM.2.1
  obtain ⟨c31, c32⟩ := CP_3 (b := b) (m := m) (f := f) (k := 1) (G := G) hp
  obtain ⟨q1, q2, q3⟩ := sk_q (b := b) hp
  have wsk := WP_sk (b := b) (G := adT G m f 1) hp
  refine wq_bd (wq_mo (her_ok hfu hp hM) ?_)
  rintro ⟨r, σ1⟩ ⟨F1, M1, e⟩
  dsimp only at F1 M1 e ⊢
  subst e
  generalize sk b (n - p) p = q at *
  have hbq : b q < 256 ∨ n ≤ q := by
    by_cases h : q < n
    · exact Or.inl (M1.2.2.2.2.2.1 q h).1
    · exact Or.inr (by omega)
  by_cases h94 : q < n ∧ b q = 94
  · refine wq_ip ((hcF_e (c := 94) hbq (by omega)).mpr h94) ?_
    rw [c31 h94, M1.2.2.2.1, nI_1]
    obtain ⟨c41, c42⟩ := CP_4 (b := b) (m := m) (f := f) (k := 1) (G := G) (show q + 1 ≤ n by omega)
    obtain ⟨g1, g2, g3⟩ := sk_q (b := b) (show q + 1 ≤ n by omega)
    have ss := sk_sk (b := b) (show q + 1 ≤ n by omega)
    refine wq_bd (wq_mo (dig_m hfu (show q + 1 ≤ n by omega) (mdt_17 (p' := q + 1) M1)) ?_)
    rintro ⟨r, σ2⟩ ⟨F2, M2, e⟩
    dsimp only at F2 M2 e ⊢
    subst e
    generalize sk b (n - (q + 1)) (q + 1) = q4 at *
    have F02 : mrd C σ0 σ2 := mrd_tr hF0 (mrd_tr F1 (mrd_tr mrd_17 F2))
    by_cases hd : q4 < n ∧ 48 ≤ b q4 ∧ b q4 ≤ 57
    · rw [if_pos hd]
      have n1 := nE_1 hd.1 hd.2
      obtain ⟨w1, w2, w3⟩ := vv (c := 8) (by omega) hd.1 hd.2
      refine wq_in (by decide) (wq_bd (wq_mo (nmb_ok (most := 8) hfu g2 ss M2 (by omega)) ?_))
      rintro ⟨r, σ3⟩ ⟨F3, e3, M3⟩
      dsimp only at F3 e3 M3 ⊢
      have z8 : (8 : Int64).toInt = ((8 : Nat) : Int) := rfl
      rw [z8] at M3
      rw [c42 q4 rfl hd.1 hd.2]
      by_cases hle : vM b (nE b (n - q4) q4 - q4) q4 0 ≤ ((8 : Nat) : Int)
      · rw [if_pos hle] at M3
        rw [if_pos (show vC b (nE b (n - q4) q4 - q4) q4 0 ≤ 8 from w1.mpr hle), w2 hle, CP_5 n1.2]
        have ek : r.toInt32 = nI (vM b (nE b (n - q4) q4 - q4) q4 0).toNat := by
          apply i_inj
          rw [Jvm.Kit.i32_of_i64 (by rw [e3]; omega) (by rw [e3]; omega), e3, nI_toInt (by omega)]
          omega
        rw [ek]
        refine t122a hv ht hf (by omega) M3 (fun j hj => abd_w (hG j hj) (by omega)) (fun σ4 F4 M4 => ?_)
        refine ⟨mrd_tr F02 (mrd_tr F3 F4), Or.inr ⟨_, _, by omega, n1.2, M4, rfl, fun j hj => ?_⟩⟩
        exact abd_w (adT_b (m := m) (k := (vM b (nE b (n - q4) q4 - q4) q4 0).toNat) hf hG j hj) (Nat.mul_le_mul_left _ (by omega))
      · rw [if_neg hle, if_pos rfl] at M3
        rw [if_neg (show ¬ vC b (nE b (n - q4) q4 - q4) q4 0 ≤ 8 from fun h => hle (w1.mp h))]
        exact t122b M3 (by omega) (by omega) ⟨mrd_tr F02 F3, Or.inl ⟨_, _, _, by omega, by omega, n1.2, M3, rfl⟩⟩
    · rw [if_neg hd, c41 hd, M2.2.2.2.1]
      refine wq_ip rfl (wq_bd (wq_mo (fls_m (c := 1) (w := q4) M2 (by omega)) ?_))
      rintro ⟨_, σ3⟩ ⟨F3, M3⟩
      dsimp only at F3 M3 ⊢
      rw [if_pos rfl] at M3
      refine wq_bd (wq_mo (nmb_ok (most := 8) hfu g2 ss M3 (by omega)) ?_)
      rintro ⟨r, σ4⟩ ⟨F4, e4, M4⟩
      dsimp only at F4 e4 M4 ⊢
      have z8 : (8 : Int64).toInt = ((8 : Nat) : Int) := rfl
      have nE0 : nE b (n - q4) q4 = q4 := by
        by_cases h : q4 < n
        · obtain ⟨d, hd'⟩ : ∃ d, n - q4 = d + 1 := ⟨n - q4 - 1, by omega⟩
          rw [hd']
          simp only [nE]
          rw [if_neg (by omega)]
        · rw [show n - q4 = 0 by omega]
          rfl
      have v0 : vM b (nE b (n - q4) q4 - q4) q4 0 = 0 := by
        rw [nE0, Nat.sub_self]
        rfl
      rw [z8, v0, if_pos (by decide)] at M4
      have nr := nE_rg b (n - q4) q4
      exact t122b M4 (by omega) (by omega) ⟨mrd_tr F02 (mrd_tr F3 F4), Or.inl ⟨_, _, _, by omega, by omega, by omega, M4, rfl⟩⟩
  · refine wq_in (fun h => h94 ((hcF_e (c := 94) hbq (by omega)).mp h)) ?_
    rw [c32 h94, wsk]
    refine t122a (k := 1) hv ht hf (by omega) M1 (fun j hj => abd_w (hG j hj) (by omega)) (fun σ4 F4 M4 => ?_)
    exact ⟨mrd_tr hF0 (mrd_tr F1 F4), Or.inr ⟨_, _, by omega, q2, M4, rfl, fun j hj => abd_w (adT_b (m := m) (k := 1) hf hG j hj) (Nat.mul_le_mul_left _ (by omega))⟩⟩
end TRM
