/-! ===== a text, read by the model: the whole ===== -/
def J122 (C : Nat) (v1 : Int32) (t8 : Int64) (kv : Int32) (σ : rr_M) : Option (Unit × rr_M) := if mg_i σ C 15 = 0 then Option.bind (f_Mod_at (nm C) C 21 kv σ) fun r_13 => if v1 = 0 then (rr_bd (f_Mod_puts (nm C) C 21 kv (r_13 + t8) σ) fun _ σ_16 => some ((), σ_16)) else (rr_bd (f_Mod_puts (nm C) C 21 kv (r_13 + -t8) σ) fun _ σ_16 => some ((), σ_16)) else some ((), σ)
def J3 (fu C : Nat) (v1 : Int32) (t8 : Int64) (σ : rr_M) : Option (Unit × rr_M) := rr_bd (f_Mod_here fu (nm C) C σ) fun r_25 σ_26 =>
      if r_25 = 94 then (rr_bd (f_Mod_isDigit fu (nm C) C (ms_i σ_26 C 17 ((mg_i σ_26 C 17) + 1))) fun r_30 σ_31 =>
        if r_30 = 0 then (rr_bd (f_Mod_fails C 1 (mg_i σ_31 C 17) σ_31) fun _ σ_38 =>
          rr_bd (f_Mod_number fu (nm C) C 8 σ_38) fun r_34 σ_35 => J122 C v1 t8 r_34.toInt32 σ_35) else
        (rr_bd (f_Mod_number fu (nm C) C 8 σ_31) fun r_34 σ_35 => J122 C v1 t8 r_34.toInt32 σ_35)) else
      J122 C v1 t8 1 σ_26
def J44 (fu C : Nat) (v1 : Int32) (t8 : Int64) (σ : rr_M) : Option (Unit × rr_M) := if mg_i σ C 15 = 0 then (rr_bd (f_Mod_here fu (nm C) C σ) fun r_20 σ_21 =>
    if r_20 = 120 then J3 fu C v1 t8 (ms_i σ_21 C 17 ((mg_i σ_21 C 17) + 1)) else J122 C v1 t8 0 σ_21) else J122 C v1 t8 0 σ
def J26 (fu C : Nat) (v1 : Int32) (σ : rr_M) : Option (Unit × rr_M) := rr_bd (f_Mod_isDigit fu (nm C) C σ) fun r_5 σ_6 => if r_5 = 0 then J44 fu C v1 1 σ_6 else rr_bd (f_Mod_number fu (nm C) C 100000000 σ_6) fun r_41 σ_42 => J44 fu C v1 r_41 σ_42
theorem trm_e (fu C : Nat) (v1 : Int32) (σ : rr_M) : f_Mod_term fu (nm C) C v1 σ = rr_bd (f_Mod_isDigit fu (nm C) C σ) fun r_1 σ_2 => if r_1 = 0 then (rr_bd (f_Mod_here fu (nm C) C σ_2) fun r_45 σ_46 => if r_45 = 120 then J26 fu C v1 σ_46 else rr_bd (f_Mod_fails C 1 (mg_i σ_46 C 17) σ_46) fun _ σ_49 => some ((), σ_49)) else J26 fu C v1 σ_2 := rfl
section TRN
variable {fu C n : Nat} {b : Nat → Nat} {G : Nat → Int} {m : Bool} {v1 : Int32} {t8 : Int64} {f : Int}
theorem t44_m (hfu : 400 < fu) {p0 p : Nat} {σ0 σ : rr_M} {R : Nat × (Nat → Int)} (hv : v1 = if m = true then 1 else 0) (ht : t8.toInt = f) (hf : 0 ≤ f ∧ f ≤ 100000000) (hp0 : p0 ≤ p) (hp : p ≤ n) (hM : mdt C σ b n p 0 G) (hF0 : mrd C σ0 σ) (hG : ∀ j, j < 9 → abd (100000000 * p0) (G j)) (hR1 : sk b (n - p) p < n ∧ b (sk b (n - p) p) = 120 → R = CP b n (sk b (n - p) p + 1) 3 m f 1 G) (hR2 : ¬ (sk b (n - p) p < n ∧ b (sk b (n - p) p) = 120) → R = WP b n (sk b (n - p) p) (adT G m f 0) ∧ p0 < p) : wq (J44 fu C v1 t8 σ) (trS C σ0 b n p0 R) := by
  have hn := hM.2.1
  obtain ⟨q1, q2, q3⟩ := sk_q (b := b) hp
  unfold J44
  refine wq_ip (by rw [hM.2.2.2.2.1]; rfl) (wq_bd (wq_mo (her_ok hfu hp hM) ?_))
  rintro ⟨r, σ1⟩ ⟨F1, M1, e⟩
  dsimp only at F1 M1 e ⊢
  subst e
  generalize sk b (n - p) p = q at *
  have hbq : b q < 256 ∨ n ≤ q := by
    by_cases h : q < n
    · exact Or.inl (M1.2.2.2.2.2.1 q h).1
    · exact Or.inr (by omega)
  by_cases hx : q < n ∧ b q = 120
  · refine wq_ip ((hcF_e (c := 120) hbq (by omega)).mpr hx) ?_
    rw [hR1 hx, M1.2.2.2.1, nI_1]
    exact t3_m hfu hv ht hf (show p0 < q + 1 by omega) (by omega) (mdt_17 (p' := q + 1) M1) (mrd_tr hF0 (mrd_tr F1 mrd_17)) hG
  · refine wq_in (fun h => hx ((hcF_e (c := 120) hbq (by omega)).mp h)) ?_
    obtain ⟨r1, r2⟩ := hR2 hx
    rw [r1]
    refine t122a (k := 0) hv ht hf (by omega) M1 (fun j hj => abd_w (hG j hj) (by omega)) (fun σ4 F4 M4 => ?_)
    exact ⟨mrd_tr hF0 (mrd_tr F1 F4), Or.inr ⟨_, _, by omega, q2, M4, rfl, fun j hj => abd_w (adT_b (m := m) (k := 0) hf hG j hj) (Nat.mul_le_mul_left _ (by omega))⟩⟩
theorem t44_b {p0 p F : Nat} {σ0 σ : rr_M} (hp : p ≤ n) (hM : mdt C σ b n p F G) (hF : F ≠ 0) (hF2 : F < 2000) (hF0 : mrd C σ0 σ) : wq (J44 fu C v1 t8 σ) (trS C σ0 b n p0 (F, zzG)) := by
  unfold J44
  refine wq_in ?_ (t122b hM hF hF2 ⟨hF0, Or.inl ⟨p, F, G, hF, hF2, hp, hM, rfl⟩⟩)
  rw [hM.2.2.2.2.1]
  exact nI_ne0 (by omega) (by omega)
theorem trm_m (hfu : 400 < fu) {p : Nat} {σ : rr_M} (hv : v1 = if m = true then 1 else 0) (hp : p ≤ n) (hM : mdt C σ b n p 0 G) (hG : ∀ j, j < 9 → abd (100000000 * p) (G j)) : wq (f_Mod_term fu (nm C) C v1 σ) (trS C σ b n p (CP b n p 1 m 1 0 G)) := by
  have hn := hM.2.1
  obtain ⟨q1, q2, q3⟩ := sk_q (b := b) hp
  obtain ⟨c1, c2, c3⟩ := CP_1 (b := b) (m := m) (f := 1) (k := 0) (G := G) hp
  have ss := sk_sk (b := b) hp
  rw [trm_e]
  refine wq_bd (wq_mo (dig_m hfu hp hM) ?_)
  rintro ⟨r, σ1⟩ ⟨F1, M1, e⟩
  dsimp only at F1 M1 e ⊢
  subst e
  generalize sk b (n - p) p = q at *
  have hbq : b q < 256 ∨ n ≤ q := by
    by_cases h : q < n
    · exact Or.inl (M1.2.2.2.2.2.1 q h).1
    · exact Or.inr (by omega)
  by_cases hd : q < n ∧ 48 ≤ b q ∧ b q ≤ 57
  · rw [if_pos hd]
    refine wq_in (by decide) ?_
    unfold J26
    refine wq_bd (wq_mo (dig_m hfu q2 M1) ?_)
    rintro ⟨r, σ2⟩ ⟨F2, M2, e⟩
    dsimp only at F2 M2 e ⊢
    rw [ss] at M2 e
    subst e
    rw [if_pos hd]
    have n1 := nE_1 hd.1 hd.2
    obtain ⟨w1, w2, w3⟩ := vv (c := 100000000) (by omega) hd.1 hd.2
    refine wq_in (by decide) (wq_bd (wq_mo (nmb_ok (most := 100000000) hfu q2 ss M2 (by omega)) ?_))
    rintro ⟨r, σ3⟩ ⟨F3, e3, M3⟩
    dsimp only at F3 e3 M3 ⊢
    have z8 : (100000000 : Int64).toInt = ((100000000 : Nat) : Int) := by decide
    rw [z8] at M3
    rw [c3 q rfl hd.1 hd.2]
    by_cases hle : vM b (nE b (n - q) q - q) q 0 ≤ ((100000000 : Nat) : Int)
    · rw [if_pos hle] at M3
      rw [if_pos (show vC b (nE b (n - q) q - q) q 0 ≤ 100000000 from w1.mpr hle), w2 hle]
      obtain ⟨d1, d2⟩ := CP_2 (b := b) (m := m) (f := vM b (nE b (n - q) q - q) q 0) (k := 0) (G := G) n1.2
      refine t44_m hfu hv e3 ⟨w3, hle⟩ (show p ≤ nE b (n - q) q by omega) n1.2 M3 (mrd_tr F1 (mrd_tr F2 F3)) hG d1 (fun h => ⟨?_, by omega⟩)
      rw [d2 h]
      exact WP_sk n1.2
    · rw [if_neg hle, if_pos rfl] at M3
      rw [if_neg (show ¬ vC b (nE b (n - q) q - q) q 0 ≤ 100000000 from fun h => hle (w1.mp h))]
      exact t44_b n1.2 M3 (by omega) (by omega) (mrd_tr F1 (mrd_tr F2 F3))
  · rw [if_neg hd]
    refine wq_ip rfl (wq_bd (wq_mo (her_ok hfu q2 M1) ?_))
    rintro ⟨r, σ2⟩ ⟨F2, M2, e⟩
    dsimp only at F2 M2 e ⊢
    rw [ss] at M2 e
    subst e
    by_cases hx : q < n ∧ b q = 120
    · refine wq_ip ((hcF_e (c := 120) hbq (by omega)).mpr hx) ?_
      unfold J26
      refine wq_bd (wq_mo (dig_m hfu q2 M2) ?_)
      rintro ⟨r, σ3⟩ ⟨F3, M3, e⟩
      dsimp only at F3 M3 e ⊢
      rw [ss] at M3 e
      subst e
      rw [if_neg hd, c2 q rfl hx.1 hx.2]
      refine wq_ip rfl (t44_m (p := q) (f := 1) hfu hv rfl (by decide) q1 q2 M3 (mrd_tr F1 (mrd_tr F2 F3)) hG (fun _ => by rw [ss]) (fun h => ?_))
      rw [ss] at h
      exact absurd hx h
    · refine wq_in (fun h => hx ((hcF_e (c := 120) hbq (by omega)).mp h)) ?_
      rw [M2.2.2.2.1, c1 (by omega)]
      refine wq_bd (wq_mo (fls_m (c := 1) (w := q) M2 (by omega)) ?_)
      rintro ⟨_, σ3⟩ ⟨F3, M3⟩
      dsimp only at F3 M3 ⊢
      rw [if_pos rfl] at M3
      exact wq_some ⟨mrd_tr F1 (mrd_tr F2 F3), Or.inl ⟨q, _, _, by omega, by omega, q2, M3, rfl⟩⟩
/-- what is left to do behind the terms -/
def lpE (C : Nat) (σ0 : rr_M) (b : Nat → Nat) (n : Nat) (R : Nat × (Nat → Int)) (σ : rr_M) : Prop := mrd C σ0 σ ∧ ∃ q F' G', q ≤ n ∧ F' < 2000 ∧ mdt C σ b n q F' G' ∧ (∀ j, j < 9 → F' = 0 → abd 100000000000 (G' j)) ∧ ((F' ≠ 0 ∧ R = (F', zzG)) ∨ (F' = 0 ∧ sk b (n - q) q = q ∧ R = (if n ≤ q then (0, G') else (1 + 8 * q, zzG))))
theorem lop_F {p F fl : Nat} {σ0 σ : rr_M} {R : Nat × (Nat → Int)} {kk : rr_M → Option (Int32 × rr_M)} {Q : Int32 × rr_M → Prop} (hk : ∀ σ', lpE C σ0 b n R σ' → wq (kk σ') Q) (hp : p ≤ n) (hM : mdt C σ b n p F G) (hF : F ≠ 0) (hF2 : F < 2000) (hF0 : mrd C σ0 σ) (hR : R = (F, zzG)) : wq (l_Mod_read_98 fu (nm C) C (fl + 1) σ kk) Q := by
  rw [l_Mod_read_98]
  refine wq_in ?_ (hk σ ⟨hF0, p, F, G, hp, hF2, hM, fun j _ h => absurd h hF, Or.inl ⟨hF, hR⟩⟩)
  rw [hM.2.2.2.2.1]
  exact nI_ne0 (by omega) (by omega)
end TRN
theorem lop_m {fu C n : Nat} {b : Nat → Nat} (hfu : 400 < fu) {σ0 : rr_M} {R : Nat × (Nat → Int)} {kk : rr_M → Option (Int32 × rr_M)} {Q : Int32 × rr_M → Prop} (hk : ∀ σ', lpE C σ0 b n R σ' → wq (kk σ') Q) :
    ∀ (fl p : Nat) (σ : rr_M) (G : Nat → Int), p ≤ n → n - p < fl → mrd C σ0 σ → mdt C σ b n p 0 G → (∀ j, j < 9 → abd (100000000 * p) (G j)) → WP b n p G = R → wq (l_Mod_read_98 fu (nm C) C fl σ kk) Q
  | 0, p, σ, G, h1, h2, _, _, _, _ => by omega
  | fl + 1, p, σ, G, h1, h2, hF0, hM, hG, hR => by
    have hn := hM.2.1
    obtain ⟨q1, q2, q3⟩ := sk_q (b := b) h1
    have ss := sk_sk (b := b) h1
    rw [l_Mod_read_98]
    refine wq_ip (by rw [hM.2.2.2.2.1]; rfl) (wq_bd (wq_mo (her_ok hfu h1 hM) ?_))
    rintro ⟨r, σ1⟩ ⟨F1, M1, e⟩
    dsimp only [rr_lt, rr_jn] at F1 M1 e ⊢
    subst e
    unfold WP at hR
    generalize sk b (n - p) p = q at *
    have hbq : b q < 256 ∨ n ≤ q := by
      by_cases h : q < n
      · exact Or.inl (M1.2.2.2.2.2.1 q h).1
      · exact Or.inr (by omega)
    -- behind a plus or a minus
    have go : ∀ (σ2 : rr_M) (m : Bool), mrd C σ0 σ2 → mdt C σ2 b n q 0 G → q < n → (b q = 43 ∨ b q = 45) → m = decide (b q = 45) → wq (rr_bd (f_Mod_here fu (nm C) C σ2) fun r_27 σ_28 => if r_27 = 45 then (rr_bd (f_Mod_term fu (nm C) C 1 (ms_i σ_28 C 17 ((mg_i σ_28 C 17) + 1))) fun _ σ_32 => l_Mod_read_98 fu (nm C) C fl σ_32 kk) else (rr_bd (f_Mod_term fu (nm C) C 0 (ms_i σ_28 C 17 ((mg_i σ_28 C 17) + 1))) fun _ σ_32 => l_Mod_read_98 fu (nm C) C fl σ_32 kk)) Q := by
      intro σ2 m F2 M2 hq hpm hm
      rw [if_neg (by omega), if_pos hpm, ← hm] at hR
      refine wq_bd (wq_mo (her_ok hfu q2 M2) ?_)
      rintro ⟨r, σ3⟩ ⟨F3, M3, e⟩
      dsimp only at F3 M3 e ⊢
      rw [ss] at M3 e
      subst e
      rw [M3.2.2.2.1, nI_1]
      have after : ∀ {v1 : Int32}, v1 = (if m = true then 1 else 0) → wq (rr_bd (f_Mod_term fu (nm C) C v1 (ms_i σ3 C 17 (nI (q + 1)))) fun _ σ_32 => l_Mod_read_98 fu (nm C) C fl σ_32 kk) Q := by
        intro v1 hv
        refine wq_bd (wq_mo (trm_m (m := m) hfu hv (show q + 1 ≤ n by omega) (mdt_17 (p' := q + 1) M3) (fun j hj => abd_w (hG j hj) (by omega))) ?_)
        rintro ⟨_, σ4⟩ ⟨F4, h4⟩
        dsimp only at F4 h4 ⊢
        have F04 : mrd C σ0 σ4 := mrd_tr F2 (mrd_tr F3 (mrd_tr mrd_17 F4))
        obtain ⟨fl', rfl⟩ : ∃ fl', fl = fl' + 1 := ⟨fl - 1, by omega⟩
        rcases h4 with ⟨p', F', G', x1, x2, x3, x4, x5⟩ | ⟨p', G', x1, x2, x3, x4, x5⟩
        · exact lop_F hk x3 x4 x1 x2 F04 (hR.symm.trans x5)
        · exact lop_m hfu hk (fl' + 1) p' σ4 G' x2 (by omega) F04 x3 x5 (x4.symm.trans hR)
      by_cases h45 : b q = 45
      · refine wq_ip ((hcF_e (c := 45) hbq (by omega)).mpr ⟨hq, h45⟩) (after ?_)
        rw [hm, if_pos (decide_eq_true h45)]
      · refine wq_in (fun h => h45 ((hcF_e (c := 45) hbq (by omega)).mp h).2) (after ?_)
        rw [hm, if_neg (by simp [h45])]
    by_cases h43 : q < n ∧ b q = 43
    · exact wq_ip ((hcF_e (c := 43) hbq (by omega)).mpr h43) (go σ1 _ (mrd_tr hF0 F1) M1 h43.1 (Or.inl h43.2) rfl)
    refine wq_in (fun h => h43 ((hcF_e (c := 43) hbq (by omega)).mp h)) (wq_bd (wq_mo (her_ok hfu q2 M1) ?_))
    rintro ⟨r, σ2⟩ ⟨F2, M2, e⟩
    dsimp only at F2 M2 e ⊢
    rw [ss] at M2 e
    subst e
    by_cases h45 : q < n ∧ b q = 45
    · exact wq_ip ((hcF_e (c := 45) hbq (by omega)).mpr h45) (go σ2 _ (mrd_tr hF0 (mrd_tr F1 F2)) M2 h45.1 (Or.inr h45.2) rfl)
    refine wq_in (fun h => h45 ((hcF_e (c := 45) hbq (by omega)).mp h)) (hk σ2 ⟨mrd_tr hF0 (mrd_tr F1 F2), q, 0, G, q2, by omega, M2, fun j hj _ => abd_w (hG j hj) (by omega), Or.inr ⟨rfl, ss, ?_⟩⟩)
    rw [← hR]
    by_cases hq : n ≤ q
    · rw [if_pos hq, if_pos hq]
    · rw [if_neg hq, if_neg hq, if_neg (by omega)]
