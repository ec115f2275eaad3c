/-! ===== read ===== -/
theorem imc_mrd {C : Nat} {σ σ' : rr_M} {T : Nat → Pl} (h : IMc C σ T) (F : mrd C σ σ') : IMc C σ' T := by
  obtain ⟨⟨Y, L⟩, h2⟩ := h
  exact ⟨⟨Y, LM_frm L F.1 (F.2.1 _ (by omega)) (F.2.1 _ (by omega)) (F.2.1 _ (by omega))⟩, fun t ht k hk => by rw [F.2.2.2 _ (by omega)]; exact h2 t ht k hk⟩
theorem r40_l {fu C : Nat} {σ0 : rr_M} (hm : mrf C σ0) {kk : rr_M → Option (Int32 × rr_M)} {Q : Int32 × rr_M → Prop} (hk : ∀ σ, mrd C σ0 σ → mg_i σ = mg_i σ0 → (∀ j, j < 9 → (mg_l σ (C + 8) (189 + j)).toInt = 0) → wq (kk σ) Q) :
    ∀ (fl k : Nat) (σ : rr_M), k ≤ 9 → 10 - k ≤ fl → mrd C σ0 σ → mg_i σ = mg_i σ0 → (∀ j, j < k → (mg_l σ (C + 8) (189 + j)).toInt = 0) → wq (l_Mod_read_40 fu (nm C) C fl (nI k) σ kk) Q
  | 0, k, σ, h1, h2, _, _, _ => by omega
  | fl + 1, k, σ, h1, h2, hF, hI, hV => by
    rw [l_Mod_read_40]
    by_cases h9 : k = 9
    · subst h9
      exact wq_ip (by decide) (hk σ hF hI hV)
    refine wq_in (show ¬ (9 : Int32) ≤ nI k from nI_ge (b := 9) (by omega) (by omega)) ?_
    rw [p21 (mrf_of hm hF.1) (show k < 9 by omega), nI_1]
    refine wq_bd (wq_some ?_)
    dsimp only [rr_lt]
    refine r40_l hm hk fl (k + 1) _ (by omega) (by omega) (mrd_tr hF ⟨rfl, fun _ _ => rfl, fun _ _ _ => rfl, fun i hi => sl_n (Or.inr (by omega))⟩) hI (fun j hj => ?_)
    by_cases hjk : j = k
    · subst hjk; rw [sl_s]; rfl
    · rw [sl_n (Or.inr (by omega))]; exact hV j (by omega)
def mrQ (C : Nat) (T : Nat → Pl) (t n : Nat) (R : Nat × (Nat → Int)) (y : Int32 × rr_M) : Prop := mg_i y.2 C 14 = 0 ∧ mg_i y.2 C 15 = nI (rdF n R) ∧ ((y.1 = 1 ∧ rdF n R = 0 ∧ IMc C y.2 (upT T t (cut R.2))) ∨ (y.1 = 0 ∧ rdF n R ≠ 0 ∧ IMc C y.2 T))
theorem j205 {fu C t n F : Nat} {T : Nat → Pl} {σ0 σ : rr_M} {b : Nat → Nat} {G : Nat → Int} {p : Nat} {R : Nat × (Nat → Int)} (hfu : 400 < fu) (ht : t < 8) (hM : IMc C σ0 T) (h14 : mg_i σ0 C 14 = 0) (hF0 : mrd C σ0 σ) (hD : mdt C σ b n p F G) (hF : F < 3000) (hR : rdF n R = F) (hG : F = 0 → R.2 = G ∧ (∀ j, j < 9 → b8 (G j))) :
    wq (if (mg_i σ C 15) = 0 then (rr_bd (f_Mod_comes fu (nm C) C (nI t) σ) fun r_44 σ_45 => if r_44 = 0 then (if rr_b1 0 = true then some ((0 : Int32), σ_45) else none) else if rr_b1 1 = true then some (1, σ_45) else none) else if rr_b1 0 = true then some (0, σ) else none) (mrQ C T t n R) := by
  have I := imc_mrd hM hF0
  have e14 : mg_i σ C 14 = 0 := by rw [hF0.2.2.1 14 (by omega) (by omega), h14]
  have e15 := hD.2.2.2.2.1
  by_cases h : F = 0
  · subst h
    obtain ⟨g1, g2⟩ := hG rfl
    refine wq_ip (by rw [e15]; rfl) (wq_bd (wq_mo (com_m (G := G) hfu ht I hD.2.2.2.2.2.2 (fun j hj => by have := g2 j hj; unfold b8 at this; omega)) ?_))
    rintro ⟨r, σ1⟩ ⟨k1, k2⟩
    dsimp only at k1 k2 ⊢
    rcases k2 with ⟨e, h1, h3⟩ | ⟨e, h1, h3⟩
    · subst e
      refine wq_in (by decide) (wq_ip (by decide) (wq_some ⟨?_, ?_, Or.inl ⟨rfl, hR, ?_⟩⟩))
      · show mg_i σ1 C 14 = 0; rw [k1]; exact e14
      · show mg_i σ1 C 15 = _; rw [k1, hR]; exact e15
      · rw [g1]; exact h3
    · exact absurd g2 h1
  · refine wq_in ?_ (wq_ip (by decide) (wq_some ⟨e14, by rw [hR]; exact e15, Or.inr ⟨rfl, by rw [hR]; exact h, I⟩⟩))
    rw [e15]
    exact nI_ne0 (by omega) (by omega)
theorem rdd_m {fu C t n : Nat} {T : Nat → Pl} {σ0 σ : rr_M} {b : Nat → Nat} {R : Nat × (Nat → Int)} (hfu : 400 < fu) (ht : t < 8) (hM : IMc C σ0 T) (h14 : mg_i σ0 C 14 = 0) (h : lpE C σ0 b n R σ) :
    wq (if (mg_i σ C 15) = 0 then (rr_bd (f_Mod_here fu (nm C) C σ) fun r_55 σ_56 =>
      if r_55 = (-1) then (if (mg_i σ_56 C 15) = 0 then (Option.bind (f_Mod_isPoly fu (nm C) C 21 σ_56) fun r_49 => if r_49 = 0 then (rr_bd (f_Mod_fails C 3 (mg_i σ_56 C 16) σ_56) fun _ σ_52 => if (mg_i σ_52 C 15) = 0 then (rr_bd (f_Mod_comes fu (nm C) C (nI t) σ_52) fun r_44 σ_45 => if r_44 = 0 then (if rr_b1 0 = true then some ((0 : Int32), σ_45) else none) else if rr_b1 1 = true then some (1, σ_45) else none) else if rr_b1 0 = true then some (0, σ_52) else none) else if (mg_i σ_56 C 15) = 0 then (rr_bd (f_Mod_comes fu (nm C) C (nI t) σ_56) fun r_44 σ_45 => if r_44 = 0 then (if rr_b1 0 = true then some ((0 : Int32), σ_45) else none) else if rr_b1 1 = true then some (1, σ_45) else none) else if rr_b1 0 = true then some (0, σ_56) else none) else if (mg_i σ_56 C 15) = 0 then (rr_bd (f_Mod_comes fu (nm C) C (nI t) σ_56) fun r_44 σ_45 => if r_44 = 0 then (if rr_b1 0 = true then some ((0 : Int32), σ_45) else none) else if rr_b1 1 = true then some (1, σ_45) else none) else if rr_b1 0 = true then some (0, σ_56) else none) else
      rr_bd (f_Mod_fails C 1 (mg_i σ_56 C 17) σ_56) fun _ σ_59 => if (mg_i σ_59 C 15) = 0 then (Option.bind (f_Mod_isPoly fu (nm C) C 21 σ_59) fun r_49 => if r_49 = 0 then (rr_bd (f_Mod_fails C 3 (mg_i σ_59 C 16) σ_59) fun _ σ_52 => if (mg_i σ_52 C 15) = 0 then (rr_bd (f_Mod_comes fu (nm C) C (nI t) σ_52) fun r_44 σ_45 => if r_44 = 0 then (if rr_b1 0 = true then some ((0 : Int32), σ_45) else none) else if rr_b1 1 = true then some (1, σ_45) else none) else if rr_b1 0 = true then some (0, σ_52) else none) else if (mg_i σ_59 C 15) = 0 then (rr_bd (f_Mod_comes fu (nm C) C (nI t) σ_59) fun r_44 σ_45 => if r_44 = 0 then (if rr_b1 0 = true then some ((0 : Int32), σ_45) else none) else if rr_b1 1 = true then some (1, σ_45) else none) else if rr_b1 0 = true then some (0, σ_59) else none) else if (mg_i σ_59 C 15) = 0 then (rr_bd (f_Mod_comes fu (nm C) C (nI t) σ_59) fun r_44 σ_45 => if r_44 = 0 then (if rr_b1 0 = true then some ((0 : Int32), σ_45) else none) else if rr_b1 1 = true then some (1, σ_45) else none) else if rr_b1 0 = true then some (0, σ_59) else none) else
      (if (mg_i σ C 15) = 0 then (Option.bind (f_Mod_isPoly fu (nm C) C 21 σ) fun r_49 => if r_49 = 0 then (rr_bd (f_Mod_fails C 3 (mg_i σ C 16) σ) fun _ σ_52 => if (mg_i σ_52 C 15) = 0 then (rr_bd (f_Mod_comes fu (nm C) C (nI t) σ_52) fun r_44 σ_45 => if r_44 = 0 then (if rr_b1 0 = true then some ((0 : Int32), σ_45) else none) else if rr_b1 1 = true then some (1, σ_45) else none) else if rr_b1 0 = true then some (0, σ_52) else none) else if (mg_i σ C 15) = 0 then (rr_bd (f_Mod_comes fu (nm C) C (nI t) σ) fun r_44 σ_45 => if r_44 = 0 then (if rr_b1 0 = true then some ((0 : Int32), σ_45) else none) else if rr_b1 1 = true then some (1, σ_45) else none) else if rr_b1 0 = true then some (0, σ) else none) else if (mg_i σ C 15) = 0 then (rr_bd (f_Mod_comes fu (nm C) C (nI t) σ) fun r_44 σ_45 => if r_44 = 0 then (if rr_b1 0 = true then some ((0 : Int32), σ_45) else none) else if rr_b1 1 = true then some (1, σ_45) else none) else if rr_b1 0 = true then some (0, σ) else none)) (mrQ C T t n R) := by
  obtain ⟨F0, q, F', G', hq, hF, hD, hb, hR⟩ := h
  have hn := hD.2.1
  have e15 := hD.2.2.2.2.1
  rcases hR with ⟨h0, hR⟩ | ⟨h0, ss, hR⟩
  · have ne : ¬ mg_i σ C 15 = 0 := by rw [e15]; exact nI_ne0 (by omega) (by omega)
    have rd : rdF n R = F' := by unfold rdF; rw [hR, if_neg h0]
    exact wq_in ne (wq_in ne (j205 hfu ht hM h14 F0 hD (by omega) rd (fun h => absurd h h0)))
  · subst h0
    refine wq_ip (by rw [e15]; rfl) (wq_bd (wq_mo (her_ok hfu hq hD) ?_))
    rintro ⟨r, σ1⟩ ⟨F1, D1, e⟩
    dsimp only at F1 D1 e ⊢
    rw [ss] at D1 e
    subst e
    have z15 := D1.2.2.2.2.1
    have F01 := mrd_tr F0 F1
    unfold hcF
    by_cases hqn : n ≤ q
    · rw [if_pos hqn] at hR ⊢
      refine wq_ip rfl (wq_ip (by rw [z15]; rfl) (wq_ob (wq_mo (isp_m (G := G') hfu D1.1 D1.2.2.2.2.2.2 (fun j hj => by have := hb j hj rfl; unfold abd at this; omega)) ?_)))
      rintro w (⟨e, h⟩ | ⟨e, h⟩)
      · subst e
        have rd : rdF n R = 0 := rdF_0.mpr (by rw [hR]; exact ⟨rfl, h⟩)
        exact wq_in (by decide) (j205 hfu ht hM h14 F01 D1 (by omega) rd (fun _ => ⟨by rw [hR], h⟩))
      · subst e
        have rd : rdF n R = 3 + 8 * n := by
          unfold rdF
          rw [hR, if_pos rfl, if_neg h]
        rw [D1.2.2.1]
        refine wq_ip rfl (wq_bd (wq_mo (fls_m (c := 3) (w := n) D1 (by omega)) ?_))
        rintro ⟨_, σ2⟩ ⟨F2, D2⟩
        dsimp only at F2 D2 ⊢
        rw [if_pos rfl] at D2
        exact j205 hfu ht hM h14 (mrd_tr F01 F2) D2 (by omega) rd (fun h => absurd h (by omega))
    · rw [if_neg hqn] at hR ⊢
      have hbq := (D1.2.2.2.2.2.1 q (by omega)).1
      have rd : rdF n R = 1 + 8 * q := by
        unfold rdF
        rw [hR, if_neg (show ¬ 1 + 8 * q = 0 by omega)]
      rw [D1.2.2.2.1]
      refine wq_in ?_ (wq_bd (wq_mo (fls_m (c := 1) (w := q) D1 (by omega)) ?_))
      · intro hh
        have := congrArg Int32.toInt hh
        rw [nI_toInt (by omega), show (-1 : Int32).toInt = -1 from by decide] at this
        omega
      rintro ⟨_, σ2⟩ ⟨F2, D2⟩
      dsimp only at F2 D2 ⊢
      rw [if_pos rfl] at D2
      have ne : ¬ mg_i σ2 C 15 = 0 := by rw [D2.2.2.2.2.1]; exact nI_ne0 (by omega) (by omega)
      exact wq_in ne (j205 hfu ht hM h14 (mrd_tr F01 F2) D2 (by omega) rd (fun h => absurd h (by omega)))
theorem red_m {fu C t n : Nat} {T : Nat → Pl} {σm : rr_M} {b : Nat → Nat} (hfu : 400 < fu) (ht : t < 8) (hM1 : IMc C (ms_i σm C 0 0) T) (hn : n ≤ 200) (h14 : mg_i σm C 14 = nI n) (hb : ∀ i, i < n → b i < 256 ∧ (mg_i σm (C + 12) i).toInt = (if b i < 128 then (b i : Int) else (b i : Int) - 256)) : wq (f_Mod_read fu (nm C) C (nI t) σm) (mrQ C T t n (CP b n 0 0 false 1 0 zzG)) := by
  obtain ⟨Y1, L1⟩ := hM1.1
  unfold f_Mod_read
  dsimp only [rr_lt]
  rw [(tr_1 ht).2 C]
  refine wq_ob (wq_some (wq_in (by decide) ?_))
  obtain ⟨σ8, h8⟩ : ∃ σ8, σ8 = ms_i (ms_i (ms_i (ms_i (ms_i σm C 0 0) C 16 (mg_i (ms_i σm C 0 0) C 14)) C 14 0) C 15 0) C 17 0 := ⟨_, rfl⟩
  rw [← h8]
  have e14 : mg_i (ms_i σm C 0 0) C 14 = nI n := by rw [si_n (Or.inr (by omega)), h14]
  have m8 : IMc C σ8 T := by
    rw [h8]
    exact ⟨⟨Y1, LM_frm L1 rfl (by rw [si_row (by omega), si_row (by omega), si_row (by omega), si_row (by omega)]) (by rw [si_row (by omega), si_row (by omega), si_row (by omega), si_row (by omega)]) (by rw [si_row (by omega), si_row (by omega), si_row (by omega), si_row (by omega)])⟩, hM1.2⟩
  have z14 : mg_i σ8 C 14 = 0 := by rw [h8, si_n (Or.inr (by omega)), si_n (Or.inr (by omega)), si_s]
  have z15 : mg_i σ8 C 15 = 0 := by rw [h8, si_n (Or.inr (by omega)), si_s]
  have z16 : mg_i σ8 C 16 = nI n := by rw [h8, si_n (Or.inr (by omega)), si_n (Or.inr (by omega)), si_n (Or.inr (by omega)), si_s, e14]
  have z17 : mg_i σ8 C 17 = 0 := by rw [h8, si_s]
  have z12 : mg_i σ8 (C + 12) = mg_i σm (C + 12) := by rw [h8, si_row (by omega), si_row (by omega), si_row (by omega), si_row (by omega), si_row (by omega)]
  refine r40_l m8.1.choose_spec.1 ?_ fu 0 σ8 (by omega) (by omega) mrd_rf rfl (fun j hj => absurd hj (by omega))
  intro σ9 F9 I9 V9
  have D9 : mdt C σ9 b n 0 0 zzG := ⟨mrf_of m8.1.choose_spec.1 F9.1, hn, by rw [I9]; exact z16, by rw [I9]; exact z17, by rw [I9]; exact z15, fun i hi => by rw [I9, z12]; exact hb i hi, V9⟩
  obtain ⟨q1, q2, q3⟩ := sk_q (b := b) (Nat.zero_le n)
  obtain ⟨c1, c2⟩ := CP_0 (b := b) (m := false) (f := 1) (k := 0) (G := zzG) (Nat.zero_le n)
  have csk := CP_sk (b := b) (n := n) (s := 1) (m := false) (f := 1) (k := 0) (G := zzG) _ 0 rfl (Nat.zero_le n)
  refine wq_bd (wq_mo (her_ok hfu (Nat.zero_le n) D9) ?_)
  rintro ⟨r, σ10⟩ ⟨F10, D10, e⟩
  dsimp only [rr_jn] at F10 D10 e ⊢
  subst e
  generalize sk b (n - 0) 0 = q at *
  have F80 := mrd_tr F9 F10
  have hbq : b q < 256 ∨ n ≤ q := by
    by_cases h : q < n
    · exact Or.inl (D10.2.2.2.2.2.1 q h).1
    · exact Or.inr (by omega)
  obtain ⟨R, hR⟩ : ∃ R, R = CP b n 0 0 false 1 0 zzG := ⟨_, rfl⟩
  rw [← hR]
  -- behind the first term
  have after : ∀ {σ11 : rr_M} {p : Nat} (y : Unit × rr_M), mrd C σ8 σ11 → p ≤ n → trS C σ11 b n p R y → wq (l_Mod_read_98 fu (nm C) C fu y.2 (fun σ_40 => if (mg_i σ_40 C 15) = 0 then (rr_bd (f_Mod_here fu (nm C) C σ_40) fun r_55 σ_56 =>
      if r_55 = (-1) then (if (mg_i σ_56 C 15) = 0 then (Option.bind (f_Mod_isPoly fu (nm C) C 21 σ_56) fun r_49 => if r_49 = 0 then (rr_bd (f_Mod_fails C 3 (mg_i σ_56 C 16) σ_56) fun _ σ_52 => if (mg_i σ_52 C 15) = 0 then (rr_bd (f_Mod_comes fu (nm C) C (nI t) σ_52) fun r_44 σ_45 => if r_44 = 0 then (if rr_b1 0 = true then some ((0 : Int32), σ_45) else none) else if rr_b1 1 = true then some (1, σ_45) else none) else if rr_b1 0 = true then some (0, σ_52) else none) else if (mg_i σ_56 C 15) = 0 then (rr_bd (f_Mod_comes fu (nm C) C (nI t) σ_56) fun r_44 σ_45 => if r_44 = 0 then (if rr_b1 0 = true then some ((0 : Int32), σ_45) else none) else if rr_b1 1 = true then some (1, σ_45) else none) else if rr_b1 0 = true then some (0, σ_56) else none) else if (mg_i σ_56 C 15) = 0 then (rr_bd (f_Mod_comes fu (nm C) C (nI t) σ_56) fun r_44 σ_45 => if r_44 = 0 then (if rr_b1 0 = true then some ((0 : Int32), σ_45) else none) else if rr_b1 1 = true then some (1, σ_45) else none) else if rr_b1 0 = true then some (0, σ_56) else none) else
      rr_bd (f_Mod_fails C 1 (mg_i σ_56 C 17) σ_56) fun _ σ_59 => if (mg_i σ_59 C 15) = 0 then (Option.bind (f_Mod_isPoly fu (nm C) C 21 σ_59) fun r_49 => if r_49 = 0 then (rr_bd (f_Mod_fails C 3 (mg_i σ_59 C 16) σ_59) fun _ σ_52 => if (mg_i σ_52 C 15) = 0 then (rr_bd (f_Mod_comes fu (nm C) C (nI t) σ_52) fun r_44 σ_45 => if r_44 = 0 then (if rr_b1 0 = true then some ((0 : Int32), σ_45) else none) else if rr_b1 1 = true then some (1, σ_45) else none) else if rr_b1 0 = true then some (0, σ_52) else none) else if (mg_i σ_59 C 15) = 0 then (rr_bd (f_Mod_comes fu (nm C) C (nI t) σ_59) fun r_44 σ_45 => if r_44 = 0 then (if rr_b1 0 = true then some ((0 : Int32), σ_45) else none) else if rr_b1 1 = true then some (1, σ_45) else none) else if rr_b1 0 = true then some (0, σ_59) else none) else if (mg_i σ_59 C 15) = 0 then (rr_bd (f_Mod_comes fu (nm C) C (nI t) σ_59) fun r_44 σ_45 => if r_44 = 0 then (if rr_b1 0 = true then some ((0 : Int32), σ_45) else none) else if rr_b1 1 = true then some (1, σ_45) else none) else if rr_b1 0 = true then some (0, σ_59) else none) else
      (if (mg_i σ_40 C 15) = 0 then (Option.bind (f_Mod_isPoly fu (nm C) C 21 σ_40) fun r_49 => if r_49 = 0 then (rr_bd (f_Mod_fails C 3 (mg_i σ_40 C 16) σ_40) fun _ σ_52 => if (mg_i σ_52 C 15) = 0 then (rr_bd (f_Mod_comes fu (nm C) C (nI t) σ_52) fun r_44 σ_45 => if r_44 = 0 then (if rr_b1 0 = true then some ((0 : Int32), σ_45) else none) else if rr_b1 1 = true then some (1, σ_45) else none) else if rr_b1 0 = true then some (0, σ_52) else none) else if (mg_i σ_40 C 15) = 0 then (rr_bd (f_Mod_comes fu (nm C) C (nI t) σ_40) fun r_44 σ_45 => if r_44 = 0 then (if rr_b1 0 = true then some ((0 : Int32), σ_45) else none) else if rr_b1 1 = true then some (1, σ_45) else none) else if rr_b1 0 = true then some (0, σ_40) else none) else if (mg_i σ_40 C 15) = 0 then (rr_bd (f_Mod_comes fu (nm C) C (nI t) σ_40) fun r_44 σ_45 => if r_44 = 0 then (if rr_b1 0 = true then some ((0 : Int32), σ_45) else none) else if rr_b1 1 = true then some (1, σ_45) else none) else if rr_b1 0 = true then some (0, σ_40) else none))) (mrQ C T t n R) := by
    rintro σ11 p ⟨_, σ12⟩ F11 hp ⟨F12, h⟩
    dsimp only at F12 h ⊢
    obtain ⟨f, hf⟩ : ∃ f, fu = f + 1 := ⟨fu - 1, by omega⟩
    rcases h with ⟨p', F', G', x1, x2, x3, x4, x5⟩ | ⟨p', G', x1, x2, x3, x4, x5⟩
    · have := lop_F (fl := f) (fu := fu) (kk := _) (Q := mrQ C T t n R) (fun σ' h' => rdd_m hfu ht m8 z14 h') x3 x4 x1 x2 (mrd_tr F11 F12) x5
      rw [← hf] at this
      exact this
    · exact lop_m hfu (fun σ' h' => rdd_m hfu ht m8 z14 h') fu p' σ12 G' x2 (by omega) (mrd_tr F11 F12) x3 x5 x4.symm
  by_cases h45 : q < n ∧ b q = 45
  · refine wq_ip ((hcF_e (c := 45) hbq (by omega)).mpr h45) (wq_in (by decide) ?_)
    rw [D10.2.2.2.1, nI_1]
    refine wq_bd (wq_mo (trm_m (m := true) hfu rfl (show q + 1 ≤ n by omega) (mdt_17 (p' := q + 1) D10) (fun j _ => Nat.zero_le _)) ?_)
    rintro y hy
    rw [← c1 h45, ← hR] at hy
    exact after y (mrd_tr F80 mrd_17) (by omega) hy
  · refine wq_in (fun h => h45 ((hcF_e (c := 45) hbq (by omega)).mp h)) (wq_ip rfl ?_)
    rw [D10.2.2.2.1, show nI q + 0 = nI q from nI_add q 0]
    refine wq_bd (wq_mo (trm_m (m := false) hfu rfl q2 (mdt_17 (p' := q) D10) (fun j _ => Nat.zero_le _)) ?_)
    rintro y hy
    rw [← csk, ← c2 h45, ← hR] at hy
    exact after y (mrd_tr F80 mrd_17) q2 hy
theorem red_x {fu B t n : Nat} {T : Nat → Pl} {σ : rr_M} {b : Nat → Nat} (hfu : 400 < fu) (ht : t < 8) (hX : IXc B σ T) (hb : txx B σ b n) : wq (f_Roo_read fu (nx B) B (nI t) σ) (fun x => mg_i x.2 (B + 58) 1 = 0 ∧ mg_i x.2 (B + 58) 2 = nI (rdF n (CP b n 0 0 false 1 0 zzG)) ∧ ((x.1 = 1 ∧ rdF n (CP b n 0 0 false 1 0 zzG) = 0 ∧ IXc B x.2 (upT T t (cut (CP b n 0 0 false 1 0 zzG).2))) ∨ (x.1 = 0 ∧ rdF n (CP b n 0 0 false 1 0 zzG) ≠ 0 ∧ IXc B x.2 T))) := by
  obtain ⟨q0, q1, q2, q3, q4, q5, q6, q7, q8⟩ := roo_t hX.1
  have hn := hb.1
  have hle : rdF n (CP b n 0 0 false 1 0 zzG) < 2000 := by
    have := CP_le (b := b) (n := n) (p := 0) (s := 0) (m := false) (f := 1) (k := 0) (G := zzG) (Nat.zero_le _)
    unfold rdF
    split
    · split <;> omega
    · omega
  unfold f_Roo_read
  dsimp only [rr_lt]
  rw [(tr_1 ht).1, q1]
  refine wq_ob (wq_some (wq_in (by decide) (wq_bd (wq_mo (prx_ok hfu hX.1 hb (fun G R h => by
    have := CP_le (b := b) (n := n) (p := 0) (s := 0) (m := false) (f := 1) (k := 0) (G := G) (Nat.zero_le _)
    rw [h] at this
    omega)) ?_))))
  rintro ⟨_, σ1⟩ ⟨F1, E1, V1⟩
  dsimp only at F1 E1 V1 ⊢
  have c1 := crf_of hX.1 F1.1
  obtain ⟨p0, p1, p2, p3, p4, p5, p6, p7, p8⟩ := roo_t c1
  generalize CP b n 0 0 false 1 0 zzG = R at *
  rw [p1]
  have c2 : crf B (ms_i σ1 (B + 58) 1 0) := c1
  have e2 : mg_i (ms_i σ1 (B + 58) 1 0) (B + 58) 2 = nI (rdF n R) := by rw [si_n (Or.inr (by omega))]; exact E1
  have hr3 : mg_r (ms_i σ1 (B + 58) 1 0) (B + 58) 3 = B + 60 := by rw [c2 58 3 (by omega), rx_58.2]
  rw [si_r, p1, e2, p0, n_nI (show t < 2 ^ 31 by omega), (p7 t ht).1, show mg_r σ1 (B + 58) 3 = B + 60 from hr3]
  have hi : ∀ o, o ≠ 58 → o ≠ 59 → mg_i (ms_i σ1 (B + 58) 1 0) (B + o) = mg_i σ (B + o) := fun o h1 h2 => by rw [si_row (by omega)]; exact F1.2.1 _ (by omega)
  have hl : ∀ o, o ≠ 58 → o ≠ 60 → o ≠ 62 → mg_l (ms_i σ1 (B + 58) 1 0) (B + o) = mg_l σ (B + o) := fun o h1 h2 _ => F1.2.2.2 _ (by omega) (by omega)
  by_cases h0 : rdF n R = 0
  · refine wq_ip (by rw [h0]; rfl) (wq_ip (p8 t ht) (wq_bd (wq_mo (tak_ok (o := 60) (n := 9) (G := R.2) hfu ht hX F1.1 hi hl (Or.inl rfl) (nx_60 B) (by omega) (by omega) (V1 h0) (rdF_0.mp h0).2) ?_)))
    rintro ⟨_, σ2⟩ ⟨k1, k2, k3⟩
    dsimp only at k1 k2 k3 ⊢
    refine wq_ip (by decide) (wq_some ⟨?_, ?_, Or.inl ⟨rfl, h0, k1⟩⟩)
    · show mg_i σ2 (B + 58) 1 = 0
      rw [k2, si_s]
    · show mg_i σ2 (B + 58) 2 = _
      rw [k2]
      exact e2
  · exact wq_in (nI_ne0 (by omega) (by omega)) (wq_ip (by decide) (wq_some ⟨si_s _ _ _ _, e2, Or.inr ⟨rfl, h0, icx_tp hX F1.1 hi hl⟩⟩))
theorem op_read_ok {fu B C : Nat} (hfu : 70000 < fu) : op_read fu B C (Inv B C) := by
  rintro a1 σx σm ⟨T, hX, hM, hT⟩
  obtain ⟨hM1, FM1⟩ := imc_0 (v := 0) hM
  rcases try_c a1 with ⟨e1, e2⟩ | ⟨t, ht, rfl, e1, e2⟩
  · refine op_cb (T := T) 0 hT ?_ ?_
    · unfold f_Roo_read
      rw [e1]
      exact wq_ob (wq_some (wq_ip rfl (wq_ip (by decide) (wq_some ⟨rfl, xok_rf hX⟩))))
    · unfold f_Mod_read
      dsimp only [rr_lt]
      rw [e2 C]
      exact wq_ob (wq_some (wq_ip rfl (wq_ip (by decide) (wq_some ⟨rfl, hM1, FM1⟩))))
  obtain ⟨n, n1, n2, n3, n4, n5⟩ := hT
  have tx : txx B σx (fun i => (mg_i σx (B + 59) i).toInt.toNat) n := ⟨n1, n2, fun i hi => by
    obtain ⟨b1, b2, b3⟩ := n5 i hi
    show mg_i σx (B + 59) i = nI (mg_i σx (B + 59) i).toInt.toNat ∧ (mg_i σx (B + 59) i).toInt.toNat < 256
    exact ⟨i_inj (by rw [nI_toInt (by omega)]; omega), by omega⟩⟩
  have hx := red_x (fu := fu) (by omega) ht hX tx
  have hm := red_m (fu := fu) (b := fun i => (mg_i σx (B + 59) i).toInt.toNat) (by omega) ht hM1 n1 n3 (fun i hi => by
    obtain ⟨b1, b2, b3⟩ := n5 i hi
    refine ⟨by omega, ?_⟩
    rw [b3]
    split <;> split <;> omega)
  generalize CP (fun i => (mg_i σx (B + 59) i).toInt.toNat) n 0 0 false 1 0 zzG = R at *
  obtain ⟨x, x1, x2, x3, x4⟩ := hx
  obtain ⟨y, y1, y2, y3, y4⟩ := hm
  have hT' : ITp B C x.2 y.2 := ⟨0, by omega, by rw [x2]; rfl, by rw [y2]; rfl, by rw [x3, y3], fun i hi => absurd hi (by omega)⟩
  rcases x4 with ⟨a1, a2, a3⟩ | ⟨a1, a2, a3⟩ <;> rcases y4 with ⟨b1, b2, b3⟩ | ⟨b1, b2, b3⟩
  · exact ⟨1, x.2, y.2, by rw [x1, ← a1], by rw [y1, ← b1], _, a3, b3, hT'⟩
  · exact absurd a2 b2
  · exact absurd b2 a2
  · exact ⟨0, x.2, y.2, by rw [x1, ← a1], by rw [y1, ← b1], _, a3, b3, hT'⟩
