/-! ===== the placer: polynomials that have each root once ===== -/
noncomputable def es (P : Pl) (l : Nat) : Int := (if l = 0 then 1 else sgl P) * (if dgg (FF P (l + 1)) = 0 then 1 else sgl P)
noncomputable def SM (P : Pl) (l : Nat) : Pl := psc (es P l) (HL P l)
theorem es_pm {P : Pl} (hP : pok P) (hd : 0 < dgg P) (l : Nat) : es P l = 1 ∨ es P l = -1 := by
  have h := sgl_pm hP hd
  have i1 : (if l = 0 then (1 : Int) else sgl P) = 1 ∨ (if l = 0 then (1 : Int) else sgl P) = -1 := by
    by_cases h1 : l = 0
    · rw [if_pos h1]; exact Or.inl rfl
    · rw [if_neg h1]; exact h
  have i2 : (if dgg (FF P (l + 1)) = 0 then (1 : Int) else sgl P) = 1 ∨ (if dgg (FF P (l + 1)) = 0 then (1 : Int) else sgl P) = -1 := by
    by_cases h1 : dgg (FF P (l + 1)) = 0
    · rw [if_pos h1]; exact Or.inl rfl
    · rw [if_neg h1]; exact h
  unfold es
  rcases i1 with q | q <;> rcases i2 with q' | q' <;> rw [q, q'] <;> decide
theorem pmu_psc2 (a b : Int) (f g : Pl) : pmu (psc a f) (psc b g) = psc (a * b) (pmu f g) := by
  rw [psc_mul', pmu_comm f, psc_mul', psc_psc, pmu_comm g]
theorem CM_nx {P : Pl} {l : Nat} (hP : pok P) (hd : 0 < dgg P) (h : l < dep P) : CM P (l + 1) = psc (if dgg (FF P (l + 1)) = 0 then 1 else sgl P) (FF P (l + 1)) := by
  obtain ⟨i1, i2, i3, i4⟩ := dep_ok hP (dg_dln hd)
  unfold CM
  rw [if_neg (by omega)]
  by_cases hz : dgg (FF P (l + 1)) = 0
  · have e : l + 1 = dep P := by
      by_cases hh : l + 1 < dep P
      · have := i1 (l + 1) hh; omega
      · omega
    rw [if_pos hz, if_pos hz, e, lvs_last (lvs_P hP hd), psc_1]
  · rw [if_neg hz, if_neg hz]
theorem SM_ok {P : Pl} {l : Nat} (hP : pok P) (hd : 0 < dgg P) (h : l < dep P) : CM P l = pmu (CM P (l + 1)) (SM P l) ∧ dgr (CM P (l + 1)) (dgg (FF P (l + 1))) ∧ dgr (SM P l) (dgg (HL P l)) ∧ dgg (HL P l) + dgg (FF P (l + 1)) < 9 ∧ (∀ k, -4611686018427387904 < CM P (l + 1) (dgg (FF P (l + 1))) * SM P l k ∧ CM P (l + 1) (dgg (FF P (l + 1))) * SM P l k < 4611686018427387904) ∧ (∀ k, -1099511627776 ≤ SM P l k ∧ SM P l k ≤ 1099511627776) ∧ pbd 9 (SM P l) := by
  obtain ⟨v1, v2, v3, v4, v5, v6, v7⟩ := HL_ok hP hd h
  obtain ⟨p1, p2, p3, p4, p5⟩ := FF_prm hP hd h
  obtain ⟨i1, i2, i3, i4⟩ := dep_ok hP (dg_dln hd)
  have hs := sgl_pm hP hd
  have he := es_pm hP hd l
  obtain ⟨b, hb⟩ : ∃ b, b = (if dgg (FF P (l + 1)) = 0 then (1 : Int) else sgl P) := ⟨_, rfl⟩
  have hbp : b = 1 ∨ b = -1 := by
    rw [hb]
    by_cases hz : dgg (FF P (l + 1)) = 0
    · rw [if_pos hz]; exact Or.inl rfl
    · rw [if_neg hz]; exact hs
  have hC := CM_nx hP hd h
  rw [← hb] at hC
  have hCl : CM P l = psc (if l = 0 then 1 else sgl P) (FF P l) := by
    by_cases hl : l = 0
    · subst hl; rw [if_pos rfl, psc_1, CM_0]; rfl
    · obtain ⟨l', rfl⟩ : ∃ l', l = l' + 1 := ⟨l - 1, by omega⟩
      rw [CM_nx hP hd (by omega), if_neg (by omega), if_neg (by have := i1 (l' + 1) h; omega)]
  have hE : es P l = (if l = 0 then 1 else sgl P) * b := by rw [hb]; rfl
  have e1 : CM P l = pmu (CM P (l + 1)) (SM P l) := by
    rw [hCl, hC]
    unfold SM
    rw [pmu_psc2, ← v5, hE]
    congr 1
    rcases hbp with q | q <;> rw [q] <;> omega
  obtain ⟨h9, A, n, e4, hA⟩ := i4 l (by omega)
  have e5 : P = pmu (pmu A (FF P (l + 1))) (HL P l) := by rw [pmu_assoc, ← v5]; exact e4
  have hsz := fis_sz hP.2 hP.1 e5 (dgr_pmu hA p3) v1.1
  have hlead : pmu A (FF P (l + 1)) (n + dgg (FF P (l + 1))) = A n * FF P (l + 1) (dgg (FF P (l + 1))) := pmu_top (m := n) (n := dgg (FF P (l + 1))) (fun t ht => hA.2 t ht) (fun t ht => p3.2 t ht)
  have hdl := dgg_lt (FF P l)
  have hb1 : ∀ k, (FF P (l + 1) (dgg (FF P (l + 1))) * HL P l k).natAbs ≤ 21502092921 := fun k => by
    have b := hsz k
    rw [hlead, Int.mul_assoc, Int.natAbs_mul] at b
    have b2 : 1 * (FF P (l + 1) (dgg (FF P (l + 1))) * HL P l k).natAbs ≤ (A n).natAbs * (FF P (l + 1) (dgg (FF P (l + 1))) * HL P l k).natAbs := Nat.mul_le_mul_right _ (by have := hA.1; omega)
    omega
  have hb2 : ∀ k, (HL P l k).natAbs ≤ 21502092921 := fun k => by
    have b := hb1 k
    rw [Int.natAbs_mul] at b
    have b2 : 1 * (HL P l k).natAbs ≤ (FF P (l + 1) (dgg (FF P (l + 1)))).natAbs * (HL P l k).natAbs := Nat.mul_le_mul_right _ (by omega)
    omega
  refine ⟨e1, ?_, ?_, by omega, fun k => ?_, fun k => ?_, psc_pbd v1.1⟩
  · rw [hC]
    exact ⟨Int.mul_ne_zero (by omega) p3.1, fun k hk => by show b * _ = 0; rw [p3.2 k hk, Int.mul_zero]⟩
  · exact ⟨Int.mul_ne_zero (by omega) v6.1, fun k hk => by show es P l * _ = 0; rw [v6.2 k hk, Int.mul_zero]⟩
  · rw [hC]
    show -4611686018427387904 < b * FF P (l + 1) (dgg (FF P (l + 1))) * (es P l * HL P l k) ∧ b * FF P (l + 1) (dgg (FF P (l + 1))) * (es P l * HL P l k) < 4611686018427387904
    have := hb1 k
    have e : b * FF P (l + 1) (dgg (FF P (l + 1))) * (es P l * HL P l k) = (b * es P l) * (FF P (l + 1) (dgg (FF P (l + 1))) * HL P l k) := by grind
    rw [e]
    generalize FF P (l + 1) (dgg (FF P (l + 1))) * HL P l k = z at *
    rcases hbp with q | q <;> rcases he with q' | q' <;> rw [q, q'] <;> omega
  · show -1099511627776 ≤ es P l * HL P l k ∧ es P l * HL P l k ≤ 1099511627776
    have := hb2 k
    generalize HL P l k = z at *
    rcases he with q' | q' <;> rw [q'] <;> omega
theorem SM_seq {P : Pl} (hP : pok P) (hd : 0 < dgg P) : (∃ s, gdp (SM P 0) (der (SM P 0)) s) ∧ ends (SM P 0) (der (SM P 0)) (MH P 0) ∧ chL (SM P 0) (der (SM P 0)) (MH P 0 - 1) = hL P 0 ∧ (∀ y, vcs (cc (SM P 0) (der (SM P 0))) (MH P 0 - 1) y = VV P 0 y) ∧ MH P 0 ≤ 10 ∧ dgg (SM P 0) = dgg (HL P 0) ∧ hL P 0 ≤ dgg (HL P 0) := by
  have h := dep_pos hP hd
  obtain ⟨v1, v2, ⟨s, v3⟩, v4, v5, v6, v7⟩ := HL_ok hP hd h
  have he := es_pm hP hd 0
  unfold SM
  rw [der_psc]
  obtain ⟨e1, e2, e3⟩ := ends_psc he v3 v4
  have a := ends_le v3.1 v3.2.1 v3.2.2.2.2.1 v4
  have b := dgg_lt (der (HL P 0))
  have c := (dgg_der v1.1 v2).2.1
  have d := chL_le (HL P 0) (der (HL P 0)) (MH P 0 - 1)
  refine ⟨⟨s, gdp_psc he v3⟩, e1, (chs_psc he v3 v4).2, fun y => ?_, by omega, dgg_psc (by omega) _, ?_⟩
  · refine vcs_flip he (fun k hk => ?_)
    have hM := v4.1
    rw [e2 k (by omega), vl_psc ⟨_, (cc_sz v3 v4 (show k < MH P 0 by omega)).2.2⟩, sgq_mul, sgq_int]
    rcases he with q | q <;> rw [q] <;> rfl
  · show chL (HL P 0) (der (HL P 0)) (MH P 0 - 1) ≤ _
    omega
