/-! ===== the class's levels ===== -/
def sgl (P : Pl) : Int := (P (dgg P)).sign
noncomputable def CM (P : Pl) (l : Nat) : Pl := if l = 0 then P else if dgg (FF P l) = 0 then pcn 1 else psc (sgl P) (FF P l)
noncomputable def rn (P : Pl) (l : Nat) : Nat := (rl P l).toNat
theorem sgl_pm {P : Pl} (hP : pok P) (hd : 0 < dgg P) : sgl P = 1 ∨ sgl P = -1 := sign_pm (dln_top hP.1 (dg_dln hd)).1.1
theorem FF_prm {P : Pl} {l : Nat} (hP : pok P) (hd : 0 < dgg P) (h : l < dep P) : prm (FF P (l + 1)) ∧ pbd 9 (FF P (l + 1)) ∧ dgr (FF P (l + 1)) (dgg (FF P (l + 1))) ∧ 0 < FF P (l + 1) (dgg (FF P (l + 1))) ∧ dgg (FF P (l + 1)) = dgg (mm (FF P l) (der (FF P l)) (ML P l - 1)) := by
  obtain ⟨_, ⟨s, h2⟩, h3, h4⟩ := (lvs_P hP hd).1 l h
  obtain ⟨l1, l2⟩ := ends_last h2 h3
  obtain ⟨g1, g2, g3, g4, g5, g6⟩ := ppt_ok l1 l2
  rw [← h4] at g1 g2 g5 g6
  have e : dgg (FF P (l + 1)) = dgg (mm (FF P l) (der (FF P l)) (ML P l - 1)) := by
    have := dln_dgr g5 (by have := dgg_lt (mm (FF P l) (der (FF P l)) (ML P l - 1)); omega)
    show dln _ - 1 = _
    rw [this]; omega
  exact ⟨g1, g2, by rw [e]; exact g5, by rw [e]; exact g6, e⟩
theorem psc_1 (f : Pl) : psc 1 f = f := pl_ext (fun t => by show 1 * f t = f t; omega)
theorem ppt_psc {g : Pl} {c : Int} {e : Nat} (h9 : pbd 9 g) (hp : prm g) (hg : dgr g e) (h0 : 0 < g e) (hc : c ≠ 0) : ppt (psc c g) = g := by
  have d9 : pbd 9 (psc c g) := fun k hk => by show c * g k = 0; rw [h9 k hk, Int.mul_zero]
  have he : e < 9 := by
    apply Nat.lt_of_not_le
    intro hh
    exact hg.1 (h9 e hh)
  have hd : dgr (psc c g) e := ⟨Int.mul_ne_zero hc hg.1, fun k hk => by show c * g k = 0; rw [hg.2 k hk, Int.mul_zero]⟩
  have hl := dln_dgr hd he
  obtain ⟨a1, a2, a3, a4, a5, a6⟩ := ppt_ok d9 (by omega)
  have hde : dgg (psc c g) = e := by unfold dgg; rw [hl]; omega
  rw [hde] at a3 a4 a5 a6
  have hab := prm_pm a1 hp a4 hc a3
  have hK : ((psc c g e).sign * (ctf 9 (psc c g) : Int)) = c := by
    generalize (psc c g e).sign * (ctf 9 (psc c g) : Int) = K at *
    have e1 := congrFun a3 e
    have e1 : K * ppt (psc c g) e = c * g e := e1
    rcases Int.natAbs_eq_natAbs_iff.mp hab with q | q
    · exact q
    · exfalso
      rw [q] at e1
      generalize ppt (psc c g) e = x at *
      rcases Int.lt_or_gt_of_ne hc with hn | hn
      · have := Int.mul_pos (a := -c) (b := x) (by omega) a6
        have := Int.mul_pos (a := -c) (b := g e) (by omega) h0
        rw [Int.neg_mul] at this
        omega
      · have := Int.mul_pos hn a6
        have := Int.mul_pos hn h0
        rw [Int.neg_mul] at e1
        omega
  rw [hK] at a3
  exact psc_inj hc a3
theorem fis_c0' {k : Nat} {x : Int} (h : fct k * (x * x) ≤ 462340000000000000000) : x.natAbs ≤ 21502092921 := by
  refine fis_c0 ?_
  have e0 : fct 0 = 1 := rfl
  rw [e0, Int.one_mul]
  have := Int.mul_le_mul_of_nonneg_right (fct_ge1 k) (sq_nn x)
  omega
/-- a level of the class is the model's, or its negative -/
theorem cm_lv {P : Pl} {l : Nat} (hP : pok P) (hd : 0 < dgg P) (h : l < dep P) : ∃ a : Int, (a = 1 ∨ a = -1) ∧ CM P l = psc a (FF P l) ∧ dgg (CM P l) = dgg (FF P l) ∧ (CM P l (dgg (FF P l))).sign = sgl P := by
  by_cases h0 : l = 0
  · subst h0
    have e : CM P 0 = P := if_pos rfl
    exact ⟨1, Or.inl rfl, by rw [e, psc_1]; rfl, by rw [e]; rfl, by rw [e]; rfl⟩
  · have hs := sgl_pm hP hd
    obtain ⟨i1, i2, i3, i4⟩ := dep_ok hP (dg_dln hd)
    have hdl := i1 l h
    have e : CM P l = psc (sgl P) (FF P l) := by
      unfold CM
      rw [if_neg h0, if_neg (by omega)]
    obtain ⟨_, _, _, q, _⟩ := FF_prm hP hd (show l - 1 < dep P by omega)
    rw [show l - 1 + 1 = l by omega] at q
    refine ⟨sgl P, hs, e, by rw [e]; exact dgg_psc (by omega) _, ?_⟩
    rw [e]
    show (sgl P * FF P l (dgg (FF P l))).sign = _
    rw [Int.sign_mul, Int.sign_eq_one_of_pos q]
    rcases hs with z | z <;> rw [z] <;> rfl
theorem cm_sz {P : Pl} {l : Nat} (hP : pok P) (hd : 0 < dgg P) (h : l < dep P) : pbd 9 (CM P l) ∧ (∀ k, -1099511627776 ≤ CM P l k ∧ CM P l k ≤ 1099511627776) ∧ ∃ s, gdp (CM P l) (der (CM P l)) s ∧ ends (CM P l) (der (CM P l)) (ML P l) := by
  obtain ⟨a, ha, e, e2, e3⟩ := cm_lv hP hd h
  obtain ⟨_, ⟨s, h2⟩, h3, h4⟩ := (lvs_P hP hd).1 l h
  have hg := gdp_psc ha h2
  have he := (ends_psc ha h2 h3).1
  rw [← der_psc, ← e] at hg he
  obtain ⟨i1, i2, i3, i4⟩ := dep_ok hP (dg_dln hd)
  obtain ⟨h9, A, n, e4, hA⟩ := i4 l (by omega)
  refine ⟨hg.1, fun k => ?_, s, hg, he⟩
  have b := fis_c0' (fis_g hP.2 hP.1 e4 hA h9 k)
  rw [e]
  show -1099511627776 ≤ a * FF P l k ∧ a * FF P l k ≤ 1099511627776
  rcases ha with z | z <;> rw [z] <;> omega
theorem cm_jmp {P : Pl} {l : Nat} (hP : pok P) (hd : 0 < dgg P) (h : l < dep P) : nI (chL (CM P l) (der (CM P l)) (ML P l - 1)) - nI (chR (CM P l) (der (CM P l)) (ML P l - 1)) = nI (rn P l) := by
  obtain ⟨a, ha, e, e2, e3⟩ := cm_lv hP hd h
  obtain ⟨_, ⟨s, h2⟩, h3, h4⟩ := (lvs_P hP hd).1 l h
  obtain ⟨c1, c2⟩ := chs_psc ha h2 h3
  rw [← der_psc, ← e] at c1 c2
  rw [c1, c2]
  obtain ⟨_, _, ⟨s', g⟩, g2, _⟩ := HL_ok hP hd h
  have := cnt_same (lvs_P hP hd) h g g2
  have hr := cn_rg hP hd h 0
  have this : hL P l + chR (FF P l) (der (FF P l)) (ML P l - 1) = chL (FF P l) (der (FF P l)) (ML P l - 1) + hR P l := this
  unfold rn
  unfold rl at hr ⊢
  rw [nI_sub (by omega)]
  congr 1
  omega
