/-! ===== the class's sequence: run ===== -/
/-- rows 0 .. k hold the members -/
def crs (B k : Nat) (σ : rr_M) (Z : Nat → Option Int) (p q : Pl) : Prop := ∀ i, i ≤ k → (∀ j, j < 9 → Z (nb i j) = some (cc p q i j)) ∧ mg_i σ (B + 65) i = nI (dgg (mm p q i)) ∧ mg_i σ (B + 66) i = sgI (cc p q i (dgg (mm p q i)))
theorem crf_frs {B : Nat} {σ σ' : rr_M} (h : crf B σ) (hs : frs B σ σ') : crf B σ' := crf_of h hs.1
theorem cc_bit {p q : Pl} {e k t : Nat} (h : lo p q k = 1 ∨ lo p q k = -1) (hb : szb e (mm p q k t)) : szb e (cc p q k t) := szb_pm h hb
theorem szb_abs {e : Nat} {z : Int} (h : szb e z) : szb e (z.natAbs : Int) := by
  unfold szb at *
  simpa using h
theorem sgn_abs {z : Int} : z.sign * z = (z.natAbs : Int) := by
  rcases Int.lt_trichotomy z 0 with h | h | h
  · rw [Int.sign_eq_neg_one_of_neg h]; omega
  · rw [h]; rfl
  · rw [Int.sign_eq_one_of_pos h]; omega
theorem nb_ne {i j c : Nat} (hc : c < 82) : nb i j ≠ c := by unfold nb; omega
theorem nb_rs {i j j' : Nat} (hi : i < 10) (hj : j < 9) : nb i j ≠ rs j' := by unfold nb rs; omega
theorem nb_nb {i k j j' : Nat} (h : i ≠ k) (hj : j < 9) (hj' : j' < 9) : nb i j ≠ nb k j' := by unfold nb; omega
theorem ge_ne {s c : Nat} (hs : 280 ≤ s) (hc : c < 280) : s ≠ c := by omega
theorem ge_rs {s j : Nat} (hs : 280 ≤ s) (hj : j < 9) : s ≠ rs j := by unfold rs; omega
theorem ge_nb {s i j : Nat} (hs : 280 ≤ s) (hi : i < 10) (hj : j < 9) : s ≠ nb i j := by unfold nb; omega
theorem crn_l {fu B s : Nat} {σ0 : rr_M} {Z0 : Nat → Option Int} {p q : Pl} (hfu : 400 < fu) (h : gdp p q s) (hc0 : crf B σ0) {kk : rr_M → Option (Unit × rr_M)} {Q : Unit × rr_M → Prop}
    (hk : ∀ (σ : rr_M) (Z : Nat → Option Int) (M : Nat), bgs B σ Z → frs B σ0 σ → (∀ s, 280 ≤ s → Z s = Z0 s) → ends p q M → M ≤ 10 → mg_i σ (B + 63) 3 = nI M → crs B (M - 1) σ Z p q → wq (kk σ) Q) :
    ∀ (f k : Nat) (σ : rr_M) (Z : Nat → Option Int), 1 ≤ k → 12 - k ≤ f → bgs B σ Z → frs B σ0 σ → (∀ s, 280 ≤ s → Z s = Z0 s) → mmn p q k → (∀ i, i < k → 1 ≤ i → 0 < dgg (mm p q i)) → mg_i σ (B + 63) 3 = nI (k + 1) → crs B k σ Z p q → Z 78 = some ((gm p q k).natAbs : Int) → Z 80 = some ((hm p q k).natAbs : Int) →
      wq (l_Seq_run_48 fu (nx B) (B + 63) f (nI (k + 1)) σ kk) Q
  | 0, k, σ, Z, h1, h2, _, _, _, hm1, hm2, _, _, _, _ => by
    have := ends_dec h.1 h.2.1 h.2.2.2.2.1 (k - 1) (by rw [show k - 1 + 1 = k by omega]; exact hm1) (fun i hi h3 => hm2 i (by omega) h3)
    have := dgg_lt q
    omega
  | f + 1, k, σ, Z, h1, h2, hZ, hF, hO, hm1, hm2, hM, hR, h78, h80 => by
    have hc := crf_frs hc0 hF
    have hdec := ends_dec h.1 h.2.1 h.2.2.2.2.1 (k - 1) (by rw [show k - 1 + 1 = k by omega]; exact hm1) (fun i hi h3 => hm2 i (by omega) h3)
    rw [show k - 1 + 1 = k by omega] at hdec
    have hq8 := dgg_lt q
    have hf9 : k ≠ 9 → 12 - (k + 1) ≤ f ∧ k + 1 < 10 := fun _ => by omega
    rw [l_Seq_run_48]
    by_cases hk9 : k = 9
    · -- no further row
      subst hk9
      rw [if_pos (show (10 : Int32) ≤ nI (9 + 1) by decide)]
      refine hk σ Z 10 hZ hF hO ⟨by omega, hm1, hm2, fun hd => absurd hd (by show ¬ 0 < dgg (mm p q 9); omega)⟩ (by omega) hM hR
    · have c10 : ¬ (10 : Int32) ≤ nI (k + 1) := nI_ge (b := 10) (by omega) (by omega)
      have e1 : nI (k + 1) - 1 = nI k := nI_pred k
      have e2 : nI (k + 1) - 2 = nI (k - 1) := nI_sub (a := k + 1) (b := 2) (by omega)
      have m1 : rr_n (nI k) = k := n_nI (by omega)
      have m2 : rr_n (nI (k - 1)) = k - 1 := n_nI (by omega)
      have i1 : rr_ix (nI k) (nx B (B + 65)) = true := by rw [nx_65]; exact ix_nI (by omega) (by omega)
      have i2 : rr_ix (nI (k - 1)) (nx B (B + 65)) = true := by rw [nx_65]; exact ix_nI (by omega) (by omega)
      obtain ⟨a1, a2, a3⟩ := hR k (Nat.le_refl _)
      obtain ⟨b1, b2, b3⟩ := hR (k - 1) (by omega)
      rw [if_neg c10, if_pos hM]
      dsimp only [rr_lt]
      rw [e1, sq_1 hc, m1, a2]
      refine wq_ip i1 ?_
      by_cases hd0 : dgg (mm p q k) = 0
      · rw [hd0, if_pos (show nI 0 ≤ 0 by decide)]
        refine hk σ Z (k + 1) hZ hF hO ⟨by omega, hm1, hm2, fun hd => absurd hd (by rw [Nat.add_sub_cancel]; omega)⟩ (by omega) hM hR
      · rw [if_neg (nI_nle (by omega) (by have := dgg_lt (mm p q k); omega))]
        obtain ⟨g0, h0, hdl, hdg⟩ := gh_nz h h1 hm1 hm2
        obtain ⟨s0, hex, hR0, hm0⟩ := mm_dv h h1 hm1 hm2
        obtain ⟨t1, t2, t3, t4, t5, t6⟩ := bits_ok h h1 hm1 hm2
        have l1 := lo_pm h k (fun i hi => hm1 i (by omega)) (fun i hi h3 => hm2 i (by omega) h3)
        have l2 := lo_pm h (k - 1) (fun i hi => hm1 i (by omega)) (fun i hi h3 => hm2 i (by omega) h3)
        have sA : ∀ t, szb (mbt p q s (k - 1)) (cc p q (k - 1) t) := fun t => cc_bit l2 (mm_bit h (fun i hi => hm1 i (by omega)) (fun i hi h3 => hm2 i (by omega) h3) t)
        have sB : ∀ t, szb (mbt p q s k) (cc p q k t) := fun t => cc_bit l1 (mm_bit h (fun i hi => hm1 i (by omega)) hm2 t)
        have sg : szb (mbt p q s (k - 1)) ((gm p q k).natAbs : Int) := szb_abs (gm_bit h h1 (fun i hi => hm1 i (by omega)) (fun i hi h3 => hm2 i (by omega) h3))
        have sh : szb (hbt p q s k) ((hm p q k).natAbs : Int) := szb_abs (hm_bit h h1 (fun i hi => hm1 i (by omega)) (fun i hi h3 => hm2 i (by omega) h3))
        have hm2p : ∀ i, i < k + 1 → 1 ≤ i → 0 < dgg (mm p q i) := fun i hi h3 => by
          by_cases hik : i = k
          · subst hik; omega
          · exact hm2 i (by omega) h3
        have hb0 : cc p q k (dgg (mm p q k)) ≠ 0 := by
          show lo p q k * mm p q k (dgg (mm p q k)) ≠ 0
          exact Int.mul_ne_zero (by omega) (hdg k (Nat.le_refl _)).1
        have hA8 := dgg_lt (mm p q (k - 1))
        have hB8 := dgg_lt (mm p q k)
        have l3 := lo_pm h (k + 1) hm1 (fun i hi h3 => hm2 i (by omega) h3)
        have sM : ∀ t, szb 512 (cc p q (k + 1) t) := fun t => by
          refine cc_bit l3 ?_
          by_cases hz : dln (mm p q (k + 1)) = 0
          · have hb9 : pbd 9 (mm p q (k + 1)) := fun t ht => hm0 t (by omega)
            rw [dln_0 hb9 hz]
            exact szb_z _
          · have hm1' : mmn p q (k + 1) := fun i hi => by
              by_cases hik : i = k + 1
              · subst hik; omega
              · exact hm1 i (by omega)
            exact szb_mono (mm_bit (k := k + 1) h hm1 hm2p t) (bits_ok h (k := k + 1) (by omega) hm1' hm2p).2.2.2.1
        have hrest := cc_rest h h1 hm1 hm2
        -- what is left
        have hk2 : k + 1 - 2 = k - 1 := by omega
        have hk1 : k + 1 - 1 = k := by omega
        refine wq_bd (wq_mo (cfr_ok (k := k + 1) (dA := dgg (mm p q (k - 1))) (dB := dgg (mm p q k)) (eA := mbt p q s (k - 1)) (eB := mbt p q s k) (A := cc p q (k - 1)) (C := cc p q k) (w := sgI (cc p q k (dgg (mm p q k)))) (sg := (cc p q k (dgg (mm p q k))).sign) hfu hc (by omega) (by omega) (by omega) hdl (sign_pm hb0) (sgI_t _) (by rw [sgn_abs]; omega) hZ (by rw [hk2]; exact b1) (by rw [hk1]; exact a1) (by rw [hk2]; exact b2) (by rw [hk1]; exact a2) (by rw [hk1]; exact a3) sA sB (by omega) (by omega)) ?_)
        rintro r1 ⟨F1, Z1, L1, O1, V76, V1⟩
        have hc1 := crf_sbf hc F1
        have k65 : mg_i r1.2 (B + 65) = mg_i σ (B + 65) := sbf_i F1 isB_f65
        have k66 : mg_i r1.2 (B + 66) = mg_i σ (B + 66) := sbf_i F1 isB_f66
        have k63 : mg_i r1.2 (B + 63) = mg_i σ (B + 63) := sbf_i F1 isB_f63
        rw [sgn_abs] at V76
        have V1' : ∀ j, j < dgg (mm p q k) → Z1 (rs j) = some (-(((gm p q k).natAbs : Int) * ((hm p q k).natAbs : Int) ^ (dgg (mm p q (k - 1)) - dgg (mm p q k))) * cc p q (k + 1) j) := fun j hj => by rw [V1 j hj, hrest j]
        have hD0 : -(((gm p q k).natAbs : Int) * ((hm p q k).natAbs : Int) ^ (dgg (mm p q (k - 1)) - dgg (mm p q k))) ≠ 0 := by
          have : ((gm p q k).natAbs : Int) * ((hm p q k).natAbs : Int) ^ (dgg (mm p q (k - 1)) - dgg (mm p q k)) ≠ 0 := Int.mul_ne_zero (by omega) (Int.pow_ne_zero (by omega))
          omega
        -- the degree of what is left
        have hdeg : f_Seq_restDegree fu (nx B) (B + 63) (nI (k + 1)) r1.2 = some (nI (dln (mm p q (k + 1))) - 1) := by
          unfold f_Seq_restDegree
          simp only [rr_lt, sq_1 hc1, e1, i1, if_true, m1, k65, a2]
          have hrd := crd_l (fu := fu) (R := fun j => -(((gm p q k).natAbs : Int) * ((hm p q k).natAbs : Int) ^ (dgg (mm p q (k - 1)) - dgg (mm p q k))) * cc p q (k + 1) j) hc1 L1 (dgg (mm p q k)) fu (by omega) (by omega) V1'
          rw [hrd]
          congr 2
          have hl : ∀ n, lnn n (fun j => -(((gm p q k).natAbs : Int) * ((hm p q k).natAbs : Int) ^ (dgg (mm p q (k - 1)) - dgg (mm p q k))) * cc p q (k + 1) j : Pl) = lnn n (mm p q (k + 1)) := by
            intro n
            induction n with
            | zero => rfl
            | succ n ih =>
              simp only [lnn, ih]
              have : (-(((gm p q k).natAbs : Int) * ((hm p q k).natAbs : Int) ^ (dgg (mm p q (k - 1)) - dgg (mm p q k))) * cc p q (k + 1) n = 0) ↔ mm p q (k + 1) n = 0 := by
                constructor
                · intro hh
                  rcases Int.mul_eq_zero.mp hh with h5 | h5
                  · exact absurd h5 hD0
                  · have h5 : lo p q (k + 1) * mm p q (k + 1) n = 0 := h5
                    rcases Int.mul_eq_zero.mp h5 with h6 | h6
                    · omega
                    · exact h6
                · intro hh
                  show _ * (lo p q (k + 1) * mm p q (k + 1) n) = 0
                  rw [hh]
                  simp
              simp only [this]
          rw [hl, dln, lnn_cut hm0 9 (by omega)]
        rw [hdeg]
        refine wq_ob (wq_some ?_)
        dsimp only [rr_lt, rr_jn]
        have hl9 : dln (mm p q (k + 1)) ≤ 9 := lnn_le 9 _
        by_cases hz : dln (mm p q (k + 1)) = 0
        · rw [if_pos ((nI_neg1 _ (by omega)).mpr hz), nI_1]
          -- the next turn ends at once
          obtain ⟨f', rfl⟩ : ∃ f', f = f' + 1 := ⟨f - 1, by omega⟩
          have hfin : wq (kk r1.2) Q := by
            refine hk r1.2 Z1 (k + 1) L1 (frs_tr hF (sbf_frs F1)) ?_ ⟨by omega, hm1, hm2, fun _ => hz⟩ (by omega) (by rw [k63]; exact hM) ?_
            · intro s hs
              rw [O1 s (by omega) (by omega) (by omega) (by omega) (fun j hj => by unfold rs; omega)]
              exact hO s hs
            · intro i hi
              rw [Nat.add_sub_cancel] at hi
              obtain ⟨q1, q2, q3⟩ := hR i hi
              refine ⟨fun j hj => ?_, by rw [k65]; exact q2, by rw [k66]; exact q3⟩
              rw [O1 _ (by unfold nb; omega) (by unfold nb; omega) (by unfold nb; omega) (by unfold nb; omega) (fun j' hj' => by unfold nb rs; omega)]
              exact q1 j hj
          rw [l_Seq_run_48]
          by_cases hk8 : (10 : Int32) ≤ nI (k + 1 + 1)
          · rw [if_pos hk8]; exact hfin
          · have hne : ¬ mg_i r1.2 (B + 63) 3 = nI (k + 1 + 1) := by
              rw [k63, hM]
              intro hh
              have := (nI_eq (by omega) (by omega)).mp hh
              omega
            rw [if_neg hk8, if_neg hne]
            exact hfin
        · have hpos : 0 < dln (mm p q (k + 1)) := by omega
          have hm1' : mmn p q (k + 1) := fun i hi => by
            by_cases hik : i = k + 1
            · subst hik; exact hpos
            · exact hm1 i (by omega)
          have hb9 : pbd 9 (mm p q (k + 1)) := fun t ht => hm0 t (by omega)
          have hd9 := dln_top hb9 hpos
          have ed : nI (dln (mm p q (k + 1))) - 1 = nI (dgg (mm p q (k + 1))) := by rw [show (1 : Int32) = nI 1 from rfl, nI_sub (by omega)]; rfl
          have hdlt : dgg (mm p q (k + 1)) < dgg (mm p q k) := by
            apply Nat.lt_of_not_le
            intro hle
            exact hd9.1.1 (hm0 _ hle)
          rw [if_neg (fun hh => hz ((nI_neg1 _ (by omega)).mp hh)), ed]
          have Z178 : Z1 78 = some ((gm p q k).natAbs : Int) := by rw [O1 78 (by omega) (by omega) (by omega) (by omega) (fun j hj => by unfold rs; omega)]; exact h78
          have Z180 : Z1 80 = some ((hm p q k).natAbs : Int) := by rw [O1 80 (by omega) (by omega) (by omega) (by omega) (fun j hj => by unfold rs; omega)]; exact h80
          have sRR : ∀ j, szb 2400 (-(((gm p q k).natAbs : Int) * ((hm p q k).natAbs : Int) ^ (dgg (mm p q (k - 1)) - dgg (mm p q k))) * cc p q (k + 1) j) := fun j => by
            rw [← hrest j]
            refine szb_pm (pm_pow (sign_pm hb0) _) (szb_mono (prs_bit (sB _) sB sA _ j) (by omega))
          refine wq_bd (wq_mo (csh_ok (k := k + 1) (dA := dgg (mm p q (k - 1))) (dB := dgg (mm p q k)) (d := dgg (mm p q (k + 1))) (eg := mbt p q s (k - 1)) (eh := hbt p q s k) (eR := 2400) (g := ((gm p q k).natAbs : Int)) (h := ((hm p q k).natAbs : Int)) (c := cc p q (k + 1)) hfu hc1 (by omega) (by omega) (by omega) (by omega) hdl L1 (by rw [hk2, k65]; exact b2) (by rw [hk1, k65]; exact a2) Z178 Z180 (by omega) (by omega) sg sh t2 (fun j hj => V1' j (by omega)) (fun j hj => by show lo p q (k + 1) * mm p q (k + 1) j = 0; rw [hd9.1.2 j hj, Int.mul_zero]) sRR (by omega) (fun j => szb_mono (sM j) (by omega))) ?_)
          rintro r2 ⟨F2, N2, M2, D2, S2, Z2, L2, O2, V2⟩
          have hc2 := crf_frs hc1 F2
          have Z276 : Z2 76 = some ((cc p q k (dgg (mm p q k))).natAbs : Int) := by rw [O2 76 (by omega) (by omega) (fun j hj => by unfold rs; omega) (fun j hj => by unfold nb; omega)]; exact V76
          have Z280 : Z2 80 = some ((hm p q k).natAbs : Int) := by rw [O2 80 (by omega) (by omega) (fun j hj => by unfold rs; omega) (fun j hj => by unfold nb; omega)]; exact Z180
          have hna : (cc p q k (dgg (mm p q k))).natAbs = (mm p q k (dgg (mm p q k))).natAbs := by
            show (lo p q k * mm p q k (dgg (mm p q k))).natAbs = _
            rw [Int.natAbs_mul]
            rcases l1 with e | e <;> rw [e] <;> simp
          have hx := hm_ex h.1 h.2.1 h.2.2.2.2.1 h1 hm1 hm2
          have sX : szb 600 ((hm p q (k + 1)).natAbs : Int) := szb_mono (szb_abs (hm_bit h (k := k + 1) (by omega) hm1 (fun i hi h3 => hm2 i (by omega) h3))) (by have := (bits_ok h (k := k + 1) (by omega) hm1' hm2p).2.2.2.2.2; omega)
          rw [e2, sq_1 hc2, m2, (N2 (k - 1) (by omega)).1, (N2 k (by omega)).1, k65, b2, a2, nI_sub hdl]
          refine wq_ip i2 (wq_ip i1 ?_)
          have tm : (dgg (mm p q (k - 1)) - dgg (mm p q k)) * mbt p q s k ≤ (dgg (mm p q (k - 1)) - dgg (mm p q k) + 1) * mbt p q s k := Nat.mul_le_mul_right _ (by omega)
          refine wq_bd (wq_mo (crh_ok (δ := dgg (mm p q (k - 1)) - dgg (mm p q k)) (eL := mbt p q s k) (eh := hbt p q s k) (L := ((cc p q k (dgg (mm p q k))).natAbs : Int)) (h := ((hm p q k).natAbs : Int)) (X := ((hm p q (k + 1)).natAbs : Int)) hfu hc2 (by omega) L2 Z276 Z280 (by omega) (szb_abs (sB _)) sh (by omega) (by omega) sX (by omega) (by omega) ?_ ?_) ?_)
          · intro hz2
            obtain ⟨q1, q2, _⟩ := hx.2.1 (by omega)
            rw [q1, q2]
          · intro hz2
            have e9 := congrArg Int.natAbs (hx.1 (by omega)).1
            rw [Int.natAbs_mul, Int.natAbs_pow, Int.natAbs_pow] at e9
            rw [hna]
            have := congrArg (fun n : Nat => (n : Int)) e9
            simpa using this
          · rintro r3 ⟨F3, Z3, L3, O3, V378, V380⟩
            have k65' : mg_i r3.2 (B + 65) = mg_i r2.2 (B + 65) := sbf_i F3 isB_f65
            have k66' : mg_i r3.2 (B + 66) = mg_i r2.2 (B + 66) := sbf_i F3 isB_f66
            rw [nI_1]
            have hi10 : ∀ i, i ≤ k + 1 → i < 10 := fun i hi => Nat.lt_of_le_of_lt hi (hf9 hk9).2
            refine crn_l hfu h hc0 hk f (k + 1) (ms_i r3.2 (B + 63) 3 (nI (k + 1 + 1))) Z3 (Nat.le_add_left 1 k) (hf9 hk9).1 (bgs_ms L3 isB_f63) (frs_tr hF (frs_tr (sbf_frs F1) (frs_tr F2 (frs_tr (sbf_frs F3) (frs_ms (Or.inl rfl)))))) ?_ hm1' hm2p (si_s _ _ _ _) ?_ ?_ V380
            · intro s hs
              rw [O3 s (ge_ne hs (by decide)) (ge_ne hs (by decide)) (ge_ne hs (by decide)) (ge_ne hs (by decide)) (ge_ne hs (by decide)), O2 s (ge_ne hs (by decide)) (ge_ne hs (by decide)) (fun j hj => ge_rs hs hj) (fun j hj => ge_nb hs (hf9 hk9).2 hj), O1 s (ge_ne hs (by decide)) (ge_ne hs (by decide)) (ge_ne hs (by decide)) (ge_ne hs (by decide)) (fun j hj => ge_rs hs hj)]
              exact hO s hs
            · intro i hi
              have hb65 : B + 65 ≠ B + 63 := fun hh => absurd (Nat.add_left_cancel hh) (by decide)
              have hb66 : B + 66 ≠ B + 63 := fun hh => absurd (Nat.add_left_cancel hh) (by decide)
              rw [si_row hb65, si_row hb66, k65', k66']
              by_cases hik : i = k + 1
              · subst hik
                refine ⟨fun j hj => ?_, D2, S2⟩
                rw [O3 _ (nb_ne (by decide)) (nb_ne (by decide)) (nb_ne (by decide)) (nb_ne (by decide)) (nb_ne (by decide))]
                exact V2 j hj
              · obtain ⟨q1, q2, q3⟩ := hR i (Nat.le_of_lt_succ (Nat.lt_of_le_of_ne hi hik))
                refine ⟨fun j hj => ?_, by rw [(N2 i hik).1, k65]; exact q2, by rw [(N2 i hik).2, k66]; exact q3⟩
                rw [O3 _ (nb_ne (by decide)) (nb_ne (by decide)) (nb_ne (by decide)) (nb_ne (by decide)) (nb_ne (by decide)), O2 _ (nb_ne (by decide)) (nb_ne (by decide)) (fun j' hj' => nb_rs (hi10 i hi) hj) (fun j' hj' => nb_nb hik hj hj'), O1 _ (nb_ne (by decide)) (nb_ne (by decide)) (nb_ne (by decide)) (nb_ne (by decide)) (fun j' hj' => nb_rs (hi10 i hi) hj)]
                exact q1 j hj
            · rw [V378, hna, gm_step p q k h1]
