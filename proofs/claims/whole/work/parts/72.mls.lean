/-! ===== the model's sequence: one step, whole ===== -/
/-- large numbers, and rows lo .. hi - 1 of degrees and lost signs, may have changed -/
def frq (C a b : Nat) (σ σ' : rr_M) : Prop := mg_r σ' = mg_r σ ∧ (∀ x, x ≠ C + 4 → x ≠ C + 5 → mg_l σ' x = mg_l σ x) ∧ (∀ x, x ≠ C + 1 → x ≠ C + 2 → x ≠ C + 3 → x ≠ C + 6 → x ≠ C + 7 → mg_i σ' x = mg_i σ x) ∧ (∀ j, (j < a ∨ b ≤ j) → mg_i σ' (C + 6) j = mg_i σ (C + 6) j ∧ mg_i σ' (C + 7) j = mg_i σ (C + 7) j)
theorem frm_frq {C : Nat} {σ σ' : rr_M} (h : frm C σ σ') (a b : Nat) : frq C a b σ σ' := ⟨h.1, h.2.1, fun x h1 h2 h3 _ _ => h.2.2 x h1 h2 h3, fun j _ => ⟨by rw [h.2.2 _ (by omega) (by omega) (by omega)], by rw [h.2.2 _ (by omega) (by omega) (by omega)]⟩⟩
theorem frq_tr {C a b : Nat} {σ σ' σ'' : rr_M} (h1 : frq C a b σ σ') (h2 : frq C a b σ' σ'') : frq C a b σ σ'' :=
  ⟨h2.1.trans h1.1, fun x u v => (h2.2.1 x u v).trans (h1.2.1 x u v), fun x u v w y z => (h2.2.2.1 x u v w y z).trans (h1.2.2.1 x u v w y z), fun j hj => ⟨(h2.2.2.2 j hj).1.trans (h1.2.2.2 j hj).1, (h2.2.2.2 j hj).2.trans (h1.2.2.2 j hj).2⟩⟩
theorem frq_mono {C a b a' b' : Nat} {σ σ' : rr_M} (h : frq C a b σ σ') (ha : a' ≤ a) (hb : b ≤ b') : frq C a' b' σ σ' := ⟨h.1, h.2.1, h.2.2.1, fun j hj => h.2.2.2 j (by omega)⟩
theorem frq_6 {C r : Nat} {σ : rr_M} {v : Int32} : frq C r (r + 1) σ (ms_i σ (C + 6) r v) := ⟨rfl, fun _ _ _ => rfl, fun x _ _ _ h _ => si_row h, fun j hj => ⟨si_n (Or.inr (by omega)), by rw [si_row (by omega)]⟩⟩
theorem frq_7 {C r : Nat} {σ : rr_M} {v : Int32} : frq C r (r + 1) σ (ms_i σ (C + 7) r v) := ⟨rfl, fun _ _ _ => rfl, fun x _ _ _ _ h => si_row h, fun j hj => ⟨by rw [si_row (by omega)], si_n (Or.inr (by omega))⟩⟩
theorem LM_ms {C a k : Nat} {σ : rr_M} {Y : Nat → Int} {v : Int32} (h : LM C σ Y) (ha : C + 4 ≤ a) : LM C (ms_i σ a k v) Y := LM_frm h rfl (si_row (by omega)) (si_row (by omega)) (si_row (by omega))
theorem nI_mod2 {n : Nat} (h : n < 2147483648) : (nI n - nI n / 2 * 2 = 0) ↔ n % 2 = 0 := by
  rw [show (2 : Int32) = nI 2 from rfl, nI_div h (by omega), nI_mul, nI_sub (by omega), show (0 : Int32) = nI 0 from rfl, nI_eq (by omega) (by omega)]
  omega
theorem pm_mul {x y : Int32} (hx : x.toInt = 1 ∨ x.toInt = -1) (hy : y.toInt = 1 ∨ y.toInt = -1) : (x * y).toInt = x.toInt * y.toInt ∧ ((x * y).toInt = 1 ∨ (x * y).toInt = -1) := by
  have e : (x * y).toInt = x.toInt * y.toInt := Jvm.Kit.i32_mul (by rcases hx with h | h <;> rcases hy with h' | h' <;> rw [h, h'] <;> decide) (by rcases hx with h | h <;> rcases hy with h' | h' <;> rw [h, h'] <;> decide)
  refine ⟨e, ?_⟩
  rw [e]
  rcases hx with h | h <;> rcases hy with h' | h' <;> rw [h, h'] <;> decide
theorem pm_neg {x : Int32} (hx : x.toInt = 1 ∨ x.toInt = -1) : (-x).toInt = -x.toInt ∧ ((-x).toInt = 1 ∨ (-x).toInt = -1) := by
  have e : (-x).toInt = -x.toInt := Jvm.Kit.i32_neg (by rcases hx with h | h <;> rw [h] <;> decide)
  refine ⟨e, ?_⟩
  rw [e]
  omega
theorem sgI_pm {z : Int} (h : z ≠ 0) : (sgI z).toInt = 1 ∨ (sgI z).toInt = -1 := by rw [sgI_t]; exact sign_pm h
theorem nI_neg1 (n : Nat) (h : n < 100) : (nI n - 1 < 0) ↔ n = 0 := by
  have := lt0_nI (k := n) (m := 1) (by omega) (by omega)
  rw [show (1 : Int32) = nI 1 from rfl, this]
  omega
theorem mlv_ok {fu C r k s : Nat} {σ : rr_M} {Y : Nat → Int} {p q : Pl} (hfu : 70000 < fu) (h : gdp p q s) (hk : 1 ≤ k) (hm1 : mmn p q k) (hm2 : ∀ i, i < k → 1 ≤ i → 0 < dgg (mm p q i)) (hr : r + 2 < 48) (hY : LM C σ Y) (ra : rwY Y r (mm p q (k - 1))) (rb : rwY Y (r + 1) (mm p q k)) (da : mg_i σ (C + 6) r = nI (dgg (mm p q (k - 1)))) (db : mg_i σ (C + 6) (r + 1) = nI (dgg (mm p q k))) (la : (mg_i σ (C + 7) r).toInt = lo p q (k - 1)) (h6 : Y 6 = gm p q k) (h7 : Y 7 = hm p q k) :
    wq (f_Mod_leaves fu (nm C) C (nI r) 6 7 σ) (fun y => y.1 = (if dln (mm p q (k + 1)) = 0 then 0 else 1) ∧ ∃ Y', LM C y.2 Y' ∧ frq C (r + 2) (r + 3) σ y.2 ∧ (∀ s, 6 ≤ s → (∀ j, j < 9 → s ≠ slt (r + 2) j) → Y' s = Y s) ∧ rwY Y' (r + 2) (mm p q (k + 1)) ∧ mg_i y.2 (C + 6) (r + 2) = nI (dln (mm p q (k + 1))) - 1 ∧ (mg_i y.2 (C + 7) (r + 2)).toInt = lo p q (k + 1)) := by
  obtain ⟨g0, h0, hdl, hdg⟩ := gh_nz h hk hm1 hm2
  obtain ⟨s0, hex, hR0, hm0⟩ := mm_dv h hk hm1 hm2
  obtain ⟨b1, b2, b3, b4, b5, b6⟩ := bits_ok h hk hm1 hm2
  have sA : ∀ t, szb (mbt p q s (k - 1)) (mm p q (k - 1) t) := mm_bit h (fun i hi => hm1 i (by omega)) (fun i hi h3 => hm2 i (by omega) h3)
  have sB : ∀ t, szb (mbt p q s k) (mm p q k t) := mm_bit h (fun i hi => hm1 i (by omega)) hm2
  have sg : szb (mbt p q s (k - 1)) (gm p q k) := gm_bit h hk (fun i hi => hm1 i (by omega)) (fun i hi h3 => hm2 i (by omega) h3)
  have sh : szb (hbt p q s k) (hm p q k) := hm_bit h hk (fun i hi => hm1 i (by omega)) (fun i hi h3 => hm2 i (by omega) h3)
  have hdA := dgg_lt (mm p q (k - 1))
  have hdB := dgg_lt (mm p q k)
  have dgA := hdg (k - 1) (by omega)
  have dgB := hdg k (by omega)
  have lopm := lo_pm h (k - 1) (fun i hi => hm1 i (by omega)) (fun i hi h3 => hm2 i (by omega) h3)
  obtain ⟨A, hA⟩ : ∃ A, A = mm p q (k - 1) := ⟨_, rfl⟩
  obtain ⟨B, hB⟩ : ∃ B, B = mm p q k := ⟨_, rfl⟩
  obtain ⟨M, hM⟩ : ∃ M, M = mm p q (k + 1) := ⟨_, rfl⟩
  have hlo : lo p q (k + 1) = -(if (dgg A - dgg B) % 2 = 0 then (B (dgg B)).sign else 1) * lo p q (k - 1) * (gm p q k * hm p q k ^ (dgg A - dgg B)).sign := by
    obtain ⟨j, rfl⟩ : ∃ j, k = j + 1 := ⟨k - 1, by omega⟩
    rw [hA, hB]
    rfl
  rw [← hA, ← hB] at s0 hex hR0 b1 b2 b3 hdl
  rw [← hA] at sA hdA dgA ra da
  rw [← hB] at sB hdB dgB rb db hm0
  rw [← hM] at hex hm0
  rw [← hM, hlo]
  have mr : rr_n (nI r) = r := n_nI (by omega)
  have mr1 : rr_n (nI (r + 1)) = r + 1 := n_nI (by omega)
  have mr2 : rr_n (nI (r + 2)) = r + 2 := n_nI (by omega)
  have eg : nI (dgg A) - nI (dgg B) = nI (dgg A - dgg B) := nI_sub hdl
  have hB0 : B (dgg B) ≠ 0 := dgB.1
  unfold f_Mod_leaves
  dsimp only [rr_lt, rr_jn]
  rw [nI_1, nI_a2, mrf_6 hY.1, mr, mr1, da, db, eg]
  refine wq_ip (ix6 (by omega)) (wq_ip (ix6 (by omega)) ?_)
  refine lvs_cp (σ0 := σ) (Y0 := Y) (A := A) (dA := dgg A) hfu (by omega) hr (by omega) (by omega) ra (fun t ht => dgA.2 t ht) da ?_ fu 0 σ Y (by omega) (by omega) hY (frm_rfl _ _) (fun _ _ => rfl) (fun j hj => absurd hj (by omega))
  intro σ1 Y1 L1 F1 O1 V1
  have db1 : mg_i σ1 (C + 6) (r + 1) = nI (dgg B) := by rw [frm_i F1 (by omega) (by omega) (by omega)]; exact db
  have da1 : mg_i σ1 (C + 6) r = nI (dgg A) := by rw [frm_i F1 (by omega) (by omega) (by omega)]; exact da
  have hYb : rwY Y1 (r + 1) B := fun j hj => by rw [O1 _ (fun i hi => slt_ne hj hi (by omega))]; exact rb j hj
  rw [mrf_6 L1.1, db1, slot_ok]
  refine wq_ip (ix6 (by omega)) (wq_ob (wq_some ?_))
  rw [da1]
  refine wq_ip (ix6 (by omega)) ?_
  have et : nI (dgg A) = nI (dgg A + 1) - 1 := (nI_pred _).symm
  rw [et]
  refine lvs_out (σ0 := σ1) (Y0 := Y1) (A := A) (B := B) (dA := dgg A) (dB := dgg B) (eA := mbt p q s (k - 1)) (eB := mbt p q s k) hfu (by omega) hr (by omega) (by omega) hdl hYb db1 (fun t ht => dgA.2 t ht) (fun t ht => dgB.2 t ht) sA sB (by omega) ?_ fu (dgg A + 1) σ1 Y1 (by omega) (by omega) (by omega) L1 (frm_rfl _ _) (fun _ _ _ _ _ => rfl) (by rw [Nat.sub_self]; exact V1)
  intro σ2 Y2 L2 F2 O2 V2
  have big : ∀ x i, x < 20 → x ≠ slt (r + 2) i := fun x i hx => by have := slt_ge (r + 2) i; omega
  have y26 : Y2 6 = gm p q k := by rw [O2 6 (by omega) (by omega) (by omega) (fun j _ => big 6 j (by omega)), O1 6 (fun j _ => big 6 j (by omega))]; exact h6
  have y27 : Y2 7 = hm p q k := by rw [O2 7 (by omega) (by omega) (by omega) (fun j _ => big 7 j (by omega)), O1 7 (fun j _ => big 7 j (by omega))]; exact h7
  refine wq_bd (wq_mo (mo_copies (t := 3) (s := 6) hfu L2 (by omega) (by omega)) ?_)
  rintro r3 ⟨L3, F3⟩
  rw [y26] at L3
  refine lvs_gh (hs := 7) (δ := dgg A - dgg B) (eg := mbt p q s (k - 1)) (eh := hbt p q s k) (σ0 := r3.2) (Y0 := yup Y2 3 (gm p q k)) hfu (by omega) (by omega) (by omega) (by rw [yup_s]; exact sg) (by rw [yup_n (by omega), y27]; exact sh) (by omega) ?_ fu 0 r3.2 _ (by omega) (by omega) L3 (frm_rfl _ _) (fun _ _ _ => rfl) (by simp)
  intro σ4 Y4 L4 F4 O4 V4
  rw [yup_s, yup_n (show (7 : Nat) ≠ 3 by omega), y27] at V4
  have i33 : rr_ix 3 (nm C (C + 3)) = true := ix3 (s := 3) (by omega)
  have m33 : rr_n 3 = 3 := rfl
  rw [mrf_3 L4.1, m33, mo_sign L4 (show 3 < 460 by omega), V4]
  refine wq_ip i33 ?_
  have Fall : frm C σ σ4 := frm_tr F1 (frm_tr F2 (frm_tr F3 F4))
  have hR4 : rwY Y4 (r + 2) (rem2 A B) := by
    intro j hj
    have := slt_ge (r + 2) j
    rw [O4 _ (by omega) (by omega), yup_n (by omega), V2 j hj]
    rfl
  refine lvs_dv (σ0 := σ4) (Y0 := Y4) (rb := r + 1) (dB := dgg B) (R := rem2 A B) (m := M) hfu (by omega) hr (by omega) (by rw [frm_i Fall (by omega) (by omega) (by omega)]; exact db) hR4 (by rw [V4]; exact s0) (fun t => by rw [V4]; exact hex t) hR0 ?_ fu 0 σ4 Y4 (by omega) (by omega) L4 (frm_rfl _ _) (fun _ _ _ _ => rfl) (fun j hj => by rw [if_neg (by omega)]; exact hR4 j hj)
  intro σ5 Y5 L5 F5 O5 V5
  have Fal5 : frm C σ σ5 := frm_tr Fall F5
  have db5 : mg_i σ5 (C + 6) (r + 1) = nI (dgg B) := by rw [frm_i Fal5 (by omega) (by omega) (by omega)]; exact db
  rw [mrf_6 L5.1, db5]
  refine wq_ip (ix6 (by omega)) ?_
  have hdeg : f_Mod_degreeOfRow fu (nm C) C (nI (r + 2)) (nI (dgg B) - 1) σ5 = some (nI (dln M) - 1) := by
    unfold f_Mod_degreeOfRow
    rw [lvs_dg hr L5 V5 (dgg B) fu (by omega) (by omega), dln, lnn_cut hm0 9 (by omega)]
  rw [hdeg]
  refine wq_ob (wq_some (wq_ip (ix6 hr) ?_))
  -- the lost sign
  have m7 : mrf C (ms_i σ5 (C + 6) (r + 2) (nI (dln M) - 1)) := mrf_of L5.1 rfl
  rw [mr2]
  have hl9 : dln M ≤ 9 := lnn_le 9 M
  have hon : ∀ s, 6 ≤ s → (∀ j, j < 9 → s ≠ slt (r + 2) j) → Y5 s = Y s := by
    intro s hs hs2
    rw [O5 s (by omega) (by omega) hs2, O4 s (by omega) (by omega), yup_n (by omega), O2 s (by omega) (by omega) (by omega) hs2, O1 s hs2]
  have fin : ∀ t : Int32, (t.toInt = 1 ∨ t.toInt = -1) → t.toInt = (if (dgg A - dgg B) % 2 = 0 then (B (dgg B)).sign else 1) →
      wq (if rr_ix (nI r) (nm C (mg_r (ms_i σ5 (C + 6) (r + 2) (nI (dln M) - 1)) C 7)) = true then
        if rr_ix (nI (r + 2)) (nm C (mg_r (ms_i σ5 (C + 6) (r + 2) (nI (dln M) - 1)) C 7)) = true then
          if rr_ix (nI (r + 2)) (nm C (mg_r (ms_i (ms_i σ5 (C + 6) (r + 2) (nI (dln M) - 1)) (mg_r (ms_i σ5 (C + 6) (r + 2) (nI (dln M) - 1)) C 7) (r + 2) (-t * mg_i (ms_i σ5 (C + 6) (r + 2) (nI (dln M) - 1)) (mg_r (ms_i σ5 (C + 6) (r + 2) (nI (dln M) - 1)) C 7) r * sgI (gm p q k * hm p q k ^ (dgg A - dgg B)))) C 6)) = true then
            if mg_i (ms_i (ms_i σ5 (C + 6) (r + 2) (nI (dln M) - 1)) (mg_r (ms_i σ5 (C + 6) (r + 2) (nI (dln M) - 1)) C 7) (r + 2) (-t * mg_i (ms_i σ5 (C + 6) (r + 2) (nI (dln M) - 1)) (mg_r (ms_i σ5 (C + 6) (r + 2) (nI (dln M) - 1)) C 7) r * sgI (gm p q k * hm p q k ^ (dgg A - dgg B)))) (mg_r (ms_i (ms_i σ5 (C + 6) (r + 2) (nI (dln M) - 1)) (mg_r (ms_i σ5 (C + 6) (r + 2) (nI (dln M) - 1)) C 7) (r + 2) (-t * mg_i (ms_i σ5 (C + 6) (r + 2) (nI (dln M) - 1)) (mg_r (ms_i σ5 (C + 6) (r + 2) (nI (dln M) - 1)) C 7) r * sgI (gm p q k * hm p q k ^ (dgg A - dgg B)))) C 6) (r + 2) < 0 then
              if rr_b1 0 = true then some ((0 : Int32), ms_i (ms_i σ5 (C + 6) (r + 2) (nI (dln M) - 1)) (mg_r (ms_i σ5 (C + 6) (r + 2) (nI (dln M) - 1)) C 7) (r + 2) (-t * mg_i (ms_i σ5 (C + 6) (r + 2) (nI (dln M) - 1)) (mg_r (ms_i σ5 (C + 6) (r + 2) (nI (dln M) - 1)) C 7) r * sgI (gm p q k * hm p q k ^ (dgg A - dgg B)))) else none
            else if rr_b1 1 = true then some ((1 : Int32), ms_i (ms_i σ5 (C + 6) (r + 2) (nI (dln M) - 1)) (mg_r (ms_i σ5 (C + 6) (r + 2) (nI (dln M) - 1)) C 7) (r + 2) (-t * mg_i (ms_i σ5 (C + 6) (r + 2) (nI (dln M) - 1)) (mg_r (ms_i σ5 (C + 6) (r + 2) (nI (dln M) - 1)) C 7) r * sgI (gm p q k * hm p q k ^ (dgg A - dgg B)))) else none
          else none
        else none
      else none) (fun y => y.1 = (if dln M = 0 then 0 else 1) ∧ ∃ Y', LM C y.2 Y' ∧ frq C (r + 2) (r + 3) σ y.2 ∧ (∀ s, 6 ≤ s → (∀ j, j < 9 → s ≠ slt (r + 2) j) → Y' s = Y s) ∧ rwY Y' (r + 2) M ∧ mg_i y.2 (C + 6) (r + 2) = nI (dln M) - 1 ∧ (mg_i y.2 (C + 7) (r + 2)).toInt = -(if (dgg A - dgg B) % 2 = 0 then (B (dgg B)).sign else 1) * lo p q (k - 1) * (gm p q k * hm p q k ^ (dgg A - dgg B)).sign) := by
    intro t ht ht2
    have la5 : mg_i (ms_i σ5 (C + 6) (r + 2) (nI (dln M) - 1)) (C + 7) r = mg_i σ (C + 7) r := by rw [si_row (by omega), frm_i Fal5 (by omega) (by omega) (by omega)]
    rw [mrf_7 m7, la5]
    have hv1 := pm_neg ht
    have hv2 := pm_mul hv1.2 (show (mg_i σ (C + 7) r).toInt = 1 ∨ (mg_i σ (C + 7) r).toInt = -1 by rw [la]; exact lopm)
    have hv3 := pm_mul hv2.2 (sgI_pm s0)
    generalize hV : -t * mg_i σ (C + 7) r * sgI (gm p q k * hm p q k ^ (dgg A - dgg B)) = V at *
    have m8 : mrf C (ms_i (ms_i σ5 (C + 6) (r + 2) (nI (dln M) - 1)) (C + 7) (r + 2) V) := m7
    have hd8 : mg_i (ms_i (ms_i σ5 (C + 6) (r + 2) (nI (dln M) - 1)) (C + 7) (r + 2) V) (C + 6) (r + 2) = nI (dln M) - 1 := by rw [si_row (by omega), si_s]
    rw [mrf_6 m8, hd8]
    refine wq_ip (ix7 (by omega)) (wq_ip (ix7 hr) (wq_ip (ix6 hr) ?_))
    have post : ∃ Y', LM C (ms_i (ms_i σ5 (C + 6) (r + 2) (nI (dln M) - 1)) (C + 7) (r + 2) V) Y' ∧ frq C (r + 2) (r + 3) σ (ms_i (ms_i σ5 (C + 6) (r + 2) (nI (dln M) - 1)) (C + 7) (r + 2) V) ∧ (∀ s, 6 ≤ s → (∀ j, j < 9 → s ≠ slt (r + 2) j) → Y' s = Y s) ∧ rwY Y' (r + 2) M ∧ mg_i (ms_i (ms_i σ5 (C + 6) (r + 2) (nI (dln M) - 1)) (C + 7) (r + 2) V) (C + 6) (r + 2) = nI (dln M) - 1 ∧ (mg_i (ms_i (ms_i σ5 (C + 6) (r + 2) (nI (dln M) - 1)) (C + 7) (r + 2) V) (C + 7) (r + 2)).toInt = -(if (dgg A - dgg B) % 2 = 0 then (B (dgg B)).sign else 1) * lo p q (k - 1) * (gm p q k * hm p q k ^ (dgg A - dgg B)).sign := by
      refine ⟨Y5, LM_ms (LM_ms L5 (by omega)) (by omega), frq_tr (frm_frq Fal5 _ _) (frq_tr frq_6 frq_7), hon, V5, hd8, ?_⟩
      rw [si_s, hv3.1, hv2.1, hv1.1, ht2, la, sgI_t]
    by_cases hz : dln M = 0
    · rw [if_pos ((nI_neg1 _ (by omega)).mpr hz)]
      refine wq_ip (by decide) (wq_some ⟨by rw [if_pos hz], post⟩)
    · rw [if_neg (fun hh => hz ((nI_neg1 _ (by omega)).mp hh))]
      refine wq_ip (by decide) (wq_some ⟨by rw [if_neg hz], post⟩)
  by_cases hev : (dgg A - dgg B) % 2 = 0
  · have sl := slt_lt (r := r + 1) (k := dgg B) (by omega) (by omega)
    have ml : rr_n (nI (slt (r + 1) (dgg B))) = slt (r + 1) (dgg B) := n_nI (by omega)
    rw [if_pos ((nI_mod2 (by omega)).mpr hev), mrf_3 m7, ml, si_row (by omega), mo_sign L5 sl]
    refine wq_ip (ix3 sl) ?_
    have hy5 : Y5 (slt (r + 1) (dgg B)) = B (dgg B) := by
      rw [hon _ (by have := slt_ge (r + 1) (dgg B); omega) (fun j hj => slt_ne (by omega) hj (by omega))]
      exact rb _ (by omega)
    rw [hy5]
    exact fin _ (sgI_pm hB0) (by rw [if_pos hev, sgI_t])
  · rw [if_neg (fun hh => hev ((nI_mod2 (by omega)).mp hh))]
    exact fin 1 (Or.inl rfl) (by rw [if_neg hev]; rfl)
