/-! ===== the model's sequence ===== -/
theorem szn_of {e m : Nat} {z : Int} (h : szb e z) (hem : e < 16 * m) : szn m z := by
  unfold szn szb at *
  have h1 : (2 : Nat) ^ e < 2 ^ (16 * m) := Nat.pow_lt_pow_right (by decide) hem
  have h2 : (65536 : Int) ^ m = ((2 ^ (16 * m) : Nat) : Int) := by
    rw [show (65536 : Int) = 2 ^ 16 from rfl, ← Int.pow_mul]
    simp
  rw [h2]
  omega
theorem mo_mulb {fu C t a b e1 e2 : Nat} {σ : rr_M} {Y : Nat → Int} (hfu : 70000 < fu) (h : LM C σ Y) (ht : t < 460) (ha : a < 460) (hb : b < 460) (hat : a ≠ t) (hbt : b ≠ t) (sx : szb e1 (Y a)) (sy : szb e2 (Y b)) (he : e1 + e2 ≤ 3100) : wq (f_Mod_multiplies fu (nm C) C (nI t) (nI a) (nI b) σ) (fun r => LM C r.2 (yup Y t (Y a * Y b)) ∧ frm C σ r.2) :=
  mo_mul (m1 := e1 / 16 + 1) (m2 := e2 / 16 + 1) hfu h ht ha hb hat hbt (szn_of sx (by omega)) (szn_of sy (by omega)) (by omega)
theorem mo_addb {fu C t a b e1 : Nat} {σ : rr_M} {Y : Nat → Int} {by_ : Int32} {e : Int} (hfu : 70000 < fu) (h : LM C σ Y) (ht : t < 460) (ha : a < 460) (hb : b < 460) (he : e = 1 ∨ e = -1) (hby : by_.toInt = e) (sx : szb e1 (Y a)) (sy : szb e1 (Y b)) (he1 : e1 ≤ 3100) : wq (f_Mod_adds fu (nm C) C (nI t) (nI a) (nI b) by_ σ) (fun r => LM C r.2 (yup Y t (Y a + e * Y b)) ∧ frm C σ r.2) :=
  mo_adds hfu h ht ha hb he hby (szn_of sx (by omega)) (szn_of sy (by omega))
def slt (r k : Nat) : Nat := 20 + 9 * r + k
theorem slot_ok (r k : Nat) : f_Mod_slot (nI r) (nI k) = some (nI (slt r k)) := by
  unfold f_Mod_slot slt
  rw [show (20 : Int32) = nI 20 from rfl, show (9 : Int32) = nI 9 from rfl, nI_mul, nI_add, nI_add]
theorem frm_i {C : Nat} {σ σ' : rr_M} (h : frm C σ σ') {a : Nat} (h1 : a ≠ C + 1) (h2 : a ≠ C + 2) (h3 : a ≠ C + 3) : mg_i σ' a = mg_i σ a := h.2.2 a h1 h2 h3
theorem ix6 {C s : Nat} (hs : s < 48) : rr_ix (nI s) (nm C (C + 6)) = true := by rw [nm_6]; exact ix_nI hs (by omega)
theorem ix7 {C s : Nat} (hs : s < 48) : rr_ix (nI s) (nm C (C + 7)) = true := by rw [nm_7]; exact ix_nI hs (by omega)
theorem lt0_nI {k m : Nat} (hk : k < 2147483648) (hm : m < 2147483648) : (nI k - nI m < 0) ↔ k < m := by
  rw [Int32.lt_iff_toInt_lt, nI_subT hk hm, show (0 : Int32).toInt = 0 from rfl]
  omega
/-- row r holds f -/
def rwY (Y : Nat → Int) (r : Nat) (f : Pl) : Prop := ∀ k, k < 9 → Y (slt r k) = f k
theorem lvs_in {fu C rb rc top dB eO eB : Nat} {σ0 : rr_M} {Y0 : Nat → Int} {od B : Pl} (hfu : 70000 < fu) (hrb : rb < 48) (hrc : rc < 48) (hbc : rb ≠ rc) (htop : top < 9) (hdB : dB ≤ top) (h0 : Y0 0 = od top) (hB : rwY Y0 rb B) (hdg : mg_i σ0 (C + 6) rb = nI dB) (sO : ∀ j, szb eO (od j)) (sB : ∀ j, szb eB (B j)) (hee : eO + eB ≤ 3000) {kk : rr_M → Option (Int32 × rr_M)} {Q : Int32 × rr_M → Prop}
    (hk : ∀ (σ : rr_M) (Y : Nat → Int), LM C σ Y → frm C σ0 σ → (∀ s, s ≠ 1 → s ≠ 2 → (∀ j, j < 9 → s ≠ slt rc j) → Y s = Y0 s) → (∀ j, j < 9 → Y (slt rc j) = if j < top then B dB * od j - (if top - dB ≤ j then B (j - (top - dB)) * od top else 0) else od j) → wq (kk σ) Q) :
    ∀ (f k : Nat) (σ : rr_M) (Y : Nat → Int), k ≤ top → top + 1 - k ≤ f → LM C σ Y → frm C σ0 σ → (∀ s, s ≠ 1 → s ≠ 2 → (∀ j, j < 9 → s ≠ slt rc j) → Y s = Y0 s) → (∀ j, j < 9 → Y (slt rc j) = if j < k then B dB * od j - (if top - dB ≤ j then B (j - (top - dB)) * od top else 0) else od j) →
      wq (l_Mod_leaves_141 fu (nm C) C (nI rb) (nI rc) (nI (slt rb dB)) (nI top) f (nI k) σ kk) Q
  | 0, k, σ, Y, h1, h2, _, _, _, _ => by omega
  | f + 1, k, σ, Y, h1, h2, hY, hF, hO, hN => by
    rw [l_Mod_leaves_141]
    by_cases hkt : k = top
    · subst hkt
      exact wq_ip (nI_le (Nat.le_refl _) (by omega)) (hk σ Y hY hF hO hN)
    · have c0 : ¬ nI top ≤ nI k := nI_ge (by omega) (by omega)
      have hnb : ∀ j, j < 9 → slt rb dB ≠ slt rc j := fun j hj => by unfold slt; omega
      have hnb2 : ∀ i, i < 9 → ∀ j, j < 9 → slt rb i ≠ slt rc j := fun i hi j hj => by unfold slt; omega
      have hYb : ∀ i, i < 9 → Y (slt rb i) = B i := fun i hi => by
        rw [hO _ (by unfold slt; omega) (by unfold slt; omega) (hnb2 i hi)]
        exact hB i hi
      have hY0 : Y 0 = od top := by
        rw [hO 0 (by omega) (by omega) (fun j _ => by unfold slt; omega)]
        exact h0
      have hYk : Y (slt rc k) = od k := by rw [hN k (by omega), if_neg (by omega)]
      have hl : ∀ r i, r < 48 → i < 9 → slt r i < 460 := fun r i hr hi => by unfold slt; omega
      rw [if_neg c0, slot_ok]
      refine wq_ob (wq_some ?_)
      refine wq_bd (wq_mo (mo_mulb (t := 1) (e1 := eO) (e2 := eB) hfu hY (by omega) (hl rc k hrc (by omega)) (hl rb dB hrb (by omega)) (by unfold slt; omega) (by unfold slt; omega) (by rw [hYk]; exact sO k) (by rw [hYb dB (by omega)]; exact sB dB) (by omega)) ?_)
      rintro r1 ⟨Y1, F1⟩
      have mb : rr_n (nI rb) = rb := n_nI (by omega)
      have hd1 : mg_i r1.2 (C + 6) rb = nI dB := by rw [frm_i F1 (by omega) (by omega) (by omega), frm_i hF (by omega) (by omega) (by omega)]; exact hdg
      have em : nI k - (nI top - nI dB) = nI k - nI (top - dB) := by rw [nI_sub hdB]
      dsimp only [rr_lt, rr_jn]
      rw [mrf_6 Y1.1, mb, hd1, em]
      refine wq_ip (ix6 hrb) ?_
      -- the last steps
      have fin : ∀ (σ2 : rr_M) (Y2 : Nat → Int), LM C σ2 Y2 → frm C σ0 σ2 → (∀ s, s ≠ 1 → s ≠ 2 → Y2 s = Y s) → Y2 1 = B dB * od k - (if top - dB ≤ k then B (k - (top - dB)) * od top else 0) →
          wq (Option.bind (some (nI (slt rc k))) fun r_41 => rr_bd (f_Mod_copies fu (nm C) C r_41 1 σ2) fun _ σ_43 => l_Mod_leaves_141 fu (nm C) C (nI rb) (nI rc) (nI (slt rb dB)) (nI top) f (nI k + 1) σ_43 kk) Q := by
        intro σ2 Y2 L2 F2 O2 V2
        refine wq_ob (wq_some (wq_bd (wq_mo (mo_copies (s := 1) hfu L2 (by omega) (hl rc k hrc (by omega))) ?_)))
        rintro r3 ⟨L3, F3⟩
        rw [nI_1]
        refine lvs_in hfu hrb hrc hbc htop hdB h0 hB hdg sO sB hee hk f (k + 1) r3.2 _ (by omega) (by omega) L3 (frm_tr F2 F3) ?_ ?_
        · intro s s1 s2 s3
          rw [yup_n (s3 k (by omega)), O2 s s1 s2]
          exact hO s s1 s2 s3
        · intro j hj
          by_cases hjk : j = k
          · subst hjk
            rw [yup_s, V2, if_pos (show j < j + 1 by omega)]
          · rw [yup_n (by unfold slt; omega), O2 _ (by unfold slt; omega) (by unfold slt; omega), hN j hj]
            by_cases hj2 : j < k
            · rw [if_pos hj2, if_pos (show j < k + 1 by omega)]
            · rw [if_neg hj2, if_neg (show ¬ j < k + 1 by omega)]
      by_cases hneg : k < top - dB
      · rw [if_pos ((lt0_nI (by omega) (by omega)).mpr hneg)]
        refine fin r1.2 _ Y1 (frm_tr hF F1) (fun s s1 s2 => yup_n s1) ?_
        rw [yup_s, hYk, hYb dB (by omega), if_neg (by omega), Int.mul_comm]
        omega
      · have c2 : ¬ nI k - nI (top - dB) < 0 := fun h => hneg ((lt0_nI (by omega) (by omega)).mp h)
        rw [if_neg c2, nI_sub (by omega), slot_ok]
        have hb9 : k - (top - dB) < 9 := by omega
        have y1b : yup Y 1 (Y (slt rc k) * Y (slt rb dB)) (slt rb (k - (top - dB))) = B (k - (top - dB)) := by
          rw [yup_n (by unfold slt; omega), hYb _ hb9]
        have y10 : yup Y 1 (Y (slt rc k) * Y (slt rb dB)) 0 = od top := by rw [yup_n (by omega), hY0]
        refine wq_ob (wq_some (wq_bd (wq_mo (mo_mulb (t := 2) (b := 0) (e1 := eB) (e2 := eO) hfu Y1 (by omega) (hl rb _ hrb hb9) (by omega) (by unfold slt; omega) (by omega) (by rw [y1b]; exact sB _) (by rw [y10]; exact sO _) (by omega)) ?_)))
        rintro r2 ⟨Y2, F2⟩
        rw [y1b, y10] at Y2
        have y21 : yup (yup Y 1 (Y (slt rc k) * Y (slt rb dB))) 2 (B (k - (top - dB)) * od top) 1 = od k * B dB := by
          rw [yup_n (by omega), yup_s, hYk, hYb dB (by omega)]
        have y22 : yup (yup Y 1 (Y (slt rc k) * Y (slt rb dB))) 2 (B (k - (top - dB)) * od top) 2 = B (k - (top - dB)) * od top := yup_s _ _ _
        refine wq_bd (wq_mo (mo_addb (t := 1) (a := 1) (b := 2) (by_ := -1) (e := -1) (e1 := eO + eB) hfu Y2 (by omega) (by omega) (by omega) (Or.inr rfl) rfl (by rw [y21]; exact szb_mul (sO k) (sB dB)) (by rw [y22, Nat.add_comm]; exact szb_mul (sB _) (sO _)) (by omega)) ?_)
        rintro r3 ⟨Y3, F3⟩
        rw [y21, y22] at Y3
        refine fin r3.2 _ Y3 (frm_tr hF (frm_tr F1 (frm_tr F2 F3))) (fun s s1 s2 => ?_) ?_
        · rw [yup_n s1, yup_n s2, yup_n s1]
        · rw [yup_s, if_pos (by omega)]
          grind
