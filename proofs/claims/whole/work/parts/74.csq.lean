/-! ===== the class's sequence: the rest ===== -/
def crf (B : Nat) (σ : rr_M) : Prop := ∀ o k, o ≠ 280 → mg_r σ (B + o) k = B + RX o k
theorem crf_of {B : Nat} {σ σ' : rr_M} (h : crf B σ) (e : mg_r σ' = mg_r σ) : crf B σ' := fun o k ho => by rw [e]; exact h o k ho
theorem rx_num : ∀ i, i < 90 → RX 64 i = 82 + 2 * i := by decide +kernel
theorem rx_rest : ∀ i, i < 9 → RX 67 i = 262 + 2 * i := by decide +kernel
theorem nx_at (B o : Nat) : nx B (B + o) = NX o := by rw [nx, Nat.add_sub_cancel_left]
theorem sq_0 {B : Nat} {σ : rr_M} (h : crf B σ) : mg_r σ (B + 63) 0 = B + 64 := h 63 0 (by omega)
theorem sq_1 {B : Nat} {σ : rr_M} (h : crf B σ) : mg_r σ (B + 63) 1 = B + 65 := h 63 1 (by omega)
theorem sq_2 {B : Nat} {σ : rr_M} (h : crf B σ) : mg_r σ (B + 63) 2 = B + 66 := h 63 2 (by omega)
theorem sq_4 {B : Nat} {σ : rr_M} (h : crf B σ) : mg_r σ (B + 63) 4 = B + 67 := h 63 4 (by omega)
theorem sq_5 {B : Nat} {σ : rr_M} (h : crf B σ) : mg_r σ (B + 63) 5 = B + 68 := h 63 5 (by omega)
theorem sq_6 {B : Nat} {σ : rr_M} (h : crf B σ) : mg_r σ (B + 63) 6 = B + 70 := h 63 6 (by omega)
theorem sq_7 {B : Nat} {σ : rr_M} (h : crf B σ) : mg_r σ (B + 63) 7 = B + 72 := h 63 7 (by omega)
theorem sq_8 {B : Nat} {σ : rr_M} (h : crf B σ) : mg_r σ (B + 63) 8 = B + 74 := h 63 8 (by omega)
theorem sq_9 {B : Nat} {σ : rr_M} (h : crf B σ) : mg_r σ (B + 63) 9 = B + 76 := h 63 9 (by omega)
theorem sq_10 {B : Nat} {σ : rr_M} (h : crf B σ) : mg_r σ (B + 63) 10 = B + 78 := h 63 10 (by omega)
theorem sq_11 {B : Nat} {σ : rr_M} (h : crf B σ) : mg_r σ (B + 63) 11 = B + 80 := h 63 11 (by omega)
def nb (k j : Nat) : Nat := 82 + 2 * (9 * k + j)
def rs (j : Nat) : Nat := 262 + 2 * j
theorem sq_nb {B : Nat} {σ : rr_M} (h : crf B σ) {k j : Nat} (hk : k < 10) (hj : j < 9) : mg_r σ (B + 64) (9 * k + j) = B + nb k j := by rw [h 64 _ (by omega), rx_num _ (by omega)]; rfl
theorem sq_rs {B : Nat} {σ : rr_M} (h : crf B σ) {j : Nat} (hj : j < 9) : mg_r σ (B + 67) j = B + rs j := by rw [h 67 _ (by omega), rx_rest _ hj]; rfl
theorem nx_64 (B : Nat) : nx B (B + 64) = 90 := nx_at B 64
theorem nx_65 (B : Nat) : nx B (B + 65) = 10 := nx_at B 65
theorem nx_66 (B : Nat) : nx B (B + 66) = 10 := nx_at B 66
theorem nx_67 (B : Nat) : nx B (B + 67) = 9 := nx_at B 67
theorem isB_nb {k j : Nat} (hk : k < 10) (hj : j < 9) : isB (nb k j) = true := by
  unfold nb
  simp only [isB, Bool.or_eq_true, Bool.and_eq_true, decide_eq_true_eq]
  omega
theorem isB_rs {j : Nat} (hj : j < 9) : isB (rs j) = true := by
  unfold rs
  simp only [isB, Bool.or_eq_true, Bool.and_eq_true, decide_eq_true_eq]
  omega
theorem room_nb {k j : Nat} (hk : k < 10) (hj : j < 9) : roomB (nb k j) = 24 := by unfold roomB nb; rw [if_pos (by omega)]
theorem room_rs {j : Nat} (hj : j < 9) : roomB (rs j) = 96 := by unfold roomB rs; rw [if_neg (by omega), if_neg (by omega), if_neg (by omega)]
theorem szl_of {e m : Nat} {z : Int} (h : szb e z) (hem : e < 30 * m) : szl m z := by
  unfold szl szb at *
  have h1 : (2 : Nat) ^ e < 2 ^ (30 * m) := Nat.pow_lt_pow_right (by decide) hem
  have h2 : (1073741824 : Int) ^ m = ((2 ^ (30 * m) : Nat) : Int) := by rw [p30]; simp
  rw [h2]
  omega
theorem nI_mul9 (a : Nat) : nI a * 9 = nI (9 * a) := by rw [show (9 : Int32) = nI 9 from rfl, nI_mul, Nat.mul_comm]
theorem bo_mulb {fu B x y w e1 e2 : Nat} {σ : rr_M} {Z : Nat → Option Int} {v u : Int} (hfu : 400 < fu) (h : bgs B σ Z) (hx : isB x = true) (hy : isB y = true) (hw : isB w = true) (hyx : y ≠ x) (hwx : w ≠ x) (hv : Z y = some v) (hu : Z w = some u) (hs1 : szb e1 v) (hs2 : szb e2 u) (hr : roomB x = 96) (he : e1 + e2 ≤ 2700) :
    wq (f_Big_setProduct fu (nx B) (B + x) (B + y) (B + w) σ) (fun r => bgs B r.2 (zup Z x (v * u)) ∧ sbf B σ r.2) :=
  bo_mul (m1 := e1 / 30 + 1) (m2 := e2 / 30 + 1) hfu h hx hy hw hyx hwx hv hu (szl_of hs1 (by omega)) (szl_of hs2 (by omega)) (by omega) (by omega) (by omega)
theorem bo_copyb {B x y e : Nat} {σ : rr_M} {Z : Nat → Option Int} {v : Int} (h : bgs B σ Z) (hx : isB x = true) (hy : isB y = true) (hv : Z y = some v) (hs : szb e v) (he : e < 30 * roomB x) : wq (f_Big_copy (nx B) (B + x) (B + y) σ) (fun r => bgs B r.2 (zup Z x v) ∧ sbf B σ r.2) := bo_copy h hx hy hv (szl_of hs he)
theorem bo_addb {fu B x y e1 : Nat} {σ : rr_M} {Z : Nat → Option Int} {v w : Int} {F : Int64} (hfu : 400 < fu) (h : bgs B σ Z) (hx : isB x = true) (hy : isB y = true) (hv : Z x = some v) (hw : Z y = some w) (hs1 : szb e1 v) (hs2 : szb e1 w) (hr : roomB x = 96) (he : e1 ≤ 2700) (hF1 : -1073741824 ≤ F.toInt) (hF2 : F.toInt ≤ 1073741824) :
    wq (f_Big_addTimes fu (nx B) (B + x) (B + y) F (nI 0) σ) (fun r => bgs B r.2 (zup Z x (v + F.toInt * w)) ∧ sbf B σ r.2) := by
  refine wq_mo (bo_add (m1 := e1 / 30 + 1) (m2 := e1 / 30 + 1) (u := 0) hfu h hx hy (fun _ => rfl) hv hw (szl_of hs1 (by omega)) (szl_of hs2 (by omega)) (by omega) (by omega) (by omega) hF1 hF2) ?_
  intro r hr2
  rw [Int.pow_zero, Int.mul_one] at hr2
  exact hr2
theorem crf_sbf {B : Nat} {σ σ' : rr_M} (h : crf B σ) (hs : sbf B σ σ') : crf B σ' := crf_of h hs.1
-- the inner loop
theorem cfr_in {fu B k top dB eO eB : Nat} {σ0 : rr_M} {Z0 : Nat → Option Int} {od C : Pl} {w : Int32} {ob : Int} (hfu : 400 < fu) (hc0 : crf B σ0) (hk10 : k < 10) (htop : top < 9) (hdB : dB ≤ top) (h72 : Z0 72 = some (od top)) (h76 : Z0 76 = some ob) (hC : ∀ j, j < 9 → Z0 (nb k j) = some (C j)) (sO : ∀ j, szb eO (od j)) (sB : ∀ j, szb eB (C j)) (sb : szb eB ob) (hw : w.toInt = 1 ∨ w.toInt = -1) (hee : eO + eB ≤ 2600) {kk : rr_M → Option (Unit × rr_M)} {Q : Unit × rr_M → Prop}
    (hk : ∀ (σ : rr_M) (Z : Nat → Option Int), bgs B σ Z → sbf B σ0 σ → (∀ s, s ≠ 68 → s ≠ 70 → (∀ j, j < 9 → s ≠ rs j) → Z s = Z0 s) → (∀ j, j < top → Z (rs j) = some (od j * ob - w.toInt * (if top - dB ≤ j then od top * C (j - (top - dB)) else 0))) → wq (kk σ) Q) :
    ∀ (f i : Nat) (σ : rr_M) (Z : Nat → Option Int), i ≤ top → top + 1 - i ≤ f → bgs B σ Z → sbf B σ0 σ → (∀ s, s ≠ 68 → s ≠ 70 → (∀ j, j < 9 → s ≠ rs j) → Z s = Z0 s) → (∀ j, j < top → Z (rs j) = some (if j < i then od j * ob - w.toInt * (if top - dB ≤ j then od top * C (j - (top - dB)) else 0) else od j)) →
      wq (l_Seq_formRest_135 fu (nx B) (B + 63) (nI (9 * k)) (nI dB) w (nI top) f (nI i) σ kk) Q
  | 0, i, σ, Z, h1, h2, _, _, _, _ => by omega
  | f + 1, i, σ, Z, h1, h2, hZ, hF, hO, hN => by
    have hc := crf_sbf hc0 hF
    rw [l_Seq_formRest_135]
    by_cases hit : i = top
    · subst hit
      refine wq_ip (nI_le (Nat.le_refl _) (by omega)) (hk σ Z hZ hF hO (fun j hj => ?_))
      rw [hN j hj, if_pos hj]
    · have c0 : ¬ nI top ≤ nI i := nI_ge (by omega) (by omega)
      have mi : rr_n (nI i) = i := n_nI (by omega)
      have ix : rr_ix (nI i) (nx B (B + 67)) = true := by rw [nx_67]; exact ix_nI (by omega) (by omega)
      have Zi : Z (rs i) = some (od i) := by rw [hN i (by omega), if_neg (by omega)]
      have Z76 : Z 76 = some ob := by rw [hO 76 (by omega) (by omega) (fun j hj => by unfold rs; omega)]; exact h76
      have Z72 : Z 72 = some (od top) := by rw [hO 72 (by omega) (by omega) (fun j hj => by unfold rs; omega)]; exact h72
      have ZC : ∀ j, j < 9 → Z (nb k j) = some (C j) := fun j hj => by rw [hO _ (by unfold nb; omega) (by unfold nb; omega) (fun j' hj' => by unfold nb rs; omega)]; exact hC j hj
      dsimp only [rr_lt, rr_jn]
      rw [if_neg c0, sq_5 hc, sq_4 hc, mi, sq_rs hc (show i < 9 by omega), sq_9 hc]
      refine wq_ip ix ?_
      refine wq_bd (wq_mo (bo_mulb (x := 68) (y := rs i) (w := 76) (e1 := eO) (e2 := eB) hfu hZ (by decide) (isB_rs (by omega)) (by decide) (by unfold rs; omega) (by omega) Zi Z76 (sO i) sb (by decide) (by omega)) ?_)
      rintro r1 ⟨L1, F1⟩
      have hc1 := crf_sbf hc F1
      -- the last steps
      have fin : ∀ (σ2 : rr_M) (Z2 : Nat → Option Int) (V : Int), bgs B σ2 Z2 → sbf B σ0 σ2 → (∀ s, s ≠ 68 → s ≠ 70 → Z2 s = Z s) → Z2 68 = some V → szb (eO + eB + 1) V → V = od i * ob - w.toInt * (if top - dB ≤ i then od top * C (i - (top - dB)) else 0) →
          wq (if rr_ix (nI i) (nx B (mg_r σ2 (B + 63) 4)) = true then rr_bd (f_Big_copy (nx B) (mg_r σ2 (mg_r σ2 (B + 63) 4) i) (mg_r σ2 (B + 63) 5) σ2) fun _ σ_41 => l_Seq_formRest_135 fu (nx B) (B + 63) (nI (9 * k)) (nI dB) w (nI top) f (nI i + 1) σ_41 kk else none) Q := by
        intro σ2 Z2 V L2 F2 O2 V2 sV hV
        have hc2 := crf_sbf hc0 F2
        rw [sq_4 hc2, sq_rs hc2 (show i < 9 by omega), sq_5 hc2]
        refine wq_ip ix (wq_bd (wq_mo (bo_copyb (x := rs i) (y := 68) (e := eO + eB + 1) L2 (isB_rs (by omega)) (by decide) V2 sV (by rw [room_rs (by omega)]; omega)) ?_))
        rintro r3 ⟨L3, F3⟩
        rw [nI_1]
        refine cfr_in hfu hc0 hk10 htop hdB h72 h76 hC sO sB sb hw hee hk f (i + 1) r3.2 _ (by omega) (by omega) L3 (sbf_tr F2 F3) ?_ ?_
        · intro s s1 s2 s3
          rw [zup_n (s3 i (by omega)), O2 s s1 s2]
          exact hO s s1 s2 s3
        · intro j hj
          by_cases hji : j = i
          · subst hji
            rw [zup_s, hV, if_pos (show j < j + 1 by omega)]
          · rw [zup_n (by unfold rs; omega), O2 _ (by unfold rs; omega) (by unfold rs; omega), hN j hj]
            by_cases hj2 : j < i
            · rw [if_pos hj2, if_pos (show j < i + 1 by omega)]
            · rw [if_neg hj2, if_neg (show ¬ j < i + 1 by omega)]
      have sprod : szb (eO + eB) (od i * ob) := szb_mul (sO i) sb
      rw [nI_sub hdB]
      by_cases hneg : i < top - dB
      · rw [if_pos (nI_lt hneg (by omega))]
        refine fin r1.2 _ (od i * ob) L1 (sbf_tr hF F1) (fun s s1 s2 => zup_n s1) (zup_s _ _ _) (szb_mono sprod (by omega)) ?_
        rw [if_neg (by omega)]
        omega
      · have c2 : ¬ nI i < nI (top - dB) := nI_nlt (by omega) (by omega)
        have em : nI (9 * k) + nI i - nI (top - dB) = nI (9 * k + (i - (top - dB))) := by rw [nI_add, nI_sub (by omega)]; congr 1; omega
        have hb9 : i - (top - dB) < 9 := by omega
        have mk : rr_n (nI (9 * k + (i - (top - dB)))) = 9 * k + (i - (top - dB)) := n_nI (by omega)
        have ixk : rr_ix (nI (9 * k + (i - (top - dB)))) (nx B (B + 64)) = true := by rw [nx_64]; exact ix_nI (by omega) (by omega)
        rw [if_neg c2, em, sq_6 hc1, sq_7 hc1, sq_0 hc1, mk, sq_nb hc1 hk10 hb9]
        refine wq_ip ixk (wq_bd (wq_mo (bo_mulb (x := 70) (y := 72) (w := nb k (i - (top - dB))) (e1 := eO) (e2 := eB) hfu L1 (by decide) (by decide) (isB_nb hk10 hb9) (by omega) (by unfold nb; omega) (by rw [zup_n (by omega)]; exact Z72) (by rw [zup_n (by unfold nb; omega)]; exact ZC _ hb9) (sO _) (sB _) (by decide) (by omega)) ?_))
        rintro r2 ⟨L2, F2⟩
        have hc2 := crf_sbf hc1 F2
        have hwn := pm_neg hw
        have w64 : ((-w).toInt64).toInt = -w.toInt := by rw [Jvm.Kit.i64_of_i32]; exact hwn.1
        rw [sq_5 hc2, sq_6 hc2]
        refine wq_bd (wq_mo (bo_addb (x := 68) (y := 70) (e1 := eO + eB) (F := (-w).toInt64) hfu L2 (by decide) (by decide) (by rw [zup_n (by omega), zup_s]) (zup_s _ _ _) sprod (szb_mul (sO _) (sB _)) (by decide) (by omega) (by rw [w64]; omega) (by rw [w64]; omega)) ?_)
        rintro r3 ⟨L3, F3⟩
        rw [w64] at L3
        refine fin r3.2 _ (od i * ob + -w.toInt * (od top * C (i - (top - dB)))) L3 (sbf_tr hF (sbf_tr F1 (sbf_tr F2 F3))) (fun s s1 s2 => ?_) (zup_s _ _ _) ?_ ?_
        · rw [zup_n s1, zup_n s2, zup_n s1]
        · refine szb_add sprod ?_
          have e9 : szb (eO + eB) (od top * C (i - (top - dB))) := szb_mul (sO _) (sB _)
          rcases hw with h | h
          · rw [h, show (-1 : Int) * (od top * C (i - (top - dB))) = -(od top * C (i - (top - dB))) by omega]; exact szb_neg e9
          · rw [h, show -(-1 : Int) * (od top * C (i - (top - dB))) = od top * C (i - (top - dB)) by omega]; exact e9
        · rw [if_pos (by omega)]
          grind
