/-! ===== the model: signs far out ===== -/
theorem lds_ok {C first k i s M : Nat} {σ : rr_M} {Y : Nat → Int} {p q : Pl} (hY : LM C σ Y) (h : gdp p q s) (he : ends p q M) (hM : M ≤ 10) (hR : mrs C first (M - 1) σ Y p q) (hi : i < M) (hf : first + 11 ≤ 48) : f_Mod_leadSign (nm C) C (nI (first + i)) σ = some (sgI (cc p q i (dgg (mm p q i)))) := by
  obtain ⟨a1, a2, a3⟩ := hR i (by omega)
  obtain ⟨l1, l2, l3⟩ := ends_sg h he hi
  have h8 := dgg_lt (mm p q i)
  have m1 : rr_n (nI (first + i)) = first + i := n_nI (by omega)
  have sl := slt_lt (r := first + i) (k := dgg (mm p q i)) (by omega) (by omega)
  have m2 : rr_n (nI (slt (first + i) (dgg (mm p q i)))) = slt (first + i) (dgg (mm p q i)) := n_nI (by omega)
  unfold f_Mod_leadSign
  dsimp only [rr_lt]
  rw [mrf_7 hY.1, mrf_6 hY.1, mrf_3 hY.1, m1, a2, slot_ok]
  simp only [ix7 (C := C) (show first + i < 48 by omega), ix6 (C := C) (show first + i < 48 by omega), if_true, Option.bind, ix3 (C := C) sl, m2, mo_sign hY sl, a1 _ (show dgg (mm p q i) < 9 by omega)]
  congr 1
  apply i_inj
  have hpm := pm_mul (show (mg_i σ (C + 7) (first + i)).toInt = 1 ∨ (mg_i σ (C + 7) (first + i)).toInt = -1 by rw [a3]; exact l1) (sgI_pm l2.1)
  rw [hpm.1, a3, sgI_t, sgI_t]
  show _ = (lo p q i * mm p q i (dgg (mm p q i))).sign
  rw [Int.sign_mul]
  rcases l1 with e | e <;> rw [e] <;> rfl
theorem odd_nI {n : Nat} (h : n < 9) : (nI n - nI n / 2 * 2 = 1) ↔ n % 2 = 1 := by
  rw [show (2 : Int32) = nI 2 from rfl, nI_div (by omega) (by omega), nI_mul, nI_sub (by omega), show (1 : Int32) = nI 1 from rfl, nI_eq (by omega) (by omega)]
  omega
theorem cho_l {fu C first s M : Nat} {σ : rr_M} {Y : Nat → Int} {p q : Pl} {left : Int32} (hl : left = 0 ∨ left = 1) (hY : LM C σ Y) (h : gdp p q s) (he : ends p q M) (hM : M ≤ 10) (hR : mrs C first (M - 1) σ Y p q) (hf : first + 11 ≤ 48) {kk : Int32 → Option Int32} {Q : Int32 → Prop}
    (hk : wq (kk (nI (if left = 0 then chR p q (M - 1) else chL p q (M - 1)))) Q) :
    ∀ (f k : Nat) (had : Int32), k ≤ M → M + 1 - k ≤ f → (k = 0 → had = 0) → (0 < k → had.toInt = if left = 0 then sgR p q (k - 1) else sgL p q (k - 1)) → wq (l_Mod_changesOut_9 fu (nm C) C (nI first) (nI M) left σ f had (nI (if left = 0 then chR p q (k - 1) else chL p q (k - 1))) (nI k) kk) Q
  | 0, k, had, h1, h2, _, _ => by omega
  | f + 1, k, had, h1, h2, hh0, hh1 => by
    rw [l_Mod_changesOut_9]
    by_cases hkM : k = M
    · subst hkM
      exact wq_ip (nI_le (Nat.le_refl _) (by omega)) hk
    · have c0 : ¬ nI M ≤ nI k := nI_ge (by omega) (by omega)
      obtain ⟨a1, a2, a3⟩ := hR k (by omega)
      obtain ⟨l1, l2, l3⟩ := ends_sg h he (show k < M by omega)
      have h8 := dgg_lt (mm p q k)
      have m1 : rr_n (nI (first + k)) = first + k := n_nI (by omega)
      have hls := lds_ok (k := 0) hY h he hM hR (show k < M by omega) hf
      dsimp only [rr_lt, rr_jn]
      rw [if_neg c0, nI_add, hls]
      -- what follows for a sign
      have step : ∀ v : Int32, v.toInt = (if left = 0 then sgR p q k else sgL p q k) →
          wq (if had = 0 then l_Mod_changesOut_9 fu (nm C) C (nI first) (nI M) left σ f v (nI (if left = 0 then chR p q (k - 1) else chL p q (k - 1)) + 0) (nI k + 1) kk else
            if v = had then l_Mod_changesOut_9 fu (nm C) C (nI first) (nI M) left σ f v (nI (if left = 0 then chR p q (k - 1) else chL p q (k - 1)) + 0) (nI k + 1) kk else
              l_Mod_changesOut_9 fu (nm C) C (nI first) (nI M) left σ f v (nI (if left = 0 then chR p q (k - 1) else chL p q (k - 1)) + 1) (nI k + 1) kk) Q := by
        intro v hv
        have goon : ∀ t : Nat, t = (if left = 0 then chR p q k else chL p q k) → wq (l_Mod_changesOut_9 fu (nm C) C (nI first) (nI M) left σ f v (nI t) (nI (k + 1)) kk) Q := by
          intro t ht
          rw [ht]
          have := cho_l (fu := fu) hl hY h he hM hR hf hk f (k + 1) v (by omega) (by omega) (fun hh => by omega) (fun _ => by rw [Nat.add_sub_cancel]; exact hv)
          rw [Nat.add_sub_cancel] at this
          exact this
        have z0 : ∀ n : Nat, nI n + 0 = nI n := fun n => Int32.add_zero _
        rw [z0, nI_1, nI_1]
        by_cases hk0 : k = 0
        · subst hk0
          rw [if_pos (hh0 rfl)]
          refine goon _ ?_
          rfl
        · have hne : ¬ had = 0 := by
            intro hh
            have := hh1 (by omega)
            obtain ⟨_, _, l3'⟩ := ends_sg h he (show k - 1 < M by omega)
            rw [hh, show (0 : Int32).toInt = 0 from rfl] at this
            split at this
            · omega
            · unfold sgL at this
              rw [m1_pow] at this
              split at this <;> omega
          rw [if_neg hne]
          obtain ⟨j, rfl⟩ : ∃ j, k = j + 1 := ⟨k - 1, by omega⟩
          rw [Nat.add_sub_cancel] at *
          have hhj := hh1 (by omega)
          have hiff : v = had ↔ (if left = 0 then sgR p q (j + 1) = sgR p q j else sgL p q (j + 1) = sgL p q j) := by
            constructor
            · intro hh
              rw [hh, hhj] at hv
              split
              · rename_i hl0; rw [if_pos hl0, if_pos hl0] at hv; exact hv.symm
              · rename_i hl0; rw [if_neg hl0, if_neg hl0] at hv; exact hv.symm
            · intro hh
              apply i_inj
              rw [hv, hhj]
              split
              · rename_i hl0; rw [if_pos hl0] at hh; exact hh
              · rename_i hl0; rw [if_neg hl0] at hh; exact hh
          by_cases hvh : v = had
          · rw [if_pos hvh]
            have := hiff.mp hvh
            refine goon _ ?_
            split
            · rename_i hl0; rw [if_pos hl0] at this; simp only [chR]; rw [if_pos this]; rfl
            · rename_i hl0; rw [if_neg hl0] at this; simp only [chL]; rw [if_pos this]; rfl
          · rw [if_neg hvh]
            have hn := fun hh => hvh (hiff.mpr hh)
            refine goon _ ?_
            split
            · rename_i hl0; rw [if_pos hl0] at hn; simp only [chR]; rw [if_neg hn]
            · rename_i hl0; rw [if_neg hl0] at hn; simp only [chL]; rw [if_neg hn]
      have hRt : (sgI (cc p q k (dgg (mm p q k)))).toInt = sgR p q k := sgI_t _
      rcases hl with hl0 | hl1
      · subst hl0
        rw [if_pos rfl]
        refine wq_ob (wq_some ?_)
        exact step _ (by rw [if_pos rfl]; exact hRt)
      · subst hl1
        rw [if_neg (show ¬ (1 : Int32) = 0 by decide), mrf_6 hY.1, m1, a2]
        refine wq_ip (ix6 (by omega)) ?_
        by_cases hodd : dgg (mm p q k) % 2 = 1
        · rw [if_pos ((odd_nI (by omega)).mpr hodd)]
          refine wq_ob (wq_some ?_)
          refine step _ ?_
          rw [if_neg (show ¬ (1 : Int32) = 0 by decide), (pm_neg (by rw [hRt]; exact l3)).1, hRt]
          unfold sgL
          rw [m1_pow, if_neg (by omega)]
          omega
        · rw [if_neg (fun hh => hodd ((odd_nI (by omega)).mp hh))]
          refine wq_ob (wq_some ?_)
          refine step _ ?_
          rw [if_neg (show ¬ (1 : Int32) = 0 by decide), hRt]
          unfold sgL
          rw [m1_pow, if_pos (by omega)]
          omega
theorem cho_ok {fu C first s M : Nat} {σ : rr_M} {Y : Nat → Int} {p q : Pl} {left : Int32} (hfu : 400 < fu) (hl : left = 0 ∨ left = 1) (hY : LM C σ Y) (h : gdp p q s) (he : ends p q M) (hM : M ≤ 10) (hR : mrs C first (M - 1) σ Y p q) (hf : first + 11 ≤ 48) : wq (f_Mod_changesOut fu (nm C) C (nI first) (nI M) left σ) (fun v => v = nI (if left = 0 then chR p q (M - 1) else chL p q (M - 1))) := by
  unfold f_Mod_changesOut
  have := cho_l (fu := fu) (kk := fun v => some v) (Q := fun v => v = nI (if left = 0 then chR p q (M - 1) else chL p q (M - 1))) hl hY h he hM hR hf (wq_some rfl) fu 0 0 (by omega) (by omega) (fun _ => rfl) (fun hh => absurd hh (by omega))
  have e : nI (if left = 0 then chR p q (0 - 1) else chL p q (0 - 1)) = 0 := by split <;> rfl
  rw [e] at this
  exact this
-- the sign of a row at a place
/-- the value of f at x / 2^s, times 2^(s d) -/
def hv (f : Pl) (x : Int) (w : Int) (d : Nat) : Nat → Int
  | 0 => f d
  | m + 1 => hv f x w d m * x + f (d - (m + 1)) * w ^ (m + 1)
theorem hv_bit {f : Pl} {x w : Int} {d ef ex ew : Nat} (hf : ∀ t, szb ef (f t)) (hx : szb ex x) (hw : szb ew w) (hxw : ew ≤ ex) : ∀ m, szb (ef + m * (ex + 1)) (hv f x w d m)
  | 0 => by simpa [hv] using hf d
  | m + 1 => by
    have ih := hv_bit (d := d) hf hx hw hxw m
    have e : ef + (m + 1) * (ex + 1) = (ef + m * (ex + 1) + ex) + 1 := by rw [Nat.succ_mul]; omega
    rw [e, hv]
    refine szb_add (szb_mul ih hx) (szb_mono (szb_mul (hf _) (szb_pow hw (m + 1))) ?_)
    have h1 : ew * (m + 1) ≤ ex * (m + 1) := Nat.mul_le_mul_right _ hxw
    have h2 : m * (ex + 1) = ex * m + m := by rw [Nat.mul_add, Nat.mul_one, Nat.mul_comm]
    have h3 : ex * (m + 1) = ex * m + ex := Nat.mul_succ _ _
    omega
theorem sga_l {fu C row d e : Nat} {σ0 : rr_M} {Y0 : Nat → Int} {f : Pl} {x w : Int} (hfu : 70000 < fu) (hrow : row < 48) (hd : d < 9) (hrw : rwY Y0 row f) (h15 : Y0 15 = x) (h16 : Y0 16 = w) (sf : ∀ t, szb 600 (f t)) (sx : szb e x) (sw : szb e w) (hee : 600 + d * (e + 1) ≤ 3000) {kk : rr_M → Option (Int32 × rr_M)} {Q : Int32 × rr_M → Prop}
    (hk : ∀ (σ : rr_M) (Y : Nat → Int), LM C σ Y → frm C σ0 σ → (∀ s, s ≠ 17 → s ≠ 18 → s ≠ 19 → Y s = Y0 s) → Y 18 = hv f x w d d → wq (kk σ) Q) :
    ∀ (fl t : Nat) (σ : rr_M) (Y : Nat → Int), t ≤ d → t < fl → LM C σ Y → frm C σ0 σ → (∀ s, s ≠ 17 → s ≠ 18 → s ≠ 19 → Y s = Y0 s) → Y 17 = w ^ (d - t) → Y 18 = hv f x w d (d - t) →
      wq (l_Mod_signAt_39 fu (nm C) C (nI row) fl (nI t - 1) σ kk) Q
  | 0, t, σ, Y, h1, h2, _, _, _, _, _ => by omega
  | fl + 1, 0, σ, Y, h1, h2, hY, hF, hO, h17, h18 => by
    rw [l_Mod_signAt_39, if_pos (by decide)]
    exact hk σ Y hY hF hO h18
  | fl + 1, t + 1, σ, Y, h1, h2, hY, hF, hO, h17, h18 => by
    have e1 : nI (t + 1) - 1 = nI t := nI_pred t
    have c1 : ¬ nI t < 0 := nI_pos (by omega)
    have e2 : nI t + (-1) = nI t - 1 := (Int32.sub_eq_add_neg (nI t) 1).symm
    have y16 : Y 16 = w := by rw [hO 16 (by omega) (by omega) (by omega)]; exact h16
    have y15 : Y 15 = x := by rw [hO 15 (by omega) (by omega) (by omega)]; exact h15
    obtain ⟨m, hm⟩ : ∃ m, m = d - (t + 1) := ⟨_, rfl⟩
    rw [← hm] at h17 h18
    have hmd : (m + 1) * (e + 1) ≤ d * (e + 1) := Nat.mul_le_mul_right _ (by omega)
    have hsm : (m + 1) * (e + 1) = m * (e + 1) + (e + 1) := Nat.succ_mul _ _
    have hem : e * (m + 1) ≤ (m + 1) * (e + 1) := by rw [Nat.mul_comm e]; exact Nat.mul_le_mul_left _ (by omega)
    have hem2 : e * m + e = e * (m + 1) := (Nat.mul_succ e m).symm
    rw [l_Mod_signAt_39, e1, if_neg c1]
    refine wq_bd (wq_mo (mo_mulb (t := 19) (a := 17) (b := 16) (e1 := e * m) (e2 := e) hfu hY (by omega) (by omega) (by omega) (by omega) (by omega) (by rw [h17]; exact szb_pow sw m) (by rw [y16]; exact sw) (by omega)) ?_)
    rintro r1 ⟨L1, F1⟩
    refine wq_bd (wq_mo (mo_copies (t := 17) (s := 19) hfu L1 (by omega) (by omega)) ?_)
    rintro r2 ⟨L2, F2⟩
    rw [yup_s, h17, y16, ← Int.pow_succ] at L2
    have a18 : yup (yup Y 19 (w ^ (m + 1))) 17 (w ^ (m + 1)) 18 = hv f x w d m := by rw [yup_n (by omega), yup_n (by omega)]; exact h18
    have a15 : yup (yup Y 19 (w ^ (m + 1))) 17 (w ^ (m + 1)) 15 = x := by rw [yup_n (by omega), yup_n (by omega)]; exact y15
    have L2' : LM C r2.2 (yup (yup Y 19 (w ^ (m + 1))) 17 (w ^ (m + 1))) := L2
    refine wq_bd (wq_mo (mo_mulb (t := 19) (a := 18) (b := 15) (e1 := 600 + m * (e + 1)) (e2 := e) hfu L2' (by omega) (by omega) (by omega) (by omega) (by omega) (by rw [a18]; exact hv_bit sf sx sw (Nat.le_refl _) m) (by rw [a15]; exact sx) (by omega)) ?_)
    rintro r3 ⟨L3, F3⟩
    rw [a18, a15] at L3
    rw [slot_ok]
    have sl := slt_ge row t
    have at_ : yup (yup (yup Y 19 (w ^ (m + 1))) 17 (w ^ (m + 1))) 19 (hv f x w d m * x) (slt row t) = f t := by
      rw [yup_n (by omega), yup_n (by omega), yup_n (by omega), hO _ (by omega) (by omega) (by omega)]
      exact hrw t (by omega)
    have a17 : yup (yup (yup Y 19 (w ^ (m + 1))) 17 (w ^ (m + 1))) 19 (hv f x w d m * x) 17 = w ^ (m + 1) := by rw [yup_n (by omega), yup_s]
    refine wq_ob (wq_some (wq_bd (wq_mo (mo_mulb (t := 18) (b := 17) (e1 := 600) (e2 := e * (m + 1)) hfu L3 (by omega) (slt_lt hrow (show t < 9 by omega)) (by omega) (by omega) (by omega) (by rw [at_]; exact sf t) (by rw [a17]; exact szb_pow sw (m + 1)) (by omega)) ?_)))
    rintro r4 ⟨L4, F4⟩
    rw [at_, a17] at L4
    have b19 : yup (yup (yup (yup Y 19 (w ^ (m + 1))) 17 (w ^ (m + 1))) 19 (hv f x w d m * x)) 18 (f t * w ^ (m + 1)) 19 = hv f x w d m * x := by rw [yup_n (by omega), yup_s]
    have b18 : yup (yup (yup (yup Y 19 (w ^ (m + 1))) 17 (w ^ (m + 1))) 19 (hv f x w d m * x)) 18 (f t * w ^ (m + 1)) 18 = f t * w ^ (m + 1) := yup_s _ _ _
    refine wq_bd (wq_mo (mo_addb (t := 18) (a := 19) (b := 18) (by_ := 1) (e := 1) (e1 := 3000) hfu L4 (by omega) (by omega) (by omega) (Or.inl rfl) rfl (by rw [b19]; exact szb_mono (szb_mul (hv_bit sf sx sw (Nat.le_refl _) m) sx) (by omega)) (by rw [b18]; exact szb_mono (szb_mul (sf t) (szb_pow sw (m + 1))) (by omega)) (by omega)) ?_)
    rintro r5 ⟨L5, F5⟩
    rw [b19, b18] at L5
    dsimp only [rr_lt]
    rw [e2]
    refine sga_l hfu hrow hd hrw h15 h16 sf sx sw hee hk fl t r5.2 _ (by omega) (by omega) L5 (frm_tr hF (frm_tr F1 (frm_tr F2 (frm_tr F3 (frm_tr F4 F5))))) ?_ ?_ ?_
    · intro s s1 s2 s3
      rw [yup_n s2, yup_n s2, yup_n s3, yup_n s1, yup_n s3]
      exact hO s s1 s2 s3
    · rw [yup_n (by omega), yup_n (by omega), yup_n (by omega), yup_s]
      congr 1
      omega
    · rw [yup_s, show d - t = m + 1 by omega, hv, show d - (m + 1) = t by omega]
      omega
