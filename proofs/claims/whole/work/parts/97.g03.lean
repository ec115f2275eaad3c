/-! ===== a text, read by the class: the loop ===== -/
theorem tkn_x {B n p s k : Nat} {σ : rr_M} {b : Nat → Nat} {m : Bool} {f : Int} {G : Nat → Int} {w : Int64} (h : tps B σ s m f k G) (hb : tpb p s f k G) (hp : p < n) (hn : n ≤ 200) (hd : 48 ≤ b p ∧ b p ≤ 57) (hw : w.toInt = vC b (nE b (n - p) p - p) p 0) (hw0 : 0 ≤ w.toInt) (hw1 : w.toInt ≤ 100000001) : wq (f_Tap_takeNumber (B + 58) w σ) (fun y => tfr B σ y.2 ∧ ((y.1 = 0 ∧ ∃ s' m' f' k' G', tps B y.2 s' m' f' k' G' ∧ tpb (nE b (n - p) p) s' f' k' G' ∧ CP b n p s m f k G = CP b n (nE b (n - p) p) s' m' f' k' G') ∨ (y.1 = 1 ∧ CP b n p s m f k G = (1 + 8 * p, zzG)) ∨ (y.1 = 2 ∧ CP b n p s m f k G = (2 + 8 * p, zzG)))) := by
  obtain ⟨t1, t2, t3, t4, t5⟩ := h
  obtain ⟨u1, u2, u3, u4, u5⟩ := hb
  have e1 := nE_1 hp hd
  have G1 : ∀ j, j < 9 → abd (100000000 * nE b (n - p) p) (G j) := fun j hj => abd_w (u5 j hj) (Nat.mul_le_mul_left _ (by omega))
  have ns : ∀ c : Nat, c < 256 → s ≠ c → ¬ nI s = nI c := fun c hc' h hh => h ((nI_eq (by omega) (by omega)).mp hh)
  have z8 : (100000000 : Int64).toInt = 100000000 := by decide
  have zz8 : (8 : Int64).toInt = 8 := by decide
  have cpu := CP_u b n p s m f k G
  unfold cpB at cpu
  rw [if_neg (by omega), if_pos hd, ← hw] at cpu
  unfold f_Tap_takeNumber
  dsimp only [rr_lt, rr_jn]
  rw [t1]
  have one : s = 0 ∨ s = 1 → wq (if w ≤ 100000000 then some ((0 : Int32), ms_i (ms_l σ (B + 58) 6 w) (B + 58) 4 2) else some (2, ms_i (ms_l σ (B + 58) 6 w) (B + 58) 4 2)) (fun y => tfr B σ y.2 ∧ ((y.1 = 0 ∧ ∃ s' m' f' k' G', tps B y.2 s' m' f' k' G' ∧ tpb (nE b (n - p) p) s' f' k' G' ∧ CP b n p s m f k G = CP b n (nE b (n - p) p) s' m' f' k' G') ∨ (y.1 = 1 ∧ CP b n p s m f k G = (1 + 8 * p, zzG)) ∨ (y.1 = 2 ∧ CP b n p s m f k G = (2 + 8 * p, zzG)))) := by
    intro hs
    rw [if_pos hs] at cpu
    have F : tfr B σ (ms_i (ms_l σ (B + 58) 6 w) (B + 58) 4 2) := tfr_tr tfr_l (tfr_i (by omega))
    by_cases c : w ≤ 100000000
    · refine wq_ip c (wq_some ⟨F, Or.inl ⟨rfl, 2, m, w.toInt, k, G, ⟨si_s _ _ _ _, ?_, ?_, ?_, fun j hj => ?_⟩, ⟨by omega, u2, hw0, ?_, G1⟩, ?_⟩⟩)
      · dsimp only
        rw [si_n (Or.inr (by omega)), sl_i]
        exact t2
      · show (mg_l (ms_l σ (B + 58) 6 w) (B + 58) 6).toInt = _
        rw [sl_s]
      · dsimp only
        rw [si_n (Or.inr (by omega)), sl_i]
        exact t4
      · show (mg_l (ms_l σ (B + 58) 6 w) (B + 60) j).toInt = _
        rw [rr_oL (by omega)]
        exact t5 j hj
      · rw [j_le, z8] at c
        exact c
      · rw [j_le, z8] at c
        rw [if_pos c] at cpu
        exact cpu
    · refine wq_in c (wq_some ⟨F, Or.inr (Or.inr ⟨rfl, ?_⟩)⟩)
      rw [j_le, z8] at c
      rw [if_neg c] at cpu
      exact cpu
  by_cases h0 : s = 0
  · exact wq_ip (by rw [h0]; rfl) (one (Or.inl h0))
  refine wq_in (ns 0 (by omega) h0) ?_
  by_cases h1 : s = 1
  · exact wq_ip (by rw [h1]; rfl) (one (Or.inr h1))
  refine wq_in (ns 1 (by omega) h1) ?_
  rw [if_neg (by omega)] at cpu
  by_cases h4 : s = 4
  · rw [if_pos h4] at cpu
    refine wq_ip (by rw [h4]; rfl) ?_
    have F : ∀ v, tfr B σ (ms_i (ms_i σ (B + 58) 7 v) (B + 58) 4 5) := fun v => tfr_tr (tfr_i (by omega)) (tfr_i (by omega))
    by_cases c : w ≤ 8
    · have c' := c
      rw [j_le, zz8] at c'
      rw [if_pos c'] at cpu
      refine wq_ip c (wq_some ⟨F _, Or.inl ⟨rfl, 5, m, f, w.toInt.toNat, G, ⟨si_s _ _ _ _, ?_, t3, ?_, t5⟩, ⟨by omega, by omega, u3, u4, G1⟩, cpu⟩⟩)
      · dsimp only
        rw [si_n (Or.inr (by omega)), si_n (Or.inr (by omega))]
        exact t2
      · dsimp only
        rw [si_n (Or.inr (by omega)), si_s]
        apply i_inj
        have : rr_mnl w 8 = w := by
          unfold rr_mnl
          rw [if_neg]
          rw [j_lt, zz8]
          omega
        rw [this, Jvm.Kit.i32_of_i64 (by omega) (by omega), nI_toInt (by omega)]
        omega
    · refine wq_in c (wq_some ⟨F _, Or.inr (Or.inr ⟨rfl, ?_⟩)⟩)
      rw [j_le, zz8] at c
      rw [if_neg c] at cpu
      exact cpu
  · rw [if_neg h4] at cpu
    exact wq_in (ns 4 (by omega) h4) (wq_some ⟨tfr_rf, Or.inr (Or.inl ⟨rfl, cpu⟩)⟩)
theorem e8p (c p : Nat) : nI c + 8 * nI p = nI (c + 8 * p) := by
  rw [show (8 : Int32) = nI 8 from rfl, nI_mul, nI_add]
theorem wq_ii {α : Type} {c d : Prop} [Decidable c] [Decidable d] {x y : Option α} {Q : α → Prop} (h : d) (hx : wq x Q) : wq (if c then x else if d then x else y) Q := by
  rw [if_pos h, ite_self]
  exact hx
theorem prs_x {fu B n : Nat} {σ0 : rr_M} {b : Nat → Nat} {R : Nat × (Nat → Int)} (hfu : 400 < fu) (hc : crf B σ0) (ht : txx B σ0 b n) :
    ∀ (fl p u : Nat) (σ : rr_M) (s : Nat) (m : Bool) (f : Int) (k : Nat) (G : Nat → Int), u ≤ p → p ≤ n → n - p < fl → tfr B σ0 σ → tps B σ s m f k G → tpb p s f k G → CP b n p s m f k G = R →
      wq (l_Tap_parseTokens_4 fu (nx B) (B + 58) fl (nI p) (nI u) σ (fun σ_27 => Option.bind (f_Tap_isTermWhole (B + 58) σ_27) fun r_28 => if r_28 = 0 then (some (1 + (8 * (mg_i σ_27 (B + 58) 1)), σ_27)) else rr_bd (f_Tap_addTerm (nx B) (B + 58) σ_27) fun _ σ_31 => some (0, σ_31))) (fun y => tfr B σ0 y.2 ∧ y.1 = nI R.1 ∧ (R.1 = 0 → ∀ j, j < 9 → (mg_l y.2 (B + 60) j).toInt = R.2 j))
  | 0, p, u, σ, s, m, f, k, G, hu, h1, h2, _, _, _, _ => by omega
  | fl + 1, p, u, σ, s, m, f, k, G, hu, h1, h2, hF, hS, hb, hR => by
    have hc1 : crf B σ := crf_of hc hF.1
    have ht1 := txx_f ht hF
    obtain ⟨t1, t2, t3⟩ := ht1
    have r0 : mg_r σ (B + 58) 0 = B + 59 := by rw [hc1 58 0 (by omega), rx_58.1]
    have r3 : mg_r σ (B + 58) 3 = B + 60 := by rw [hc1 58 3 (by omega), rx_58.2]
    rw [l_Tap_parseTokens_4, t2]
    by_cases hpn : p = n
    · subst hpn
      refine wq_ii (nI_le (Nat.le_refl _) (by omega)) ?_
      rw [whl_x hb.1 hS.1, show (1 : Int32) + 8 * nI p = nI (1 + 8 * p) from e8p 1 p]
      rw [CP_end] at hR
      refine wq_ob (wq_some ?_)
      by_cases hwh : s = 2 ∨ s = 3 ∨ s = 5
      · rw [if_pos hwh] at hR ⊢
        refine wq_in (by decide) (wq_bd (wq_mo (adt_x r3 hS hb.2.1 ⟨hb.2.2.1, hb.2.2.2.1⟩ (fun j hj => abd_w (hb.2.2.2.2 j hj) (by omega))) ?_))
        rintro ⟨_, σ1⟩ ⟨F1, I1, L1, V1⟩
        rw [← hR]
        exact wq_some ⟨tfr_tr hF F1, rfl, fun _ => V1⟩
      · rw [if_neg hwh] at hR ⊢
        rw [← hR]
        exact wq_ip rfl (wq_some ⟨hF, rfl, fun h => absurd h (by omega)⟩)
    refine wq_in (show ¬ (200 : Int32) ≤ nI u from nI_ge (b := 200) (by omega) (by omega)) ?_
    refine wq_in (nI_ge (by omega) (by omega)) (wq_in (show ¬ (200 : Int32) ≤ nI p from nI_ge (b := 200) (by omega) (by omega)) ?_)
    obtain ⟨e1, e2⟩ := t3 p (by omega)
    dsimp only [rr_lt, rr_jn]
    rw [r0, nx_59, n_nI (show p < 2 ^ 31 by omega), e1, dig_x e2, show nI u + 1 = nI (u + 1) from nI_1 u]
    refine wq_ip (ix_nI (by omega) (by omega)) (wq_ob (wq_some ?_))
    by_cases hd : 48 ≤ b p ∧ b p ≤ 57
    · rw [if_pos hd]
      have n1 := nE_1 (show p < n by omega) hd
      obtain ⟨w, w1, w2, w3, w4⟩ := val_x (fu := fu) (σ := σ) (p := p) (e := nE b (n - p) p) hfu r0 ⟨t1, t2, t3⟩ (by omega) n1.2 (fun i x y => nE_dg b (n - p) p i x y)
      refine wq_in (by decide) ?_
      rw [ned_x hfu r0 ⟨t1, t2, t3⟩ (by omega) hd]
      refine wq_ob (wq_some (wq_ob (wq_some (wq_in (by decide) ?_))))
      rw [w1]
      refine wq_ob (wq_some (wq_bd (wq_mo (tkn_x hS hb (show p < n by omega) t1 hd w2 w3 w4) ?_)))
      rintro ⟨r, σ1⟩ ⟨F1, q⟩
      dsimp only at F1 q ⊢
      rcases q with ⟨e, s', m', f', k', G', S', B', C'⟩ | ⟨e, C'⟩ | ⟨e, C'⟩
      · subst e
        exact wq_ip rfl (prs_x hfu hc ht fl _ (u + 1) σ1 s' m' f' k' G' (by omega) n1.2 (by omega) (tfr_tr hF F1) S' B' (C'.symm.trans hR))
      · subst e
        rw [C'] at hR
        refine wq_in (by decide) (wq_some ⟨tfr_tr hF F1, ?_, fun h => ?_⟩)
        · rw [← hR]; exact e8p 1 p
        · rw [← hR] at h; exact absurd h (show ¬ 1 + 8 * p = 0 by omega)
      · subst e
        rw [C'] at hR
        refine wq_in (by decide) (wq_some ⟨tfr_tr hF F1, ?_, fun h => ?_⟩)
        · rw [← hR]; exact e8p 2 p
        · rw [← hR] at h; exact absurd h (show ¬ 2 + 8 * p = 0 by omega)
    · rw [if_neg hd]
      refine wq_ip rfl (wq_ob (wq_some (wq_ip rfl ?_)))
      have ne : ∀ c : Nat, c < 256 → b p ≠ c → ¬ nI (b p) = nI c := fun c hc' h hh => h ((nI_eq (by omega) (by omega)).mp hh)
      rw [nI_1]
      have blank : b p = 32 ∨ b p = 10 → wq (if (0 : Int32) = 0 then l_Tap_parseTokens_4 fu (nx B) (B + 58) fl (nI (p + 1)) (nI (u + 1)) σ (fun σ_27 => Option.bind (f_Tap_isTermWhole (B + 58) σ_27) fun r_28 => if r_28 = 0 then (some (1 + (8 * (mg_i σ_27 (B + 58) 1)), σ_27)) else rr_bd (f_Tap_addTerm (nx B) (B + 58) σ_27) fun _ σ_31 => some (0, σ_31)) else some (0 + 8 * nI p, σ)) (fun y => tfr B σ0 y.2 ∧ y.1 = nI R.1 ∧ (R.1 = 0 → ∀ j, j < 9 → (mg_l y.2 (B + 60) j).toInt = R.2 j)) := by
        intro hw
        refine wq_ip rfl (prs_x hfu hc ht fl (p + 1) (u + 1) σ s m f k G (by omega) (by omega) (by omega) hF hS ⟨hb.1, hb.2.1, hb.2.2.1, hb.2.2.2.1, fun j hj => abd_w (hb.2.2.2.2 j hj) (by omega)⟩ ?_)
        rw [← hR]
        exact (CP_bl (by omega) hw).symm
      by_cases h32 : b p = 32
      · exact wq_ip (by rw [h32]; rfl) (blank (Or.inl h32))
      refine wq_in (ne 32 (by omega) h32) ?_
      by_cases h10 : b p = 10
      · exact wq_ip (by rw [h10]; rfl) (blank (Or.inr h10))
      refine wq_in (ne 10 (by omega) h10) (wq_bd (wq_mo (tkb_x r3 hS hb (show p < n by omega) t1 e2 hd (by omega)) ?_))
      rintro ⟨r, σ1⟩ ⟨F1, q⟩
      dsimp only at F1 q ⊢
      rcases q with ⟨e, s', m', f', k', G', S', B', C'⟩ | ⟨e, C'⟩
      · subst e
        exact wq_ip rfl (prs_x hfu hc ht fl _ (u + 1) σ1 s' m' f' k' G' (by omega) (by omega) (by omega) (tfr_tr hF F1) S' B' (C'.symm.trans hR))
      · subst e
        rw [C'] at hR
        refine wq_in (by decide) (wq_some ⟨tfr_tr hF F1, ?_, fun h => ?_⟩)
        · rw [← hR]; exact e8p 1 p
        · rw [← hR] at h; exact absurd h (show ¬ 1 + 8 * p = 0 by omega)
theorem sxt_l {fu B : Nat} {σ0 : rr_M} (hr : mg_r σ0 (B + 58) 3 = B + 60) {kk : rr_M → Option (Unit × rr_M)} {Q : Unit × rr_M → Prop} (hk : ∀ σ, tfr B σ0 σ → mg_i σ = mg_i σ0 → (∀ j, j < 9 → (mg_l σ (B + 60) j).toInt = 0) → wq (kk σ) Q) :
    ∀ (fl k : Nat) (σ : rr_M), k ≤ 9 → 10 - k ≤ fl → tfr B σ0 σ → mg_i σ = mg_i σ0 → (∀ j, j < k → (mg_l σ (B + 60) j).toInt = 0) → wq (l_Tap_startText_2 fu (nx B) (B + 58) fl (nI k) σ kk) Q
  | 0, k, σ, h1, h2, _, _, _ => by omega
  | fl + 1, k, σ, h1, h2, hF, hI, hV => by
    rw [l_Tap_startText_2]
    by_cases h9 : k = 9
    · subst h9
      exact wq_ip (by decide) (hk σ hF hI hV)
    refine wq_in (show ¬ (9 : Int32) ≤ nI k from nI_ge (b := 9) (by omega) (by omega)) ?_
    dsimp only [rr_lt]
    rw [hF.1, hr, n_nI (show k < 2 ^ 31 by omega), nI_1, nx_60]
    refine wq_ip (ix_nI (by omega) (by omega)) (sxt_l hr hk fl (k + 1) _ (by omega) (by omega) (tfr_tr hF tfr_6) hI (fun j hj => ?_))
    by_cases hjk : j = k
    · subst hjk; rw [sl_s]; rfl
    · rw [sl_n (Or.inr hjk)]; exact hV j (by omega)
/-- what reading says at last: 0, or the fault -/
noncomputable def rdF (n : Nat) (R : Nat × (Nat → Int)) : Nat := if R.1 = 0 then (@ite _ (∀ j, j < 9 → b8 (R.2 j)) (Classical.propDecidable _) 0 (3 + 8 * n)) else R.1
theorem rdF_0 {n : Nat} {R : Nat × (Nat → Int)} : rdF n R = 0 ↔ R.1 = 0 ∧ ∀ j, j < 9 → b8 (R.2 j) := by
  unfold rdF
  by_cases h : R.1 = 0
  · rw [if_pos h]
    by_cases h2 : ∀ j, j < 9 → b8 (R.2 j)
    · rw [if_pos h2]; exact ⟨fun _ => ⟨h, h2⟩, fun _ => rfl⟩
    · rw [if_neg h2]; exact ⟨fun hh => absurd hh (by omega), fun hh => absurd hh.2 h2⟩
  · rw [if_neg h]; exact ⟨fun hh => absurd hh h, fun hh => absurd hh.1 h⟩
theorem prx_ok {fu B n : Nat} {σ : rr_M} {b : Nat → Nat} (hfu : 400 < fu) (hc : crf B σ) (ht : txx B σ b n) (hs : ∀ G R, CP b n 0 0 false 1 0 G = R → R.1 < 2000) : wq (f_Tap_parse fu (nx B) (B + 58) σ) (fun y => tfr B σ y.2 ∧ mg_i y.2 (B + 58) 2 = nI (rdF n (CP b n 0 0 false 1 0 zzG)) ∧ (rdF n (CP b n 0 0 false 1 0 zzG) = 0 → ∀ j, j < 9 → (mg_l y.2 (B + 60) j).toInt = (CP b n 0 0 false 1 0 zzG).2 j)) := by
  have r3 : mg_r σ (B + 58) 3 = B + 60 := by rw [hc 58 3 (by omega), rx_58.2]
  obtain ⟨R, hR⟩ : ∃ R, R = CP b n 0 0 false 1 0 zzG := ⟨_, rfl⟩
  have hR2 := hs _ _ hR.symm
  rw [← hR]
  unfold f_Tap_parse f_Tap_startText
  refine wq_bd (sxt_l r3 ?_ fu 0 σ (by omega) (by omega) tfr_rf rfl (fun j hj => absurd hj (by omega)))
  intro σ1 F1 I1 V1
  refine wq_bd (wq_mo (stt_x (s := 0) (k := 0) (m := false) (f := 0) (m' := false) (G := zzG) V1 rfl) ?_)
  rintro ⟨_, σ2⟩ ⟨F2, S2⟩
  dsimp only [rr_lt] at F2 S2 ⊢
  obtain ⟨a1, a2, a3, a4, a5⟩ := S2
  have F3 : tfr B σ (ms_i σ2 (B + 58) 4 0) := tfr_tr F1 (tfr_tr F2 (tfr_i (by omega)))
  have S3 : tps B (ms_i σ2 (B + 58) 4 0) 0 false 1 0 zzG := ⟨si_s _ _ _ _, by rw [si_n (Or.inr (by omega))]; exact a2, a3, by rw [si_n (Or.inr (by omega))]; exact a4, a5⟩
  refine wq_some ?_
  unfold f_Tap_parseTokens
  refine wq_bd (wq_mo (prs_x (R := R) hfu hc ht fu 0 0 _ 0 false 1 0 zzG (by omega) (by omega) (by have := ht.1; omega) F3 S3 ⟨by omega, by omega, by omega, by omega, fun j _ => Nat.zero_le _⟩ hR.symm) ?_)
  rintro ⟨r, σ4⟩ ⟨F4, E4, V4⟩
  dsimp only at F4 E4 V4 ⊢
  subst E4
  have F5 : tfr B σ (ms_i σ4 (B + 58) 2 (nI R.1)) := tfr_tr F4 (tfr_i (by omega))
  rw [si_s]
  by_cases h0 : R.1 = 0
  · have V := V4 h0
    have ht5 := txx_f ht F5
    rw [show mg_r (ms_i σ4 (B + 58) 2 (nI R.1)) (B + 58) 3 = B + 60 by rw [F5.1]; exact r3, ht5.2.1]
    refine wq_ip (by rw [h0]; rfl) (wq_ob (wq_mo (fit_ok (G := R.2) hfu (nx_60 B) (by omega) V) ?_))
    have hfl : (∀ j, j < 9 → fl1 R.2 j) ↔ ∀ j, j < 9 → b8 (R.2 j) := by
      unfold fl1
      exact ⟨fun h j hj => by have := h j hj; rw [if_neg (by omega)] at this; exact this, fun h j hj => by rw [if_neg (by omega)]; exact h j hj⟩
    rintro q (⟨e, h⟩ | ⟨e, h⟩)
    · subst e
      refine wq_in (by decide) (wq_some ⟨F5, ?_, fun _ => V⟩)
      rw [si_s, rdF_0.mpr ⟨h0, hfl.mp h⟩, h0]
    · subst e
      have e3 : rdF n R = 3 + 8 * n := by
        unfold rdF
        rw [if_pos h0, if_neg (fun hh => h (hfl.mpr hh))]
      refine wq_ip rfl (wq_some ⟨tfr_tr F5 (tfr_i (by omega)), ?_, fun hh => absurd hh (by rw [e3]; omega)⟩)
      rw [si_s, e3]
      exact e8p 3 n
  · refine wq_in (nI_ne0 (by omega) (by omega)) (wq_some ⟨F5, ?_, fun hh => absurd (rdF_0.mp hh).1 h0⟩)
    rw [si_s]
    unfold rdF
    rw [if_neg h0]
theorem cp_le {b : Nat → Nat} {n : Nat} : ∀ (fl p : Nat), p ≤ n → ∀ s m f k G, (cp b n fl p s m f k G).1 ≤ 2 + 8 * n
  | 0, p, _, s, m, f, k, G => Nat.zero_le _
  | fl + 1, p, hp, s, m, f, k, G => by
    show (cpB (cp b n fl) b n p s m f k G).1 ≤ 2 + 8 * n
    unfold cpB
    by_cases h1 : n ≤ p
    · rw [if_pos h1]
      split
      · exact Nat.zero_le _
      · show 1 + 8 * n ≤ _; omega
    rw [if_neg h1]
    have g := fun s m f k G => cp_le (b := b) (n := n) fl (p + 1) (by omega) s m f k G
    by_cases h2 : 48 ≤ b p ∧ b p ≤ 57
    · have e := nE_1 (show p < n by omega) h2
      have g2 := fun s m f k G => cp_le (b := b) fl (nE b (n - p) p) e.2 s m f k G
      rw [if_pos h2]
      split
      · split
        · exact g2 _ _ _ _ _
        · show 2 + 8 * p ≤ _; omega
      · split
        · split
          · exact g2 _ _ _ _ _
          · show 2 + 8 * p ≤ _; omega
        · show 1 + 8 * p ≤ _; omega
    rw [if_neg h2]
    split
    · exact g _ _ _ _ _
    split
    · exact g _ _ _ _ _
    split
    · exact g _ _ _ _ _
    split
    · exact g _ _ _ _ _
    split
    · exact g _ _ _ _ _
    · show 1 + 8 * p ≤ _; omega
theorem CP_le {b : Nat → Nat} {n p s : Nat} {m : Bool} {f : Int} {k : Nat} {G : Nat → Int} (hp : p ≤ n) : (CP b n p s m f k G).1 ≤ 2 + 8 * n := cp_le _ p hp _ _ _ _ _
