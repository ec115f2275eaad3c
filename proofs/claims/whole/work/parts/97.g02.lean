/-! ===== a text, read by the class ===== -/
def txx (B : Nat) (σ : rr_M) (b : Nat → Nat) (n : Nat) : Prop := n ≤ 200 ∧ mg_i σ (B + 58) 1 = nI n ∧ ∀ i, i < n → mg_i σ (B + 59) i = nI (b i) ∧ b i < 256
def tfr (B : Nat) (σ0 σ : rr_M) : Prop := mg_r σ = mg_r σ0 ∧ (∀ a, a ≠ B + 58 → mg_i σ a = mg_i σ0 a) ∧ mg_i σ (B + 58) 1 = mg_i σ0 (B + 58) 1 ∧ (∀ a, a ≠ B + 58 → a ≠ B + 60 → mg_l σ a = mg_l σ0 a)
theorem tfr_rf {B : Nat} {σ : rr_M} : tfr B σ σ := ⟨rfl, fun _ _ => rfl, rfl, fun _ _ _ => rfl⟩
theorem tfr_tr {B : Nat} {σ σ' σ'' : rr_M} (h : tfr B σ σ') (h' : tfr B σ' σ'') : tfr B σ σ'' := ⟨h'.1.trans h.1, fun a x => (h'.2.1 a x).trans (h.2.1 a x), h'.2.2.1.trans h.2.2.1, fun a x y => (h'.2.2.2 a x y).trans (h.2.2.2 a x y)⟩
theorem tfr_i {B k : Nat} {σ : rr_M} {v : Int32} (hk : k ≠ 1) : tfr B σ (ms_i σ (B + 58) k v) := ⟨rfl, fun a h => si_row h, si_n (Or.inr (fun h => hk h.symm)), fun _ _ _ => rfl⟩
theorem tfr_l {B k : Nat} {σ : rr_M} {v : Int64} : tfr B σ (ms_l σ (B + 58) k v) := ⟨rfl, fun _ _ => rfl, rfl, fun a h _ => rr_oL h⟩
theorem tfr_6 {B k : Nat} {σ : rr_M} {v : Int64} : tfr B σ (ms_l σ (B + 60) k v) := ⟨rfl, fun _ _ => rfl, rfl, fun a _ h => rr_oL h⟩
theorem txx_f {B n : Nat} {σ σ' : rr_M} {b : Nat → Nat} (h : txx B σ b n) (F : tfr B σ σ') : txx B σ' b n := ⟨h.1, F.2.2.1.trans h.2.1, fun i hi => by rw [F.2.1 (B + 59) (by omega)]; exact h.2.2 i hi⟩
def tps (B : Nat) (σ : rr_M) (s : Nat) (m : Bool) (f : Int) (k : Nat) (G : Nat → Int) : Prop := mg_i σ (B + 58) 4 = nI s ∧ mg_i σ (B + 58) 5 = (if m = true then 1 else 0) ∧ (mg_l σ (B + 58) 6).toInt = f ∧ mg_i σ (B + 58) 7 = nI k ∧ ∀ j, j < 9 → (mg_l σ (B + 60) j).toInt = G j
/-- bounds of a reader's standing at place p -/
def tpb (p s : Nat) (f : Int) (k : Nat) (G : Nat → Int) : Prop := s ≤ 5 ∧ k ≤ 8 ∧ 0 ≤ f ∧ f ≤ 100000000 ∧ ∀ j, j < 9 → abd (100000000 * p) (G j)
theorem nx_60 (B : Nat) : nx B (B + 60) = 9 := by
  rw [nx_at]
  decide +kernel
theorem dig_x {c : Nat} (hc : c < 256) : f_Tap_isDigit (nI c) = some (if 48 ≤ c ∧ c ≤ 57 then 1 else 0) := by
  have b0 : rr_b1 0 = true := by decide
  have b1 : rr_b1 1 = true := by decide
  unfold f_Tap_isDigit
  rw [b0, b1]
  by_cases h1 : c < 48
  · rw [if_pos (show nI c < 48 from nI_lt (b := 48) h1 (by omega)), if_pos rfl, if_neg (by omega)]
  · rw [if_neg (show ¬ nI c < 48 from nI_nlt (b := 48) (by omega) (by omega))]
    by_cases h2 : 57 < c
    · rw [if_pos (show (57 : Int32) < nI c from nI_lt (a := 57) h2 (by omega)), if_pos rfl, if_neg (by omega)]
    · rw [if_neg (show ¬ (57 : Int32) < nI c from nI_nlt (a := 57) (by omega) (by omega)), if_pos rfl, if_pos (by omega)]
theorem whl_x {B s : Nat} {σ : rr_M} (hs : s ≤ 5) (h : mg_i σ (B + 58) 4 = nI s) : f_Tap_isTermWhole (B + 58) σ = some (if s = 2 ∨ s = 3 ∨ s = 5 then 1 else 0) := by
  unfold f_Tap_isTermWhole
  dsimp only [rr_jn]
  rw [h]
  have h6 : s = 0 ∨ s = 1 ∨ s = 2 ∨ s = 3 ∨ s = 4 ∨ s = 5 := by omega
  rcases h6 with e | e | e | e | e | e <;> subst e <;> decide
theorem adt_x {B s k : Nat} {σ : rr_M} {m : Bool} {f : Int} {G : Nat → Int} (hr : mg_r σ (B + 58) 3 = B + 60) (h : tps B σ s m f k G) (hk : k ≤ 8) (hf : 0 ≤ f ∧ f ≤ 100000000) (hG : ∀ j, j < 9 → abd 1000000000000 (G j)) : wq (f_Tap_addTerm (nx B) (B + 58) σ) (fun y => tfr B σ y.2 ∧ mg_i y.2 = mg_i σ ∧ mg_l y.2 (B + 58) = mg_l σ (B + 58) ∧ ∀ j, j < 9 → (mg_l y.2 (B + 60) j).toInt = adT G m f k j) := by
  obtain ⟨t1, t2, t3, t4, t5⟩ := h
  unfold f_Tap_addTerm
  dsimp only [rr_lt, rr_jn]
  rw [t4, hr, n_nI (show k < 2 ^ 31 by omega), t2, nx_60]
  refine wq_in (nI_pos (by omega)) (wq_in (show ¬ (9 : Int32) ≤ nI k from nI_ge (b := 9) (by omega) (by omega)) (wq_ip (ix_nI (by omega) (by omega)) ?_))
  have v := t5 k (by omega)
  have g := hG k (by omega)
  unfold abd at g
  have fin : ∀ x : Int64, x.toInt = (if m = true then -f else f) → wq (if rr_ix (nI k) 9 = true then some ((), ms_l σ (B + 60) k (mg_l σ (B + 60) k + x)) else none) (fun y => tfr B σ y.2 ∧ mg_i y.2 = mg_i σ ∧ mg_l y.2 (B + 58) = mg_l σ (B + 58) ∧ ∀ j, j < 9 → (mg_l y.2 (B + 60) j).toInt = adT G m f k j) := by
    intro x hx
    refine wq_ip (ix_nI (by omega) (by omega)) (wq_some ⟨tfr_6, rfl, rr_oL (by omega), fun j hj => ?_⟩)
    have hxb : -100000000 ≤ x.toInt ∧ x.toInt ≤ 100000000 := by
      rw [hx]
      split <;> omega
    unfold adT
    by_cases hjk : j = k
    · subst hjk
      dsimp only
      rw [sl_s, if_pos rfl, j_add, v, hx] <;> rw [v] <;> omega
    · dsimp only
      rw [sl_n (Or.inr hjk), if_neg hjk]
      exact t5 j hj
  cases m with
  | false => exact wq_ip rfl (fin _ (by rw [t3]; rfl))
  | true =>
    refine wq_in (by decide) (fin _ ?_)
    rw [Jvm.Kit.i64_neg (by rw [t3]; omega), t3]
    rfl
theorem stt_x {B s k : Nat} {σ : rr_M} {m m' : Bool} {f : Int} {G : Nat → Int} (h : ∀ j, j < 9 → (mg_l σ (B + 60) j).toInt = G j) {v : Int32} (hv : v = if m' = true then 1 else 0) : wq (f_Tap_startTerm (B + 58) v σ) (fun y => tfr B σ y.2 ∧ tps B y.2 1 m' 1 0 G) := by
  have hb : rr_b1 v = true := by rw [hv]; split <;> decide
  unfold f_Tap_startTerm
  dsimp only [rr_lt]
  refine wq_ip hb (wq_some ⟨?_, ?_⟩)
  · exact tfr_tr (tfr_i (by omega)) (tfr_tr tfr_l (tfr_tr (tfr_i (by omega)) (tfr_i (by omega))))
  · refine ⟨si_s _ _ _ _, ?_, ?_, ?_, fun j hj => ?_⟩
    · dsimp only
      rw [si_n (Or.inr (by omega)), si_n (Or.inr (by omega)), sl_i, si_s]
      exact hv
    · show (mg_l (ms_l _ (B + 58) 6 1) (B + 58) 6).toInt = 1
      rw [sl_s]
      rfl
    · dsimp only
      rw [si_n (Or.inr (by omega)), si_s]
      rfl
    · show (mg_l (ms_l _ (B + 58) 6 1) (B + 60) j).toInt = G j
      rw [rr_oL (by omega)]
      exact h j hj
theorem ned_x {fu B n p : Nat} {σ : rr_M} {b : Nat → Nat} (hfu : 400 < fu) (hr : mg_r σ (B + 58) 0 = B + 59) (ht : txx B σ b n) (hp : p < n) (hd : 48 ≤ b p ∧ b p ≤ 57) : f_Tap_numberEnd fu (nx B) (B + 58) (nI p) σ = some (nI (nE b (n - p) p)) := by
  obtain ⟨t1, t2, t3⟩ := ht
  have key : ∀ (fl m q : Nat), q + m = n → m < fl → l_Tap_numberEnd_4 fu (nx B) (B + 58) σ fl (nI q) (fun v => some v) = some (nI (nE b m q)) := by
    intro fl
    induction fl with
    | zero => intro m q h1 h2; omega
    | succ fl ih =>
      intro m q h1 h2
      rw [l_Tap_numberEnd_4, t2]
      by_cases hm : m = 0
      · subst hm
        rw [if_pos (nI_le (by omega) (by omega))]
        rfl
      obtain ⟨m', rfl⟩ : ∃ m', m = m' + 1 := ⟨m - 1, by omega⟩
      obtain ⟨e1, e2⟩ := t3 q (by omega)
      rw [if_neg (nI_ge (by omega) (by omega)), if_neg (show ¬ (200 : Int32) ≤ nI q from nI_ge (b := 200) (by omega) (by omega))]
      dsimp only [rr_lt]
      rw [hr, nx_59, ix_nI (show q < 200 by omega) (by omega), if_pos rfl, n_nI (show q < 2 ^ 31 by omega), e1, dig_x e2]
      dsimp only [Option.bind]
      simp only [nE]
      by_cases h : 48 ≤ b q ∧ b q ≤ 57
      · rw [if_pos h, if_pos h, if_neg (show ¬ (1 : Int32) = 0 by decide), nI_1]
        exact ih m' (q + 1) (by omega) (by omega)
      · rw [if_neg h, if_neg h, if_pos rfl]
  unfold f_Tap_numberEnd
  dsimp only [rr_lt]
  rw [nI_1, key fu (n - (p + 1)) (p + 1) (by omega) (by omega)]
  obtain ⟨m, hm⟩ : ∃ m, n - p = m + 1 := ⟨n - p - 1, by omega⟩
  rw [hm]
  simp only [nE]
  rw [if_pos hd, show n - (p + 1) = m by omega]
theorem val_x {fu B n p e : Nat} {σ : rr_M} {b : Nat → Nat} (hfu : 400 < fu) (hr : mg_r σ (B + 58) 0 = B + 59) (ht : txx B σ b n) (hp : p ≤ e) (he : e ≤ n) (hd : ∀ i, p ≤ i → i < e → 48 ≤ b i ∧ b i ≤ 57) : ∃ w : Int64, f_Tap_valueOf fu (nx B) (B + 58) (nI p) (nI e) σ = some w ∧ w.toInt = vC b (e - p) p 0 ∧ 0 ≤ w.toInt ∧ w.toInt ≤ 100000001 := by
  obtain ⟨t1, t2, t3⟩ := ht
  have z1 : (100000001 : Int64).toInt = 100000001 := by decide
  have z48 : (48 : Int64).toInt = 48 := by decide
  have z10 : (10 : Int64).toInt = 10 := by decide
  have key : ∀ (fl m q : Nat) (v : Int64), q + m = e → p ≤ q → m < fl → 0 ≤ v.toInt → v.toInt ≤ 100000001 → ∃ w : Int64, l_Tap_valueOf_5 fu (nx B) (B + 58) (nI e) σ fl v (nI q) (fun v => some v) = some w ∧ w.toInt = vC b m q v.toInt ∧ 0 ≤ w.toInt ∧ w.toInt ≤ 100000001 := by
    intro fl
    induction fl with
    | zero => intro m q v h1 _ h2; omega
    | succ fl ih =>
      intro m q v h1 hpq h2 v0 v1
      rw [l_Tap_valueOf_5]
      by_cases hm : m = 0
      · subst hm
        rw [if_pos (nI_le (by omega) (by omega))]
        exact ⟨v, rfl, rfl, v0, v1⟩
      obtain ⟨m', rfl⟩ : ∃ m', m = m' + 1 := ⟨m - 1, by omega⟩
      obtain ⟨e1, e2⟩ := t3 q (by omega)
      have d := hd q hpq (by omega)
      rw [if_neg (nI_ge (by omega) (by omega)), if_neg (show ¬ (200 : Int32) ≤ nI q from nI_ge (b := 200) (by omega) (by omega))]
      dsimp only [rr_lt]
      rw [hr, nx_59, ix_nI (show q < 200 by omega) (by omega), if_pos rfl, n_nI (show q < 2 ^ 31 by omega), e1, nI_1]
      have tb : (nI (b q)).toInt64.toInt = (b q : Int) := by rw [Int32.toInt_toInt64, nI_toInt (by omega)]
      have m1 : (v * 10).toInt = v.toInt * 10 := by
        rw [j_mul, z10] <;> rw [z10] <;> omega
      have m2 : (v * 10 + (nI (b q)).toInt64).toInt = v.toInt * 10 + (b q : Int) := by
        rw [j_add, m1, tb] <;> rw [m1, tb] <;> omega
      have m3 : (v * 10 + (nI (b q)).toInt64 - 48).toInt = v.toInt * 10 + (b q : Int) - 48 := by
        rw [j_sub, m2, z48] <;> rw [m2, z48] <;> omega
      have m4 : (rr_mnl (v * 10 + (nI (b q)).toInt64 - 48) 100000001).toInt = (if 100000001 < v.toInt * 10 + (b q : Int) - 48 then 100000001 else v.toInt * 10 + (b q : Int) - 48) := by
        unfold rr_mnl
        by_cases h : (100000001 : Int64) < v * 10 + (nI (b q)).toInt64 - 48
        · rw [if_pos h, z1]
          rw [j_lt, z1, m3] at h
          rw [if_pos h]
        · rw [if_neg h, m3]
          rw [j_lt, z1, m3] at h
          rw [if_neg h]
      obtain ⟨w, w1, w2, w3, w4⟩ := ih m' (q + 1) _ (by omega) (by omega) (by omega) (show 0 ≤ (rr_mnl (v * 10 + (nI (b q)).toInt64 - 48) 100000001).toInt by rw [m4]; split <;> omega) (by rw [m4]; split <;> omega)
      refine ⟨w, w1, ?_, w3, w4⟩
      rw [w2, m4]
      rfl
  unfold f_Tap_valueOf
  exact key fu (e - p) p 0 (by omega) (Nat.le_refl _) (by omega) (by decide) (by decide)
section TKB
variable {fu B n p s k : Nat} {σ : rr_M} {b : Nat → Nat} {m : Bool} {f : Int} {G : Nat → Int}
theorem adT_b {p k : Nat} {m : Bool} {f : Int} {G : Nat → Int} (hf : 0 ≤ f ∧ f ≤ 100000000) (hG : ∀ j, j < 9 → abd (100000000 * p) (G j)) : ∀ j, j < 9 → abd (100000000 * (p + 1)) (adT G m f k j) := fun j hj => by
  have h := hG j hj
  unfold adT
  by_cases e : j = k
  · rw [if_pos e]
    exact abd_w (abd_a h (show abd 100000000 (if m = true then -f else f) by unfold abd; split <;> omega)) (by omega)
  · rw [if_neg e]
    exact abd_w h (by omega)
/-- a byte that is no digit and no blank -/
theorem tkb_x (hr : mg_r σ (B + 58) 3 = B + 60) (h : tps B σ s m f k G) (hb : tpb p s f k G) (hp : p < n) (hn : n ≤ 200) (hc : b p < 256) (hd : ¬ (48 ≤ b p ∧ b p ≤ 57)) (hw : ¬ (b p = 32 ∨ b p = 10)) : wq (f_Tap_takeByte (nx B) (B + 58) (nI (b p)) σ) (fun y => tfr B σ y.2 ∧ ((y.1 = 0 ∧ ∃ s' m' f' k' G', tps B y.2 s' m' f' k' G' ∧ tpb (p + 1) s' f' k' G' ∧ CP b n p s m f k G = CP b n (p + 1) s' m' f' k' G') ∨ (y.1 = 1 ∧ CP b n p s m f k G = (1 + 8 * p, zzG)))) := by
  have h0 := h
  obtain ⟨t1, t2, t3, t4, t5⟩ := h
  have hb0 := hb
  obtain ⟨u1, u2, u3, u4, u5⟩ := hb
  have G1 : ∀ j, j < 9 → abd (100000000 * (p + 1)) (G j) := fun j hj => abd_w (u5 j hj) (by omega)
  have ne : ∀ c : Nat, c < 256 → b p ≠ c → ¬ nI (b p) = nI c := fun c hc' h hh => h ((nI_eq (by omega) (by omega)).mp hh)
  have ns : ∀ c : Nat, c < 256 → s ≠ c → ¬ nI s = nI c := fun c hc' h hh => h ((nI_eq (by omega) (by omega)).mp hh)
  have cpu := CP_u b n p s m f k G
  unfold cpB at cpu
  rw [if_neg (by omega), if_neg hd, if_neg hw] at cpu
  unfold f_Tap_takeByte
  dsimp only [rr_lt, rr_jn]
  rw [t1]
  -- the last of the roads: plus or minus behind a whole term, or none
  have last : ¬ (b p = 120 ∧ s ≤ 2) → ¬ (b p = 94 ∧ s = 3) → ¬ (b p = 45 ∧ s = 0) → wq (if nI (b p) = 43 then (Option.bind (f_Tap_isTermWhole (B + 58) σ) fun r_1 => if r_1 = 0 then some (1, σ) else rr_bd (f_Tap_addTerm (nx B) (B + 58) σ) fun _ σ_4 => if nI (b p) = 45 then (rr_bd (f_Tap_startTerm (B + 58) 1 σ_4) fun _ σ_7 => some (0, σ_7)) else (rr_bd (f_Tap_startTerm (B + 58) 0 σ_4) fun _ σ_7 => some (0, σ_7))) else if nI (b p) = 45 then (Option.bind (f_Tap_isTermWhole (B + 58) σ) fun r_1 => if r_1 = 0 then some (1, σ) else rr_bd (f_Tap_addTerm (nx B) (B + 58) σ) fun _ σ_4 => if nI (b p) = 45 then (rr_bd (f_Tap_startTerm (B + 58) 1 σ_4) fun _ σ_7 => some (0, σ_7)) else (rr_bd (f_Tap_startTerm (B + 58) 0 σ_4) fun _ σ_7 => some (0, σ_7))) else some ((1 : Int32), σ)) (fun y => tfr B σ y.2 ∧ ((y.1 = 0 ∧ ∃ s' m' f' k' G', tps B y.2 s' m' f' k' G' ∧ tpb (p + 1) s' f' k' G' ∧ CP b n p s m f k G = CP b n (p + 1) s' m' f' k' G') ∨ (y.1 = 1 ∧ CP b n p s m f k G = (1 + 8 * p, zzG)))) := by
    intro x1 x2 x3
    rw [if_neg x1, if_neg x2, if_neg x3] at cpu
    rw [whl_x u1 t1]
    have go : (b p = 43 ∨ b p = 45) → wq (Option.bind (some (if s = 2 ∨ s = 3 ∨ s = 5 then (1 : Int32) else 0)) fun r_1 => if r_1 = 0 then some (1, σ) else rr_bd (f_Tap_addTerm (nx B) (B + 58) σ) fun _ σ_4 => if nI (b p) = 45 then (rr_bd (f_Tap_startTerm (B + 58) 1 σ_4) fun _ σ_7 => some (0, σ_7)) else (rr_bd (f_Tap_startTerm (B + 58) 0 σ_4) fun _ σ_7 => some ((0 : Int32), σ_7))) (fun y => tfr B σ y.2 ∧ ((y.1 = 0 ∧ ∃ s' m' f' k' G', tps B y.2 s' m' f' k' G' ∧ tpb (p + 1) s' f' k' G' ∧ CP b n p s m f k G = CP b n (p + 1) s' m' f' k' G') ∨ (y.1 = 1 ∧ CP b n p s m f k G = (1 + 8 * p, zzG)))) := by
      intro hpm
      refine wq_ob (wq_some ?_)
      by_cases hwh : s = 2 ∨ s = 3 ∨ s = 5
      · rw [if_pos hwh]
        rw [if_pos ⟨hpm, hwh⟩] at cpu
        refine wq_in (by decide) (wq_bd (wq_mo (adt_x hr h0 u2 ⟨u3, u4⟩ (fun j hj => abd_w (u5 j hj) (by omega))) ?_))
        rintro ⟨_, σ1⟩ ⟨F1, I1, L1, V1⟩
        dsimp only at F1 I1 L1 V1 ⊢
        have bd := adT_b (m := m) (k := k) ⟨u3, u4⟩ u5
        by_cases h45 : b p = 45
        · rw [h45] at cpu
          refine wq_ip (by rw [h45]; rfl) (wq_bd (wq_mo (stt_x (s := s) (k := k) (m := m) (f := f) (m' := true) V1 rfl) ?_))
          rintro ⟨_, σ2⟩ ⟨F2, S2⟩
          exact wq_some ⟨tfr_tr F1 F2, Or.inl ⟨rfl, 1, true, 1, 0, _, S2, ⟨by omega, by omega, by omega, by omega, bd⟩, cpu⟩⟩
        · refine wq_in (ne 45 (by omega) h45) (wq_bd (wq_mo (stt_x (s := s) (k := k) (m := m) (f := f) (m' := false) V1 rfl) ?_))
          rintro ⟨_, σ2⟩ ⟨F2, S2⟩
          rw [decide_eq_false h45] at cpu
          exact wq_some ⟨tfr_tr F1 F2, Or.inl ⟨rfl, 1, false, 1, 0, _, S2, ⟨by omega, by omega, by omega, by omega, bd⟩, cpu⟩⟩
      · rw [if_neg hwh]
        rw [if_neg (fun hh => hwh hh.2)] at cpu
        exact wq_ip rfl (wq_some ⟨tfr_rf, Or.inr ⟨rfl, cpu⟩⟩)
    by_cases h43 : b p = 43
    · exact wq_ip (by rw [h43]; rfl) (go (Or.inl h43))
    · refine wq_in (ne 43 (by omega) h43) ?_
      by_cases h45 : b p = 45
      · exact wq_ip (by rw [h45]; rfl) (go (Or.inr h45))
      · rw [if_neg (by omega)] at cpu
        exact wq_in (ne 45 (by omega) h45) (wq_some ⟨tfr_rf, Or.inr ⟨rfl, cpu⟩⟩)
  by_cases hx : b p = 120
  · refine wq_ip (by rw [hx]; rfl) ?_
    by_cases hs2 : 2 < s
    · refine wq_ip (show (2 : Int32) < nI s from nI_lt (a := 2) hs2 (by omega)) (wq_in (ne 94 (by omega) (by omega)) (wq_in (ne 45 (by omega) (by omega)) (last (by omega) (by omega) (by omega))))
    · rw [if_pos ⟨hx, by omega⟩] at cpu
      refine wq_in (show ¬ (2 : Int32) < nI s from nI_nlt (a := 2) (by omega) (by omega)) (wq_some ⟨tfr_tr (tfr_i (by omega)) (tfr_i (by omega)), Or.inl ⟨rfl, 3, m, f, 1, G, ⟨si_s _ _ _ _, ?_, t3, ?_, t5⟩, ⟨by omega, by omega, u3, u4, G1⟩, cpu⟩⟩)
      · dsimp only
        rw [si_n (Or.inr (by omega)), si_n (Or.inr (by omega))]
        exact t2
      · dsimp only
        rw [si_n (Or.inr (by omega)), si_s]
        rfl
  refine wq_in (ne 120 (by omega) hx) ?_
  by_cases h94 : b p = 94
  · refine wq_ip (by rw [h94]; rfl) ?_
    by_cases hs3 : s = 3
    · rw [if_neg (by omega), if_pos ⟨h94, hs3⟩] at cpu
      refine wq_ip (by rw [hs3]; rfl) (wq_some ⟨tfr_i (by omega), Or.inl ⟨rfl, 4, m, f, k, G, ⟨si_s _ _ _ _, ?_, t3, ?_, t5⟩, ⟨by omega, u2, u3, u4, G1⟩, cpu⟩⟩)
      · dsimp only
        rw [si_n (Or.inr (by omega))]
        exact t2
      · dsimp only
        rw [si_n (Or.inr (by omega))]
        exact t4
    · exact wq_in (ns 3 (by omega) hs3) (wq_in (ne 45 (by omega) (by omega)) (last (by omega) (by omega) (by omega)))
  refine wq_in (ne 94 (by omega) h94) ?_
  by_cases h45 : b p = 45
  · refine wq_ip (by rw [h45]; rfl) ?_
    by_cases hs0 : s = 0
    · rw [if_neg (by omega), if_neg (by omega), if_pos ⟨h45, hs0⟩] at cpu
      refine wq_ip (by rw [hs0]; rfl) (wq_bd (wq_mo (stt_x (s := s) (k := k) (m := m) (f := f) (m' := true) t5 rfl) ?_))
      rintro ⟨_, σ2⟩ ⟨F2, S2⟩
      exact wq_some ⟨F2, Or.inl ⟨rfl, 1, true, 1, 0, G, S2, ⟨by omega, by omega, by omega, by omega, G1⟩, cpu⟩⟩
    · exact wq_in (ns 0 (by omega) hs0) (last (by omega) (by omega) (by omega))
  · exact wq_in (ne 45 (by omega) h45) (last (by omega) (by omega) (by omega))
end TKB
