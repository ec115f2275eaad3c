/-! ===== the class: frames; a derivative in a row ===== -/
/-- only ints of objects in I, longs of rows in L, and large numbers may have changed -/
def fra (B : Nat) (I L : Nat → Prop) (σ σ' : rr_M) : Prop := mg_r σ' = mg_r σ ∧ (∀ o, isB o = false → ¬ I o → mg_i σ' (B + o) = mg_i σ (B + o)) ∧ (∀ o, isB (o - 1) = false → ¬ L o → mg_l σ' (B + o) = mg_l σ (B + o))
theorem fra_rf {B : Nat} {I L : Nat → Prop} {σ : rr_M} : fra B I L σ σ := ⟨rfl, fun _ _ _ => rfl, fun _ _ _ => rfl⟩
theorem fra_tr {B : Nat} {I L : Nat → Prop} {σ σ' σ'' : rr_M} (h1 : fra B I L σ σ') (h2 : fra B I L σ' σ'') : fra B I L σ σ'' := ⟨h2.1.trans h1.1, fun o a b => (h2.2.1 o a b).trans (h1.2.1 o a b), fun o a b => (h2.2.2 o a b).trans (h1.2.2 o a b)⟩
theorem fra_mo {B : Nat} {I L I' L' : Nat → Prop} {σ σ' : rr_M} (h : fra B I L σ σ') (hI : ∀ o, I o → I' o) (hL : ∀ o, L o → L' o) : fra B I' L' σ σ' := ⟨h.1, fun o a b => h.2.1 o a (fun c => b (hI o c)), fun o a b => h.2.2 o a (fun c => b (hL o c))⟩
theorem sbf_fra {B : Nat} {I L : Nat → Prop} {σ σ' : rr_M} (h : sbf B σ σ') : fra B I L σ σ' := ⟨h.1, fun o a _ => h.2.1 o a, fun o a _ => h.2.2 o a⟩
theorem frs_fra {B : Nat} {I L : Nat → Prop} {σ σ' : rr_M} (h : frs B σ σ') (h1 : I 63) (h2 : I 65) (h3 : I 66) : fra B I L σ σ' := ⟨h.1, fun o a b => h.2.1 o a (fun c => b (c ▸ h1)) (fun c => b (c ▸ h2)) (fun c => b (c ▸ h3)), fun o a _ => h.2.2 o a⟩
theorem fro_fra {B o : Nat} {I L : Nat → Prop} {σ σ' : rr_M} (h : fro B o σ σ') (h1 : L o) : fra B I L σ σ' := ⟨h.1, fun x a _ => h.2.1 x a, fun x a b => h.2.2 x a (fun c => b (c ▸ h1))⟩
theorem fra_mw {B o : Nat} {I L : Nat → Prop} {σ : rr_M} {u : Nat → Int64} (h : L o) : fra B I L σ (mw_l σ (B + o) u) := fro_fra fro_mw h
theorem fra_ml {B o k : Nat} {I L : Nat → Prop} {σ : rr_M} {v : Int64} (h : L o) : fra B I L σ (ms_l σ (B + o) k v) := fro_fra fro_ms h
theorem fra_mi {B o k : Nat} {I L : Nat → Prop} {σ : rr_M} {v : Int32} (h : I o) : fra B I L σ (ms_i σ (B + o) k v) := ⟨rfl, fun x _ b => si_row (fun c => b (by rw [show x = o by omega]; exact h)), fun _ _ _ => rfl⟩
theorem crf_fra {B : Nat} {I L : Nat → Prop} {σ σ' : rr_M} (h : crf B σ) (hs : fra B I L σ σ') : crf B σ' := crf_of h hs.1
theorem toI64_nI {n : Nat} (h : n < 2147483648) : ((nI n).toInt64).toInt = n := by
  rw [Int32.toInt_toInt64, nI_t n h]
theorem sso_l {fu B o o' : Nat} {σ : rr_M} {f : Pl} (n0 : nx B (B + o) = 9) (n1 : nx B (B + o') = 9) (hoo : o ≠ o') (h9 : pbd 9 f) (hf : ∀ j, j < 9 → (mg_l σ (B + o') j).toInt = f j) (hsz : ∀ k, -1099511627776 ≤ f k ∧ f k ≤ 1099511627776) {kk : rr_M → Option (Unit × rr_M)} {Q : Unit × rr_M → Prop}
    (hk : ∀ u : Nat → Int64, (∀ j, j < 9 → (u j).toInt = der f j) → wq (kk (mw_l σ (B + o) u)) Q) :
    ∀ (fl k : Nat) (u : Nat → Int64), k ≤ 9 → 10 - k ≤ fl → (∀ j, j < k → (u j).toInt = der f j) → wq (l_Num_setSlope_2 fu (nx B) (B + o) (B + o') fl (nI k) (mw_l σ (B + o) u) kk) Q
  | 0, k, u, h1, h2, _ => by omega
  | fl + 1, k, u, h1, h2, hu => by
    rw [l_Num_setSlope_2, n0, n1]
    by_cases hk9 : k = 9
    · subst hk9
      exact wq_ip (by decide) (hk u hu)
    · have c0 : ¬ nI 9 ≤ nI k := nI_ge (by omega) (by omega)
      have mk : rr_n (nI k) = k := n_nI (by omega)
      have mk1 : rr_n (nI (k + 1)) = k + 1 := n_nI (by omega)
      dsimp only [rr_lt, rr_jn]
      rw [if_neg c0, mk, nI_1, mk1]
      have step : ∀ v : Int64, v.toInt = der f k → wq (if rr_ix (nI k) 9 = true then l_Num_setSlope_2 fu (nx B) (B + o) (B + o') fl (nI (k + 1)) (ms_l (mw_l σ (B + o) u) (B + o) k v) kk else none) Q := by
        intro v hv
        rw [mw_ms]
        refine wq_ip (ix_nI (by omega) (by omega)) (sso_l n0 n1 hoo h9 hf hsz hk fl (k + 1) _ (by omega) (by omega) (fun j hj => ?_))
        by_cases hjk : j = k
        · subst hjk; rw [upL_s]; exact hv
        · rw [upL_n hjk]; exact hu j (by omega)
      have dk : der f k = ((k : Int) + 1) * f (k + 1) := rfl
      by_cases h8 : k = 8
      · subst h8
        refine wq_ip (by decide) (step 0 ?_)
        rw [dk, h9 (8 + 1) (by omega), Int.mul_zero]; rfl
      · refine wq_in (nI_ge (by omega) (by omega)) (wq_ip (ix_nI (by omega) (by omega)) (step _ ?_))
        have e1 : (mg_l (mw_l σ (B + o) u) (B + o') (k + 1)).toInt = f (k + 1) := by rw [mw_gn _ (by omega)]; exact hf (k + 1) (by omega)
        have e2 : ((nI (k + 1)).toInt64).toInt = ((k + 1 : Nat) : Int) := toI64_nI (by omega)
        have hs := hsz (k + 1)
        have hb : -9895604649984 ≤ f (k + 1) * ((k + 1 : Nat) : Int) ∧ f (k + 1) * ((k + 1 : Nat) : Int) ≤ 9895604649984 := by
          have : k + 1 = 1 ∨ k + 1 = 2 ∨ k + 1 = 3 ∨ k + 1 = 4 ∨ k + 1 = 5 ∨ k + 1 = 6 ∨ k + 1 = 7 ∨ k + 1 = 8 := by omega
          generalize f (k + 1) = z at *
          rcases this with q | q | q | q | q | q | q | q <;> rw [q] <;> omega
        rw [j_mul (by rw [e1, e2]; omega) (by rw [e1, e2]; omega), e1, e2, dk, Int.mul_comm]
        rfl
theorem sso_ok {fu B o o' : Nat} {σ : rr_M} {f : Pl} (hfu : 400 < fu) (n0 : nx B (B + o) = 9) (n1 : nx B (B + o') = 9) (hoo : o ≠ o') (h9 : pbd 9 f) (hf : ∀ j, j < 9 → (mg_l σ (B + o') j).toInt = f j) (hsz : ∀ k, -1099511627776 ≤ f k ∧ f k ≤ 1099511627776) :
    wq (f_Num_setSlope fu (nx B) (B + o) (B + o') σ) (fun r => ∃ u, r.2 = mw_l σ (B + o) u ∧ ∀ j, j < 9 → (u j).toInt = der f j) := by
  unfold f_Num_setSlope
  have := sso_l (fu := fu) n0 n1 hoo h9 hf hsz (kk := fun σ => some ((), σ)) (Q := fun r => ∃ u, r.2 = mw_l σ (B + o) u ∧ ∀ j, j < 9 → (u j).toInt = der f j) (fun u hu => wq_some ⟨u, rfl, hu⟩) fu 0 (mg_l σ (B + o)) (by omega) (by omega) (fun j hj => by omega)
  rw [mw_id] at this
  exact this
