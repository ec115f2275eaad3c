/-! ===== quotients of polynomials in longs ===== -/
/-- v is t, but for wholes of 2^64 -/
def cg (v : Int64) (t : Int) : Prop := ∃ e : Int, v.toInt = t + 18446744073709551616 * e
theorem cg_rfl (v : Int64) : cg v v.toInt := ⟨0, by omega⟩
theorem bmod_cg (x : Int) : ∃ e : Int, x.bmod 18446744073709551616 = x + 18446744073709551616 * e := by
  obtain ⟨e, he⟩ := Int.dvd_bmod_sub_self (x := x) (m := 18446744073709551616)
  exact ⟨e, by omega⟩
theorem cg_sub {v w : Int64} {a b : Int} (h1 : cg v a) (h2 : cg w b) : cg (v - w) (a - b) := by
  obtain ⟨e1, h1⟩ := h1
  obtain ⟨e2, h2⟩ := h2
  obtain ⟨e, he⟩ := bmod_cg (v.toInt - w.toInt)
  refine ⟨e1 - e2 + e, ?_⟩
  have : (v - w).toInt = (v.toInt - w.toInt).bmod 18446744073709551616 := Int64.toInt_sub v w
  rw [this, he, h1, h2]
  grind
theorem cg_mul {v w : Int64} {a b : Int} (h1 : cg v a) (h2 : cg w b) : cg (v * w) (a * b) := by
  obtain ⟨e1, h1⟩ := h1
  obtain ⟨e2, h2⟩ := h2
  obtain ⟨e, he⟩ := bmod_cg (v.toInt * w.toInt)
  refine ⟨e1 * b + a * e2 + 18446744073709551616 * e1 * e2 + e, ?_⟩
  have : (v * w).toInt = (v.toInt * w.toInt).bmod 18446744073709551616 := Int64.toInt_mul v w
  rw [this, he, h1, h2]
  grind
theorem cg_eq {v : Int64} {t : Int} (h : cg v t) (h1 : -9223372036854775808 ≤ t) (h2 : t < 9223372036854775808) : v.toInt = t := by
  obtain ⟨e, h⟩ := h
  have := j_lo v
  omega
def trn (k : Nat) (H : Pl) : Pl := fun n => if n < k then H n else 0
theorem trn_s (k : Nat) (H : Pl) : trn (k + 1) H = pad (psc (H k) (mono k)) (trn k H) := pl_ext (fun n => by
  show (if n < k + 1 then H n else 0) = H k * (if n = k then 1 else 0) + (if n < k then H n else 0)
  by_cases h : n = k
  · subst h; rw [if_pos (by omega), if_pos rfl, if_neg (by omega)]; omega
  · by_cases h2 : n < k
    · rw [if_pos (by omega), if_neg h, if_pos h2]; omega
    · rw [if_neg (by omega), if_neg h, if_neg h2]; omega)
theorem trn_mu (D H : Pl) (k j : Nat) : pmu D (trn (k + 1) H) j = pmu D (trn k H) j + H k * shf k D j := by
  rw [trn_s, pmu_addr, psc_mur, pmu_comm D (mono k), shf_mu]
  show H k * shf k D j + _ = _
  omega
theorem trn_top {D H : Pl} {d : Nat} (hD : dgr D d) (k : Nat) : pmu D (trn (k + 1) H) (d + k) = D d * H k := by
  rw [pmu_top (m := d) (n := k) (fun t ht => hD.2 t ht) (fun t ht => by show (if t < k + 1 then H t else 0) = 0; rw [if_neg (by omega)])]
  show D d * (if k < k + 1 then H k else 0) = _
  rw [if_pos (by omega)]
/-- two rows of longs, new -/
def mw2 (σ : rr_M) (a b : Nat) (u r : Nat → Int64) : rr_M := mw_l (mw_l σ a u) b r
theorem mw2_a {σ : rr_M} {a b : Nat} {u r : Nat → Int64} (h : a ≠ b) : mg_l (mw2 σ a b u r) a = u := by unfold mw2; rw [mw_gn _ h, mw_gs]
theorem mw2_b {σ : rr_M} {a b : Nat} {u r : Nat → Int64} : mg_l (mw2 σ a b u r) b = r := mw_gs _ _ _
theorem mw2_n {σ : rr_M} {a b c : Nat} {u r : Nat → Int64} (h1 : c ≠ a) (h2 : c ≠ b) : mg_l (mw2 σ a b u r) c = mg_l σ c := by unfold mw2; rw [mw_gn _ h2, mw_gn _ h1]
theorem mw2_sa {σ : rr_M} {a b k : Nat} {u r : Nat → Int64} {v : Int64} (h : a ≠ b) : ms_l (mw2 σ a b u r) a k v = mw2 σ a b (vp_updL u k v) r := by
  unfold mw2
  rw [mw_comm σ h, mw_ms, mw_comm _ (Ne.symm h)]
theorem mw2_sb {σ : rr_M} {a b k : Nat} {u r : Nat → Int64} {v : Int64} : ms_l (mw2 σ a b u r) b k v = mw2 σ a b u (vp_updL r k v) := by
  unfold mw2
  rw [mw_ms]
theorem cqo_in {fu B o0 o1 o2 k d : Nat} {σ : rr_M} {D T0 : Pl} {c : Int} {u : Nat → Int64} (h01 : o0 ≠ o1) (h02 : o2 ≠ o0) (h12 : o2 ≠ o1) (n0 : nx B (B + o0) = 9) (n1 : nx B (B + o1) = 9) (n2 : nx B (B + o2) = 9) (hkd : k + d < 9) (hD : ∀ j, j < 9 → (mg_l σ (B + o2) j).toInt = D j) (hu : (u k).toInt = c) {kk : rr_M → Option (Unit × rr_M)} {Q : Unit × rr_M → Prop}
    (hk : ∀ r, (∀ j, j < 9 → cg (r j) (if k ≤ j ∧ j ≤ k + d then T0 j - c * D (j - k) else T0 j)) → wq (kk (mw2 σ (B + o0) (B + o1) u r)) Q) :
    ∀ (fl i : Nat) (r : Nat → Int64), i ≤ d + 1 → d + 2 - i ≤ fl → (∀ j, j < 9 → cg (r j) (if k ≤ j ∧ j < k + i then T0 j - c * D (j - k) else T0 j)) →
      wq (l_Num_setQuotient_85 fu (nx B) (B + o0) (B + o1) (B + o2) (nI d) (nI k) fl (nI i) (mw2 σ (B + o0) (B + o1) u r) kk) Q
  | 0, i, r, h1, h2, _ => by omega
  | fl + 1, i, r, h1, h2, hr => by
    rw [l_Num_setQuotient_85]
    by_cases hit : i = d + 1
    · subst hit
      refine wq_ip (nI_lt (by omega) (by omega)) (hk r (fun j hj => ?_))
      have := hr j hj
      by_cases hc : k ≤ j ∧ j ≤ k + d
      · rw [if_pos (by omega)] at this; rw [if_pos hc]; exact this
      · rw [if_neg (by omega)] at this; rw [if_neg hc]; exact this
    · have c0 : ¬ nI d < nI i := nI_nlt (by omega) (by omega)
      have m1 : rr_n (nI (k + i)) = k + i := n_nI (by omega)
      have m2 : rr_n (nI k) = k := n_nI (by omega)
      have m3 : rr_n (nI i) = i := n_nI (by omega)
      have x1 : rr_ix (nI (k + i)) (nx B (B + o1)) = true := by rw [n1]; exact ix_nI (by omega) (by omega)
      have x0 : rr_ix (nI k) (nx B (B + o0)) = true := by rw [n0]; exact ix_nI (by omega) (by omega)
      have x2 : rr_ix (nI i) (nx B (B + o2)) = true := by rw [n2]; exact ix_nI (by omega) (by omega)
      dsimp only [rr_lt]
      rw [if_neg c0, nI_add, m1, m2, m3, mw2_b, mw2_a (show B + o0 ≠ B + o1 by omega), mw2_n (show B + o2 ≠ B + o0 by omega) (show B + o2 ≠ B + o1 by omega), mw2_sb, nI_1]
      refine wq_ip x1 (wq_ip x0 (wq_ip x2 (wq_ip x1 ?_)))
      refine cqo_in (T0 := T0) h01 h02 h12 n0 n1 n2 hkd hD hu hk fl (i + 1) _ (by omega) (by omega) (fun j hj => ?_)
      by_cases hji : j = k + i
      · subst hji
        rw [upL_s, if_pos (by omega), show k + i - k = i by omega]
        have hc := hr (k + i) (by omega)
        rw [if_neg (by omega)] at hc
        refine cg_sub hc (cg_mul ?_ ?_)
        · rw [← hu]; exact cg_rfl _
        · rw [← hD i (by omega)]; exact cg_rfl _
      · rw [upL_n hji]
        have := hr j hj
        by_cases hc : k ≤ j ∧ j < k + i
        · rw [if_pos hc] at this; rw [if_pos (by omega)]; exact this
        · rw [if_neg hc] at this; rw [if_neg (by omega)]; exact this
theorem cqo_out {fu B o0 o1 o2 d n : Nat} {σ : rr_M} {D H : Pl} (hfu : 400 < fu) (h01 : o0 ≠ o1) (h02 : o2 ≠ o0) (h12 : o2 ≠ o1) (n0 : nx B (B + o0) = 9) (n1 : nx B (B + o1) = 9) (n2 : nx B (B + o2) = 9) (hnd : n + d < 9) (hdD : dgr D d) (hD : ∀ j, j < 9 → (mg_l σ (B + o2) j).toInt = D j) (hsz : ∀ k, -4611686018427387904 < D d * H k ∧ D d * H k < 4611686018427387904) {kk : rr_M → Option (Unit × rr_M)} {Q : Unit × rr_M → Prop}
    (hk : ∀ u r, (∀ j, j < 9 → (u j).toInt = if j < n + 1 then H j else 0) → wq (kk (mw2 σ (B + o0) (B + o1) u r)) Q) :
    ∀ (k fl : Nat) (u r : Nat → Int64), k ≤ n + 1 → k < fl → (∀ j, j < 9 → (u j).toInt = if k ≤ j ∧ j < n + 1 then H j else 0) → (∀ j, j < 9 → cg (r j) (pmu D (trn k H) j)) →
      wq (l_Num_setQuotient_47 fu (nx B) (B + o0) (B + o1) (B + o2) (nI d) fl (nI k - 1) (mw2 σ (B + o0) (B + o1) u r) kk) Q
  | 0, fl + 1, u, r, h1, h2, hu, hr => by
    rw [l_Num_setQuotient_47, if_pos (by decide)]
    refine hk u r (fun j hj => ?_)
    rw [hu j hj]
    by_cases hc : j < n + 1
    · rw [if_pos hc, if_pos (by omega)]
    · rw [if_neg hc, if_neg (by omega)]
  | k + 1, fl + 1, u, r, h1, h2, hu, hr => by
    have e1 : nI (k + 1) - 1 = nI k := nI_pred k
    have c1 : ¬ nI k < 0 := nI_pos (by omega)
    have e2 : nI k + (-1) = nI k - 1 := (Int32.sub_eq_add_neg (nI k) 1).symm
    have c2 : ¬ nI (nx B (B + o0)) ≤ nI k := by rw [n0]; exact nI_ge (by omega) (by omega)
    have c3 : ¬ nI (nx B (B + o1)) ≤ nI (k + d) := by rw [n1]; exact nI_ge (by omega) (by omega)
    have m1 : rr_n (nI (k + d)) = k + d := n_nI (by omega)
    have m2 : rr_n (nI k) = k := n_nI (by omega)
    have m3 : rr_n (nI d) = d := n_nI (by omega)
    have x1 : rr_ix (nI (k + d)) (nx B (B + o1)) = true := by rw [n1]; exact ix_nI (by omega) (by omega)
    have x0 : rr_ix (nI k) (nx B (B + o0)) = true := by rw [n0]; exact ix_nI (by omega) (by omega)
    have x2 : rr_ix (nI d) (nx B (B + o2)) = true := by rw [n2]; exact ix_nI (by omega) (by omega)
    have hDd : (mg_l σ (B + o2) d).toInt = D d := hD d (by omega)
    have hne : ¬ mg_l σ (B + o2) d = 0 := fun hh => hdD.1 (by rw [← hDd, hh]; rfl)
    rw [l_Num_setQuotient_47, e1, if_neg c1]
    dsimp only [rr_lt, rr_jn]
    rw [nI_add, if_neg c2, if_neg c3, m1, m2, m3, mw2_b, mw2_n (show B + o2 ≠ B + o0 by omega) (show B + o2 ≠ B + o1 by omega), if_neg hne, mw2_sa (show B + o0 ≠ B + o1 by omega)]
    refine wq_ip x1 (wq_ip x2 (wq_ip x0 ?_))
    -- the number at the top
    have ht := hr (k + d) (by omega)
    rw [Nat.add_comm k d, trn_top hdD] at ht
    have hs := hsz k
    have htop := cg_eq ht (by omega) (by omega)
    rw [Nat.add_comm d k] at htop
    have hq : (r (k + d) / mg_l σ (B + o2) d).toInt = H k := by
      rw [Jvm.Kit.i64_div (by rw [htop]; omega), htop, hDd, Int.mul_tdiv_cancel_left _ hdD.1]
    generalize r (k + d) / mg_l σ (B + o2) d = v at *
    refine cqo_in (T0 := pmu D (trn (k + 1) H)) (c := H k) (d := d) h01 h02 h12 n0 n1 n2 (by omega) hD (by rw [upL_s]; exact hq) ?_ fu 0 r (by omega) (by omega) (fun j hj => by rw [if_neg (by omega)]; exact hr j hj)
    intro r' hr'
    rw [e2]
    refine cqo_out hfu h01 h02 h12 n0 n1 n2 hnd hdD hD hsz hk k fl _ r' (by omega) (by omega) (fun j hj => ?_) (fun j hj => ?_)
    · by_cases hjk : j = k
      · subst hjk; rw [upL_s, if_pos (by omega)]; exact hq
      · rw [upL_n hjk, hu j hj]
        by_cases hc : k + 1 ≤ j ∧ j < n + 1
        · rw [if_pos hc, if_pos (by omega)]
        · rw [if_neg hc, if_neg (by omega)]
    · have h3 := hr' j hj
      rw [trn_mu D H k j] at h3
      have hsh : shf k D j = if k ≤ j ∧ j ≤ k + d then D (j - k) else 0 := by
        simp only [shf]
        by_cases hc : j < k
        · rw [if_pos hc, if_neg (by omega)]
        · rw [if_neg hc]
          by_cases hc2 : j ≤ k + d
          · rw [if_pos ⟨by omega, hc2⟩]
          · rw [if_neg (by omega), hdD.2 (j - k) (by omega)]
      rw [hsh] at h3
      by_cases hc : k ≤ j ∧ j ≤ k + d
      · rw [if_pos hc, if_pos hc, Int.add_sub_cancel] at h3; exact h3
      · rw [if_neg hc, if_neg hc, Int.mul_zero, Int.add_zero] at h3; exact h3
