/-! ===== the class: the sign at a point ===== -/
def prf (B : Nat) (σ : rr_M) (a b : Nat) : Prop := mg_r σ (B + 280) 0 = B + 281 ∧ mg_r σ (B + 280) 2 = B + 283 ∧ mg_r σ (B + 280) 3 = B + a ∧ mg_r σ (B + 280) 4 = B + b ∧ ((a = 284 ∧ b = 286) ∨ (a = 286 ∧ b = 284))
/-- nothing but large numbers, and the point's two of them, has changed -/
def frp (B : Nat) (σ σ' : rr_M) : Prop := (∀ o k, o ≠ 280 → mg_r σ' (B + o) k = mg_r σ (B + o) k) ∧ (∀ o, isB o = false → mg_i σ' (B + o) = mg_i σ (B + o)) ∧ (∀ o, isB (o - 1) = false → mg_l σ' (B + o) = mg_l σ (B + o))
theorem sbf_frp {B : Nat} {σ σ' : rr_M} (h : sbf B σ σ') : frp B σ σ' := ⟨fun o k _ => by rw [h.1], h.2.1, h.2.2⟩
theorem frp_tr {B : Nat} {σ σ' σ'' : rr_M} (h1 : frp B σ σ') (h2 : frp B σ' σ'') : frp B σ σ'' := ⟨fun o k ho => (h2.1 o k ho).trans (h1.1 o k ho), fun o ho => (h2.2.1 o ho).trans (h1.2.1 o ho), fun o ho => (h2.2.2 o ho).trans (h1.2.2 o ho)⟩
theorem frp_msr {B k v : Nat} {σ : rr_M} : frp B σ (ms_r σ (B + 280) k v) := ⟨fun o j ho => sr_n (Or.inl (by omega)), fun _ _ => rfl, fun _ _ => rfl⟩
theorem bgs_msr {B k v : Nat} {σ : rr_M} {Z : Nat → Option Int} (h : bgs B σ Z) : bgs B (ms_r σ (B + 280) k v) Z := fun o ho => by
  have hne : o ≠ 280 := fun hh => by rw [hh] at ho; exact absurd ho (by decide)
  refine ⟨by rw [sr_n (Or.inl (by omega))]; exact (h o ho).1, fun z hz => ?_⟩
  obtain ⟨q1, n, q2, q3, q4, q5⟩ := (h o ho).2 z hz
  exact ⟨by rw [sr_n (Or.inl (by omega))]; exact q1, n, q2, q3, q4, q5⟩
theorem crf_frp {B : Nat} {σ σ' : rr_M} (h : crf B σ) (hf : frp B σ σ') : crf B σ' := fun o k ho => by rw [hf.1 o k ho]; exact h o k ho
theorem prf_sbf {B a b : Nat} {σ σ' : rr_M} (h : prf B σ a b) (hs : sbf B σ σ') : prf B σ' a b := by
  unfold prf; rw [hs.1]; exact h
theorem prf_in {B a b : Nat} {σ : rr_M} (h : prf B σ a b) : isB a = true ∧ isB b = true ∧ a ≠ b ∧ roomB a = 96 ∧ roomB b = 96 ∧ (a = 284 ∨ a = 286) ∧ (b = 284 ∨ b = 286) := by
  rcases h.2.2.2.2 with ⟨h1, h2⟩ | ⟨h1, h2⟩ <;> subst h1 <;> subst h2 <;> decide
theorem prf_sw {B a b : Nat} {σ : rr_M} (h : prf B σ a b) : prf B (ms_r (ms_r σ (B + 280) 3 (B + b)) (B + 280) 4 (B + a)) b a := by
  obtain ⟨h0, h2, h3, h4, h5⟩ := h
  refine ⟨?_, ?_, ?_, ?_, by omega⟩
  · rw [sr_n (Or.inr (by omega)), sr_n (Or.inr (by omega))]; exact h0
  · rw [sr_n (Or.inr (by omega)), sr_n (Or.inr (by omega))]; exact h2
  · rw [sr_n (Or.inr (by omega)), sr_s]
  · rw [sr_s]
theorem sgm_l {fu B ar frm_ d s e : Nat} {σ0 : rr_M} {Z0 : Nat → Option Int} {f : Pl} {x : Int} {ofs : Nat → Nat} (hfu : 400 < fu) (har : ar ≠ 280) (hd : d < 9) (hfr : frm_ + d < 1000) (hn : frm_ + d < nx B (B + ar)) (hof : ∀ k, k ≤ d → mg_r σ0 (B + ar) (frm_ + k) = B + ofs k ∧ isB (ofs k) = true ∧ ofs k ≠ 284 ∧ ofs k ≠ 286 ∧ Z0 (ofs k) = some (f k)) (hs : mg_i σ0 (B + 280) 1 = nI s) (h281 : Z0 281 = some x) (sf : ∀ t, szb 600 (f t)) (sx : szb e x) (hse : s ≤ e) (hee : 600 + d * (e + 1) ≤ 2700) {kk : rr_M → Option (Int32 × rr_M)} {Q : Int32 × rr_M → Prop}
    (hk : ∀ (σ : rr_M) (Z : Nat → Option Int) (a b : Nat), bgs B σ Z → frp B σ0 σ → prf B σ a b → (∀ t, t ≠ 284 → t ≠ 286 → Z t = Z0 t) → Z a = some (hv f x (2 ^ s) d d) → wq (kk σ) Q) :
    ∀ (fl t : Nat) (σ : rr_M) (Z : Nat → Option Int) (a b : Nat), t ≤ d → t < fl → bgs B σ Z → frp B σ0 σ → prf B σ a b → (∀ t, t ≠ 284 → t ≠ 286 → Z t = Z0 t) → Z a = some (hv f x (2 ^ s) d (d - t)) →
      wq (l_Poi_signAmong_38 fu (nx B) (B + 280) (B + ar) (nI frm_) fl (nI (s * (d - t))) (nI t - 1) σ kk) Q
  | 0, t, σ, Z, a, b, h1, h2, _, _, _, _, _ => by omega
  | fl + 1, 0, σ, Z, a, b, h1, h2, hZ, hF, hP, hO, hv0 => by
    rw [l_Poi_signAmong_38, if_pos (by decide)]
    exact hk σ Z a b hZ hF hP hO hv0
  | fl + 1, t + 1, σ, Z, a, b, h1, h2, hZ, hF, hP, hO, hv0 => by
    obtain ⟨ia, ib, hab, ra, rb, a2, b2⟩ := prf_in hP
    have e1 : nI (t + 1) - 1 = nI t := nI_pred t
    have c1 : ¬ nI t < 0 := nI_pos (by omega)
    have e2 : nI t + (-1) = nI t - 1 := (Int32.sub_eq_add_neg (nI t) 1).symm
    obtain ⟨m, hm⟩ : ∃ m, m = d - (t + 1) := ⟨_, rfl⟩
    rw [← hm] at hv0 ⊢
    have hmd : (m + 1) * (e + 1) ≤ d * (e + 1) := Nat.mul_le_mul_right _ (by omega)
    have hsm : (m + 1) * (e + 1) = m * (e + 1) + (e + 1) := Nat.succ_mul _ _
    have hsb : s * (m + 1) ≤ (m + 1) * (e + 1) := by rw [Nat.mul_comm s]; exact Nat.mul_le_mul_left _ (by omega)
    have hs1 : mg_i σ (B + 280) 1 = nI s := by rw [hF.2.1 280 (by decide)]; exact hs
    have ebits : nI (s * m) + nI s = nI (s * (m + 1)) := by rw [nI_add]; rfl
    obtain ⟨o1, o2, o3, o4, o5⟩ := hof t (by omega)
    have sw : szb e ((2 : Int) ^ s) := by
      unfold szb
      rw [Int.natAbs_pow]
      exact Nat.pow_le_pow_right (by decide) hse
    have Zx : Z 281 = some x := by rw [hO 281 (by omega) (by omega)]; exact h281
    have sH := hv_bit (d := d) sf sx sw (Nat.le_refl _) m
    rw [l_Poi_signAmong_38, e1, if_neg c1]
    dsimp only [rr_lt]
    rw [hs1, ebits, hP.2.2.2.1, hP.2.2.1, hP.1]
    refine wq_bd (wq_mo (bo_mulb (x := b) (y := a) (w := 281) (e1 := 600 + m * (e + 1)) (e2 := e) hfu hZ ib ia (by decide) (by omega) (by omega) hv0 Zx sH sx rb (by omega)) ?_)
    rintro r1 ⟨L1, F1⟩
    have hP1 := prf_sbf hP F1
    have ix : rr_ix (nI (frm_ + t)) (nx B (B + ar)) = true := ix_nI (by omega) (by omega)
    have mx : rr_n (nI (frm_ + t)) = frm_ + t := n_nI (by omega)
    have hra : mg_r r1.2 (B + ar) (frm_ + t) = B + ofs t := by rw [F1.1, hF.1 ar _ har]; exact o1
    have e30 : nI (s * (m + 1)) / 30 = nI (s * (m + 1) / 30) := nI_div (b := 30) (by omega) (by omega)
    have er30 : nI (s * (m + 1)) - nI (s * (m + 1) / 30) * 30 = nI (s * (m + 1) % 30) := by
      rw [show (30 : Int32) = nI 30 from rfl, nI_mul, nI_sub (by omega)]
      congr 1
      omega
    have hF1 : ((1 : Int64) <<< ((nI (s * (m + 1) % 30)).toInt64 &&& 63)).toInt = 2 ^ (s * (m + 1) % 30) := by
      have hle : (2 : Int) ^ (s * (m + 1) % 30) ≤ 2 ^ 29 := pw_mono (by decide) (by omega)
      have hp := p2_pos (s * (m + 1) % 30)
      have e29 : (2 : Int) ^ 29 = 536870912 := rfl
      have e63 : (2 : Int) ^ 63 = 9223372036854775808 := rfl
      have := jshl (1 : Int64) (p := s * (m + 1) % 30) (by omega) (by rw [show (1 : Int64).toInt = 1 from rfl]; omega) (by rw [show (1 : Int64).toInt = 1 from rfl]; omega)
      rw [this, show (1 : Int64).toInt = 1 from rfl, Int.one_mul]
    rw [nI_add, mx, hra, hP1.2.2.2.1, e30, er30]
    have Zo : zup Z b (hv f x (2 ^ s) d m * x) (ofs t) = some (f t) := by rw [zup_n (by omega), hO _ o3 o4]; exact o5
    have hle29 : (2 : Int) ^ (s * (m + 1) % 30) ≤ 2 ^ 29 := pw_mono (by decide) (by omega)
    have hp29 := p2_pos (s * (m + 1) % 30)
    have e29 : (2 : Int) ^ 29 = 536870912 := rfl
    refine wq_ip ix (wq_bd (wq_mo (bo_add (x := b) (y := ofs t) (m1 := (600 + m * (e + 1) + e) / 30 + 1) (m2 := 21) (u := s * (m + 1) / 30) hfu L1 ib o2 (fun hh => by omega) (zup_s _ _ _) Zo (szl_of (szb_mul sH sx) (by omega)) (szl_of (sf t) (by omega)) (by omega) (by omega) (by rw [rb]; omega) (by rw [hF1]; omega) (by rw [hF1]; omega)) ?_))
    rintro r2 ⟨L2, F2⟩
    have hP2 := prf_sbf hP1 F2
    have hval : hv f x (2 ^ s) d m * x + ((1 : Int64) <<< ((nI (s * (m + 1) % 30)).toInt64 &&& 63)).toInt * (f t * 1073741824 ^ (s * (m + 1) / 30)) = hv f x (2 ^ s) d (m + 1) := by
      rw [hF1, hv, show d - (m + 1) = t by omega, ← Int.pow_mul]
      have : (2 : Int) ^ (s * (m + 1)) = 2 ^ (s * (m + 1) % 30) * 1073741824 ^ (s * (m + 1) / 30) := by
        rw [p30, ← Int.pow_add]
        congr 1
        omega
      rw [this]
      generalize (2 : Int) ^ (s * (m + 1) % 30) = P
      generalize (1073741824 : Int) ^ (s * (m + 1) / 30) = P'
      grind
    rw [hval] at L2
    rw [hP2.2.2.1, hP2.2.2.2.1, e2]
    have hrec := sgm_l hfu har hd hfr hn hof hs h281 sf sx hse hee hk fl t (ms_r (ms_r r2.2 (B + 280) 3 (B + b)) (B + 280) 4 (B + a)) _ b a (by omega) (by omega) (bgs_msr (bgs_msr L2)) (frp_tr hF (frp_tr (sbf_frp F1) (frp_tr (sbf_frp F2) (frp_tr frp_msr frp_msr)))) (prf_sw hP2) (fun t' t1 t2 => by rw [zup_n (by omega), zup_n (by omega)]; exact hO t' t1 t2) (by rw [zup_s, show d - t = m + 1 by omega])
    rw [show d - t = m + 1 by omega] at hrec
    exact hrec
theorem sgm_ok {fu B ar frm_ d s e a b : Nat} {σ : rr_M} {Z : Nat → Option Int} {f : Pl} {x : Int} {ofs : Nat → Nat} (hfu : 400 < fu) (hZ : bgs B σ Z) (hP : prf B σ a b) (har : ar ≠ 280) (hd : d < 9) (hfr : frm_ + d < 1000) (hn : frm_ + d < nx B (B + ar)) (hn2 : nx B (B + ar) < 1000) (hof : ∀ k, k ≤ d → mg_r σ (B + ar) (frm_ + k) = B + ofs k ∧ isB (ofs k) = true ∧ ofs k ≠ 284 ∧ ofs k ≠ 286 ∧ Z (ofs k) = some (f k)) (hs : mg_i σ (B + 280) 1 = nI s) (h281 : Z 281 = some x) (sf : ∀ t, szb 600 (f t)) (sx : szb e x) (hse : s ≤ e) (hee : 600 + d * (e + 1) ≤ 2700) :
    wq (f_Poi_signAmong fu (nx B) (B + 280) (B + ar) (nI frm_) (nI d) σ) (fun y => y.1 = sgI (hv f x (2 ^ s) d d) ∧ frp B σ y.2 ∧ ∃ Z' a' b', bgs B y.2 Z' ∧ prf B y.2 a' b' ∧ (∀ t, t ≠ 284 → t ≠ 286 → Z' t = Z t)) := by
  obtain ⟨ia, ib, hab, ra, rb, a2, b2⟩ := prf_in hP
  have c1 : ¬ nI d < 0 := nI_pos (by omega)
  have c2 : ¬ nI frm_ < 0 := nI_pos (by omega)
  have c3 : nI (frm_ + d) < nI (nx B (B + ar)) := nI_lt hn (by omega)
  have ix : rr_ix (nI (frm_ + d)) (nx B (B + ar)) = true := ix_nI hn (by omega)
  have mx : rr_n (nI (frm_ + d)) = frm_ + d := n_nI (by omega)
  obtain ⟨o1, o2, o3, o4, o5⟩ := hof d (Nat.le_refl _)
  unfold f_Poi_signAmong
  dsimp only [rr_lt]
  rw [if_neg c1, if_neg c2, nI_add, if_pos c3, mx, o1, hP.2.2.1]
  refine wq_ip ix (wq_bd (wq_mo (bo_copyb (x := a) (y := ofs d) (e := 600) hZ ia o2 o5 (sf d) (by rw [ra]; omega)) ?_))
  rintro r1 ⟨L1, F1⟩
  have hst : wq (l_Poi_signAmong_38 fu (nx B) (B + 280) (B + ar) (nI frm_) fu (nI (s * (d - d))) (nI d - 1) r1.2 (fun σ_25 => Option.bind (f_Big_signum (nx B) (mg_r σ_25 (B + 280) 3) σ_25) fun r_27 => some (r_27, σ_25))) (fun y => y.1 = sgI (hv f x (2 ^ s) d d) ∧ frp B σ y.2 ∧ ∃ Z' a' b', bgs B y.2 Z' ∧ prf B y.2 a' b' ∧ (∀ t, t ≠ 284 → t ≠ 286 → Z' t = Z t)) := by
    refine sgm_l (σ0 := r1.2) (Z0 := zup Z a (f d)) (f := f) (x := x) (ofs := ofs) (e := e) hfu har hd hfr hn (fun k hk => ?_) (by rw [sbf_i F1 (by decide)]; exact hs) (by rw [zup_n (by omega)]; exact h281) sf sx hse hee ?_ fu d r1.2 _ a b (Nat.le_refl _) (by omega) L1 (sbf_frp (sbf_rfl _ _)) (prf_sbf hP F1) (fun _ _ _ => rfl) (by rw [zup_s, Nat.sub_self]; rfl)
    · obtain ⟨p1, p2, p3, p4, p5⟩ := hof k hk
      exact ⟨by rw [F1.1]; exact p1, p2, p3, p4, by rw [zup_n (by omega)]; exact p5⟩
    · intro σ2 Z2 a' b' L2 F2 P2 O2 V2
      obtain ⟨ia', _⟩ := prf_in P2
      rw [P2.2.2.1, bo_sgn L2 ia' V2]
      refine wq_ob (wq_some (wq_some ⟨rfl, frp_tr (sbf_frp F1) F2, Z2, a', b', L2, P2, fun t t1 t2 => ?_⟩))
      rw [O2 t t1 t2, zup_n (by omega)]
  rw [Nat.sub_self, Nat.mul_zero] at hst
  exact hst
