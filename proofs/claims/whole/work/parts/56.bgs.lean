/-! ===== all large numbers of the class at once ===== -/
def isB (o : Nat) : Bool := (decide (68 ≤ o) && decide (o ≤ 278) && decide (o % 2 = 0)) || decide (o = 281) || (decide (284 ≤ o) && decide (o ≤ 304) && decide (o % 2 = 0)) || decide (o = 335) || decide (o = 337) || decide (o = 339)
def roomB (o : Nat) : Nat := if (76 ≤ o ∧ o ≤ 260) then 24 else if o = 281 ∨ o = 335 ∨ o = 337 then 20 else if (288 ≤ o ∧ o ≤ 304) ∨ o = 339 then 4 else 96
theorem isB_lt {o : Nat} (h : isB o = true) : o < 340 := by
  simp only [isB, Bool.or_eq_true, Bool.and_eq_true, decide_eq_true_eq] at h
  omega
theorem roomB_tab : ∀ o, o < 340 → isB o = true → NX (o + 1) = roomB o := by decide +kernel
theorem roomB_nx {B o : Nat} (h : isB o = true) : nx B (B + o + 1) = roomB o := by
  rw [nx, show B + o + 1 - B = o + 1 by omega]
  exact roomB_tab o (isB_lt h) h
theorem roomB_lo (o : Nat) : 4 ≤ roomB o := by
  unfold roomB
  split
  · omega
  · split
    · omega
    · split <;> omega
theorem roomB_hi (o : Nat) : roomB o ≤ 96 := by
  unfold roomB
  split
  · omega
  · split
    · omega
    · split <;> omega
def bgs (B : Nat) (σ : rr_M) (Z : Nat → Option Int) : Prop := ∀ o, isB o = true → mg_r σ (B + o) 0 = B + o + 1 ∧ ∀ z, Z o = some z → bg (nx B) σ (B + o) z
def zup (Z : Nat → Option Int) (o : Nat) (z : Int) : Nat → Option Int := fun j => if j = o then some z else Z j
def zrm (Z : Nat → Option Int) (o : Nat) : Nat → Option Int := fun j => if j = o then none else Z j
theorem zup_s (Z : Nat → Option Int) (o : Nat) (z : Int) : zup Z o z o = some z := by simp [zup]
theorem zup_n {Z : Nat → Option Int} {o j : Nat} {z : Int} (h : j ≠ o) : zup Z o z j = Z j := by simp [zup, h]
theorem zrm_s (Z : Nat → Option Int) (o : Nat) : zrm Z o o = none := by simp [zrm]
theorem zrm_n {Z : Nat → Option Int} {o j : Nat} (h : j ≠ o) : zrm Z o j = Z j := by simp [zrm, h]
/-- nothing but large numbers has changed -/
def sbf (B : Nat) (σ σ' : rr_M) : Prop := mg_r σ' = mg_r σ ∧ (∀ o, isB o = false → mg_i σ' (B + o) = mg_i σ (B + o)) ∧ (∀ o, isB (o - 1) = false → mg_l σ' (B + o) = mg_l σ (B + o))
theorem sbf_rfl (B : Nat) (σ : rr_M) : sbf B σ σ := ⟨rfl, fun _ _ => rfl, fun _ _ => rfl⟩
theorem sbf_tr {B : Nat} {σ σ' σ'' : rr_M} (h1 : sbf B σ σ') (h2 : sbf B σ' σ'') : sbf B σ σ'' :=
  ⟨h2.1.trans h1.1, fun o ho => (h2.2.1 o ho).trans (h1.2.1 o ho), fun o ho => (h2.2.2 o ho).trans (h1.2.2 o ho)⟩
theorem bpt_r (σ : rr_M) (a : Nat) (g : Nat → Int64) (n : Nat) : mg_r (bpt σ a g n) = mg_r σ := rfl
theorem bpt_i {σ : rr_M} {a b : Nat} {g : Nat → Int64} {n : Nat} (h : b ≠ a) : mg_i (bpt σ a g n) b = mg_i σ b := by
  unfold bpt
  rw [rr_oI h, mw_i]
theorem bpt_l {σ : rr_M} {a b : Nat} {g : Nat → Int64} {n : Nat} (h : b ≠ a + 1) : mg_l (bpt σ a g n) b = mg_l σ b := by
  unfold bpt
  rw [si_l, mw_gn _ h]
theorem bg_keep {N : Nat → Nat} {σ σ' : rr_M} {a : Nat} {z : Int} (h : bg N σ a z) (h1 : mg_r σ' = mg_r σ) (h2 : mg_i σ' a = mg_i σ a) (h3 : mg_l σ' (a + 1) = mg_l σ (a + 1)) : bg N σ' a z := by
  obtain ⟨q1, n, q2, q3, q4, q5⟩ := h
  exact ⟨by rw [h1]; exact q1, n, q2, by rw [h2]; exact q3, by rw [h3]; exact q4, by rw [h3]; exact q5⟩
theorem bgs_put {B x n : Nat} {σ : rr_M} {Z : Nat → Option Int} {g : Nat → Int64} (h : bgs B σ Z) (hx : isB x = true) (hb : bd g n) (hn : n < nx B (B + x + 1)) : bgs B (bpt σ (B + x) g n) (zup Z x (dv g (n + 1))) ∧ sbf B σ (bpt σ (B + x) g n) := by
  refine ⟨fun o ho => ⟨(h o ho).1, fun z hz => ?_⟩, rfl, fun o ho => ?_, fun o ho => ?_⟩
  · by_cases hox : o = x
    · subst hox
      rw [zup_s] at hz
      cases hz
      exact bg_bpt (h o ho).1 hn hb
    · rw [zup_n hox] at hz
      exact bg_keep ((h o ho).2 z hz) rfl (bpt_i (by omega)) (bpt_l (by omega))
  · refine bpt_i (fun hc => ?_)
    have : o = x := by omega
    rw [this, hx] at ho
    cases ho
  · refine bpt_l (fun hc => ?_)
    have : o - 1 = x := by omega
    rw [this, hx] at ho
    cases ho
theorem bgs_rm {B x : Nat} {σ : rr_M} {Z : Nat → Option Int} {g : Nat → Int64} (h : bgs B σ Z) (hx : isB x = true) : bgs B (mw_l σ (B + x + 1) g) (zrm Z x) ∧ sbf B σ (mw_l σ (B + x + 1) g) := by
  refine ⟨fun o ho => ⟨(h o ho).1, fun z hz => ?_⟩, rfl, fun o ho => rfl, fun o ho => ?_⟩
  · by_cases hox : o = x
    · subst hox
      rw [zrm_s] at hz
      cases hz
    · rw [zrm_n hox] at hz
      exact bg_keep ((h o ho).2 z hz) rfl rfl (mw_gn _ (by omega))
  · refine mw_gn _ (fun hc => ?_)
    have : o - 1 = x := by omega
    rw [this, hx] at ho
    cases ho
def szl (m : Nat) (z : Int) : Prop := -(1073741824 : Int) ^ m < z ∧ z < (1073741824 : Int) ^ m
theorem szl_mono {m n : Nat} {z : Int} (h : szl m z) (hmn : m ≤ n) : szl n z := by
  have := pw_mono (b := 1073741824) (by decide) hmn
  unfold szl at *
  omega
theorem bo_set {fu B x : Nat} {σ : rr_M} {Z : Nat → Option Int} (hfu : 400 < fu) (h : bgs B σ Z) (hx : isB x = true) (v : Int64) : wq (f_Big_set fu (nx B) (B + x) v σ) (fun y => bgs B y.2 (zup Z x v.toInt) ∧ sbf B σ y.2) := by
  have hr := roomB_nx (B := B) hx
  have h1 := roomB_lo x
  have h2 := roomB_hi x
  refine wq_mo (big_set (h x hx).1 (by omega) (by omega) (by omega)) ?_
  rintro y ⟨g, n, e1, e2, e3, e4⟩
  rw [e1, ← e4]
  exact bgs_put h hx e2 e3
theorem bo_copy {B x y : Nat} {σ : rr_M} {Z : Nat → Option Int} {v : Int} (h : bgs B σ Z) (hx : isB x = true) (hy : isB y = true) (hv : Z y = some v) (hs : szl (roomB x) v) : wq (f_Big_copy (nx B) (B + x) (B + y) σ) (fun r => bgs B r.2 (zup Z x v) ∧ sbf B σ r.2) := by
  have hr := roomB_nx (B := B) hx
  have hry := roomB_nx (B := B) hy
  have h1 := roomB_lo x
  have h2 := roomB_hi x
  have h3 := roomB_hi y
  obtain ⟨q1, n, q2, q3, q4, q5⟩ := (h y hy).2 v hv
  have hl := bd_len q4 q5 hs.1 hs.2
  refine wq_mo (big_copy (h x hx).1 (by omega) q1 (by omega) q2 (by omega) q3 q4 q5) ?_
  rintro r ⟨g, m, e1, e2, e3, e4⟩
  rw [e1, ← e4]
  exact bgs_put h hx e2 e3
theorem bo_mul {fu B x y w m1 m2 : Nat} {σ : rr_M} {Z : Nat → Option Int} {v u : Int} (hfu : 400 < fu) (h : bgs B σ Z) (hx : isB x = true) (hy : isB y = true) (hw : isB w = true) (hyx : y ≠ x) (hwx : w ≠ x) (hv : Z y = some v) (hu : Z w = some u) (hs1 : szl m1 v) (hs2 : szl m2 u) (h1 : 1 ≤ m1) (h2 : 1 ≤ m2) (hm : m1 + m2 ≤ roomB x) :
    wq (f_Big_setProduct fu (nx B) (B + x) (B + y) (B + w) σ) (fun r => bgs B r.2 (zup Z x (v * u)) ∧ sbf B σ r.2) := by
  have r1 := roomB_nx (B := B) hx
  have r2 := roomB_nx (B := B) hy
  have r3 := roomB_nx (B := B) hw
  have l1 := roomB_hi x
  have l2 := roomB_hi y
  have l3 := roomB_hi w
  obtain ⟨q1, n, q2, q3, q4, q5⟩ := (h y hy).2 v hv
  obtain ⟨p1, k, p2, p3, p4, p5⟩ := (h w hw).2 u hu
  have b1 := bd_len q4 q5 hs1.1 hs1.2
  have b2 := bd_len p4 p5 hs2.1 hs2.2
  refine wq_mo (big_setProduct (h x hx).1 (by omega) q1 (by omega) p1 (by omega) hfu (by omega) (by omega) q2 q3 q4 q5 p2 p3 p4 p5 (by omega)) ?_
  rintro r ⟨g, m, e1, e2, e3, e4⟩
  rw [e1, ← e4]
  exact bgs_put h hx e2 e3
theorem bo_add {fu B x y m1 m2 u : Nat} {σ : rr_M} {Z : Nat → Option Int} {v w : Int} {F : Int64} (hfu : 400 < fu) (h : bgs B σ Z) (hx : isB x = true) (hy : isB y = true) (hyx : y = x → u = 0) (hv : Z x = some v) (hw : Z y = some w) (hs1 : szl m1 v) (hs2 : szl m2 w) (h1 : 1 ≤ m1) (h2 : 1 ≤ m2) (hm : max m1 (m2 + u) + 2 ≤ roomB x) (hF1 : -1073741824 ≤ F.toInt) (hF2 : F.toInt ≤ 1073741824) :
    wq (f_Big_addTimes fu (nx B) (B + x) (B + y) F (nI u) σ) (fun r => bgs B r.2 (zup Z x (v + F.toInt * (w * 1073741824 ^ u))) ∧ sbf B σ r.2) := by
  have r1 := roomB_nx (B := B) hx
  have r2 := roomB_nx (B := B) hy
  have l1 := roomB_hi x
  have l2 := roomB_hi y
  obtain ⟨q1, n, q2, q3, q4, q5⟩ := (h x hx).2 v hv
  obtain ⟨p1, k, p2, p3, p4, p5⟩ := (h y hy).2 w hw
  have b1 := bd_len q4 q5 hs1.1 hs1.2
  have b2 := bd_len p4 p5 hs2.1 hs2.2
  refine wq_mo (big_addTimes (h x hx).1 (by omega) p1 (by omega) hfu q2 q3 q4 q5 p2 p3 p4 p5 (fun e => hyx (by omega)) (fun e => by omega) (by omega) hF1 hF2) ?_
  rintro r ⟨g, m, e1, e2, e3, e4⟩
  rw [e1, ← e4]
  exact bgs_put h hx e2 e3
theorem bo_neg {fu B x m1 : Nat} {σ : rr_M} {Z : Nat → Option Int} {v : Int} (hfu : 400 < fu) (h : bgs B σ Z) (hx : isB x = true) (hv : Z x = some v) (hs1 : szl m1 v) (h1 : 1 ≤ m1) (hm : m1 < roomB x) :
    wq (f_Big_negate fu (nx B) (B + x) σ) (fun r => bgs B r.2 (zup Z x (-v)) ∧ sbf B σ r.2) := by
  have r1 := roomB_nx (B := B) hx
  have l1 := roomB_hi x
  obtain ⟨q1, n, q2, q3, q4, q5⟩ := (h x hx).2 v hv
  have b1 := bd_len q4 q5 hs1.1 hs1.2
  refine wq_mo (big_negate (h x hx).1 (by omega) (by omega) (by omega) q3 q4 q5) ?_
  rintro r ⟨g, m, e1, e2, e3, e4⟩
  rw [e1, ← e4]
  exact bgs_put h hx e2 e3
theorem bo_ntz {fu B x : Nat} {σ : rr_M} {Z : Nat → Option Int} {v : Int} (hfu : 400 < fu) (h : bgs B σ Z) (hx : isB x = true) (hv : Z x = some v) : wq (f_Big_trailingZeros fu (nx B) (B + x) σ) (fun y => ∃ s : Nat, s < 6100 ∧ y = nI s ∧ (v = 0 → s = 0) ∧ (v ≠ 0 → ∃ w, v = 2 ^ s * (2 * w + 1))) := by
  have r1 := roomB_nx (B := B) hx
  have l1 := roomB_hi x
  exact big_ntz ((h x hx).2 v hv) (by omega) hfu
theorem bo_shd {fu B x s : Nat} {σ : rr_M} {Z : Nat → Option Int} {v : Int} (hfu : 400 < fu) (h : bgs B σ Z) (hx : isB x = true) (hv : Z x = some (2 ^ s * v)) (hs : s < 100000) : wq (f_Big_shiftDown fu (nx B) (B + x) (nI s) σ) (fun r => bgs B r.2 (zup Z x v) ∧ sbf B σ r.2) := by
  have r1 := roomB_nx (B := B) hx
  have l1 := roomB_hi x
  obtain ⟨q1, n, q2, q3, q4, q5⟩ := (h x hx).2 _ hv
  refine wq_mo (big_shiftDown (h x hx).1 (by omega) hfu hs q2 q3 q4 q5) ?_
  rintro r ⟨g, m, e1, e2, e3, e4⟩
  rw [e1, ← e4]
  exact bgs_put h hx e2 e3
theorem quo_len {gr go : Nat → Int64} {nr no mq : Nat} {q zo : Int} (hr : bd gr nr) (ho : bd go no) (hzr : dv gr (nr + 1) = q * zo) (hzo : dv go (no + 1) = zo) (hq : szl mq q) : nr ≤ mq + no := by
  by_cases h0 : q * zo = 0
  · rcases Nat.eq_zero_or_pos nr with h1 | h1
    · omega
    · have := bd_big hr h1
      have := pB_pos nr
      rw [hzr, h0] at *
      omega
  · have h1 := bd_ge hr (by rw [hzr]; exact h0)
    have h2 := ho.1.2
    rw [hzo] at h2
    rw [hzr] at h1
    have hp := pB_pos (no + 1)
    have hq1 : -((1073741824 : Int) ^ mq - 1) ≤ q := by have := hq.1; omega
    have hq2 : q ≤ (1073741824 : Int) ^ mq - 1 := by have := hq.2; omega
    have h3 := abs_mul_le hq1 hq2 h2.1 h2.2
    rw [Int.sub_mul, Int.one_mul, ← Int.pow_add] at h3
    apply Nat.le_of_not_lt
    intro h4
    have h5 : (1073741824 : Int) ^ (mq + (no + 1)) ≤ 1073741824 ^ nr := pw_mono (by decide) (by omega)
    omega
theorem bo_quo {fu B x r o mr mq : Nat} {σ : rr_M} {Z : Nat → Option Int} {q zo wo : Int} (hfu : 400 < fu) (h : bgs B σ Z) (hx : isB x = true) (hr : isB r = true) (ho : isB o = true) (hxr : x ≠ r) (hxo : x ≠ o) (hor : o ≠ r) (hzr : Z r = some (q * zo)) (hzo : Z o = some zo) (hodd : zo = 2 * wo + 1) (hs : szl mr (q * zo)) (h1 : 1 ≤ mr) (hmr : mr + 1 ≤ roomB r) (hq : szl mq q) (hmq : mq + 2 ≤ roomB x) :
    wq (f_Big_setQuotient fu (nx B) (B + x) (B + r) (B + o) σ) (fun y => bgs B y.2 (zup (zrm Z r) x q) ∧ sbf B σ y.2) := by
  have r1 := roomB_nx (B := B) hx
  have r2 := roomB_nx (B := B) hr
  have r3 := roomB_nx (B := B) ho
  have l1 := roomB_hi x
  have l2 := roomB_hi r
  have l3 := roomB_hi o
  obtain ⟨q1, n, q2, q3, q4, q5⟩ := (h r hr).2 _ hzr
  obtain ⟨p1, k, p2, p3, p4, p5⟩ := (h o ho).2 _ hzo
  have b1 := bd_len q4 q5 hs.1 hs.2
  have b2 := quo_len q4 p4 q5 p5 hq
  refine wq_mo (big_setQuotient hfu (h x hx).1 (by omega) q1 (by omega) p1 (by omega) (by omega) (by omega) (by omega) q2 q3 q4 q5 p2 p3 p4 p5 hodd rfl (by omega) (by omega)) ?_
  rintro y ⟨g2, g, m, e1, e2, e3, e4⟩
  rw [e1, ← e4]
  obtain ⟨c1, c2⟩ := bgs_rm (g := g2) h hr
  obtain ⟨c3, c4⟩ := bgs_put c1 hx e2 e3
  exact ⟨c3, sbf_tr c2 c4⟩
def sgI (z : Int) : Int32 := if 0 < z then 1 else if z < 0 then -1 else 0
theorem bo_sgn {B x : Nat} {σ : rr_M} {Z : Nat → Option Int} {v : Int} (h : bgs B σ Z) (hx : isB x = true) (hv : Z x = some v) : f_Big_signum (nx B) (B + x) σ = some (sgI v) := by
  have r1 := roomB_nx (B := B) hx
  have l1 := roomB_hi x
  exact big_signum ((h x hx).2 v hv) (by omega)
theorem bo_tol {fu B x : Nat} {σ : rr_M} {Z : Nat → Option Int} {v : Int} (hfu : 400 < fu) (h : bgs B σ Z) (hx : isB x = true) (hv : Z x = some v) (h1 : -2305843009213693952 ≤ v) (h2 : v ≤ 2305843009213693952) : wq (f_Big_toLong fu (nx B) (B + x) σ) (fun r => r.toInt = v) := by
  have r1 := roomB_nx (B := B) hx
  have l1 := roomB_hi x
  exact big_toLong ((h x hx).2 v hv) (by omega) hfu h1 h2
theorem sgI_t (z : Int) : (sgI z).toInt = z.sign := by
  unfold sgI
  rcases Int.lt_trichotomy z 0 with h | h | h
  · rw [if_neg (by omega), if_pos h, Int.sign_eq_neg_one_of_neg h]; rfl
  · subst h; rfl
  · rw [if_pos h, Int.sign_eq_one_of_pos h]; rfl
theorem sgI_0 {z : Int} : sgI z = 0 ↔ z = 0 := by
  constructor
  · intro h
    have := sgI_t z
    rw [h] at this
    exact Int.sign_eq_zero_iff_zero.mp this.symm
  · intro h; rw [h]; rfl
