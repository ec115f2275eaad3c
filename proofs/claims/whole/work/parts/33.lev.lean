/-! ===== levels: roots of one less ===== -/
theorem lev_r1 {A : Type} (I : Lean.Grind.CommRing A) (f2 h0 h1 e0 e1 d0 : A) (h : (f2 * h1) * e0 = (f2 * e1) * h0 + (f2 * h1) * d0) :
    f2 * (h1 * e0) = f2 * (e1 * h0 + h1 * d0) := by grind
theorem lev_a {f0 f1 f2 h0 h1 e0 e1 : Pl} (a0 : f0 = pmu f1 h0) (b0 : der f0 = pmu f1 e0) (a1 : f1 = pmu f2 h1) (b1 : der f1 = pmu f2 e1) (hf : f2 ≠ pz) :
    pmu h1 e0 = pad (pmu e1 h0) (pmu h1 (der h0)) := by
  apply pmu_cancel hf
  have h1' := b0
  rw [a0, der_pmu, b1] at h1'
  rw [a1] at h1'
  exact lev_r1 rP f2 h0 h1 e0 e1 (der h0) h1'.symm
theorem lev_r2 {A : Type} (I : Lean.Grind.CommRing A) (u v h0 h1 e0 e1 d0 k : A) (hk : u * h1 + v * e1 = k) (h : h1 * e0 = e1 * h0 + h1 * d0) :
    k * h0 = h1 * (u * h0 + v * (e0 - d0)) := by grind
theorem lev_r3 {A : Type} (I : Lean.Grind.CommRing A) (u v h0 h1 e0 e1 d0 k : A) (hk : u * h1 + v * e1 = k) (h : h1 * e0 = e1 * h0 + h1 * d0) :
    k * e0 = k * d0 + e1 * (u * h0 + v * (e0 - d0)) := by grind
theorem pcn_pmu (a b : Int) : pcn (a * b) = pmu (pcn a) (pcn b) := by
  rw [pcn_mu]
  exact pl_ext (fun k => by simp only [pcn, psc]; split <;> simp)
theorem lev_b {h0 h1 e0 e1 : Pl} (f0 : fin h0) (fe : fin e0) (h : pmu h1 e0 = pad (pmu e1 h0) (pmu h1 (der h0))) (hc : cpr h1 e1) :
    ∃ (K : Int) (w : Pl), K ≠ 0 ∧ fin w ∧ psc K h0 = pmu h1 w ∧ psc K e0 = pad (psc K (der h0)) (pmu e1 w) := by
  obtain ⟨u, v, K, hu, hv, hK, hk⟩ := hc
  refine ⟨K, pad (pmu u h0) (pmu v (psb e0 (der h0))), hK, fin_pad (fin_pmu hu f0) (fin_pmu hv (fin_psb fe (fin_der f0))), ?_, ?_⟩
  · rw [← pcn_mu]; exact lev_r2 rP u v h0 h1 e0 e1 (der h0) (pcn K) hk h
  · rw [← pcn_mu, ← pcn_mu]; exact lev_r3 rP u v h0 h1 e0 e1 (der h0) (pcn K) hk h
-- h0 and its derivative share nothing
theorem lev_r4 {A : Type} (I : Lean.Grind.CommRing A) (u0 v0 h0 h1 e0 e1 d0 d1 w w' k k0 u1 v1 k1 : A) (ha : u0 * h0 + v0 * e0 = k0) (hb : k * h0 = h1 * w)
    (hc : k * e0 = k * d0 + e1 * w) (hd : k * d0 = d1 * w + h1 * w') (he : u1 * h1 + v1 * d1 = k1) :
    (u1 * (k * k0) * (h1 * k * u0 + k * (v0 * e1)) + v1 * ((k * k0) * d1 * k * u0 - (v0 * e1) * w' * (h1 * k * u0 + k * (v0 * e1)))) * h0
    + (u1 * (k * k0) * h1 * k * v0 + v1 * ((k * k0) * (v0 * e1) * k + (k * k0) * d1 * k * v0 - (v0 * e1) * w' * h1 * k * v0)) * d0 = (k * k0) * (k * k0) * k1 := by
  have s1 : w * (v0 * e1) = k * k0 - (k * u0 * h0 + k * v0 * d0) := by grind
  have s2 : (h1 * k * u0 + k * (v0 * e1)) * h0 + (h1 * k * v0) * d0 = k * k0 * h1 := by grind
  have s3 : (k * k0) * d1 = (v0 * e1) * k * d0 + d1 * (k * u0 * h0 + k * v0 * d0) - (v0 * e1) * w' * h1 := by grind
  have s4 : (k * k0) * ((k * k0) * d1) = (k * k0) * (v0 * e1) * k * d0 + (k * k0) * d1 * (k * u0 * h0 + k * v0 * d0) - (v0 * e1) * w' * ((h1 * k * u0 + k * (v0 * e1)) * h0 + (h1 * k * v0) * d0) := by
    rw [s2]
    generalize v0 * e1 = t at *
    grind
  have s5 : (k * k0) * (k * k0) * k1 = u1 * (k * k0) * (k * k0 * h1) + v1 * ((k * k0) * ((k * k0) * d1)) := by rw [← he]; grind
  rw [s5, s4, ← s2]
  generalize v0 * e1 = t
  grind
theorem lev_c {h0 h1 e0 e1 w : Pl} {K : Int} (hK : K ≠ 0) (fh0 : fin h0) (fh1 : fin h1) (fe1 : fin e1) (fw : fin w) (hb : psc K h0 = pmu h1 w) (hc : psc K e0 = pad (psc K (der h0)) (pmu e1 w))
    (c0 : cpr h0 e0) (c1 : cpr h1 (der h1)) : cpr h0 (der h0) := by
  obtain ⟨u0, v0, k0, hu0, hv0, hk0, ha⟩ := c0
  obtain ⟨u1, v1, k1, hu1, hv1, hk1, he⟩ := c1
  have hd : psc K (der h0) = pad (pmu (der h1) w) (pmu h1 (der w)) := by rw [← der_psc, hb, der_pmu]
  rw [← pcn_mu] at hb
  rw [← pcn_mu, ← pcn_mu] at hc
  rw [← pcn_mu] at hd
  have h1' := lev_r4 rP u0 v0 h0 h1 e0 e1 (der h0) (der h1) w (der w) (pcn K) (pcn k0) u1 v1 (pcn k1) ha hb hc hd he
  have e1' : pcn (K * k0 * (K * k0) * k1) = pmu (pmu (pmu (pcn K) (pcn k0)) (pmu (pcn K) (pcn k0))) (pcn k1) := by
    rw [pcn_pmu, pcn_pmu, pcn_pmu]
  have fn : fin (pmu (pcn K) (pcn k0)) := fin_pmu (fin_pcn _) (fin_pcn _)
  have ft : fin (pmu v0 e1) := fin_pmu hv0 fe1
  have fx : fin (pad (pmu (pmu h1 (pcn K)) u0) (pmu (pcn K) (pmu v0 e1))) := fin_pad (fin_pmu (fin_pmu fh1 (fin_pcn _)) hu0) (fin_pmu (fin_pcn _) ft)
  refine ⟨_, _, K * k0 * (K * k0) * k1, ?_, ?_, ?_, h1'.trans e1'.symm⟩
  · exact fin_pad (fin_pmu (fin_pmu hu1 fn) fx) (fin_pmu hv1 (fin_psb (fin_pmu (fin_pmu (fin_pmu fn (fin_der fh1)) (fin_pcn _)) hu0) (fin_pmu (fin_pmu ft (fin_der fw)) fx)))
  · exact fin_pad (fin_pmu (fin_pmu (fin_pmu (fin_pmu hu1 fn) fh1) (fin_pcn _)) hv0) (fin_pmu hv1 (fin_psb (fin_pad (fin_pmu (fin_pmu fn ft) (fin_pcn _)) (fin_pmu (fin_pmu (fin_pmu fn (fin_der fh1)) (fin_pcn _)) hv0)) (fin_pmu (fin_pmu (fin_pmu (fin_pmu ft (fin_der fw)) fh1) (fin_pcn _)) hv0)))
  · exact Int.mul_ne_zero (Int.mul_ne_zero (Int.mul_ne_zero hK hk0) (Int.mul_ne_zero hK hk0)) hk1
theorem lev_r5 {A : Type} (I : Lean.Grind.CommRing A) (u v h0 d0 h1 d1 w w' k κ : A) (hk : u * h0 + v * d0 = κ) (hb : k * h0 = h1 * w) (hd : k * d0 = d1 * w + h1 * w') :
    (u * w + v * w') * h1 + (v * d1) * w = k * κ := by grind
theorem lev_d {h0 h1 w : Pl} {K : Int} (hK : K ≠ 0) (fh1 : fin h1) (fw : fin w) (hb : psc K h0 = pmu h1 w) (c0 : cpr h0 (der h0)) : cpr h1 w := by
  obtain ⟨u, v, κ, hu, hv, hκ, hk⟩ := c0
  have hd : psc K (der h0) = pad (pmu (der h1) w) (pmu h1 (der w)) := by rw [← der_psc, hb, der_pmu]
  rw [← pcn_mu] at hb hd
  have h1' := lev_r5 rP u v h0 (der h0) h1 (der h1) w (der w) (pcn K) (pcn κ) hk hb hd
  exact ⟨_, _, K * κ, fin_pad (fin_pmu hu fw) (fin_pmu hv (fin_der fw)), fin_pmu hv (fin_der fh1), Int.mul_ne_zero hK hκ, h1'.trans (pcn_pmu K κ).symm⟩
