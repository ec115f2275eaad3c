/-! ===== the start; all calls ===== -/
theorem isB_top {o : Nat} (h : isB o = true) : o < 341 := by
  unfold isB at h
  simp only [Bool.or_eq_true, Bool.and_eq_true, decide_eq_true_eq] at h
  omega
theorem rx_big : ∀ o, o < 341 → isB o = true → RX o 0 = o + 1 := by decide +kernel
theorem rx_280 : RX 280 0 = 281 ∧ RX 280 2 = 283 ∧ RX 280 3 = 284 ∧ RX 280 4 = 286 := by decide +kernel
theorem rx_339 : RX 339 0 = 340 := by decide +kernel
theorem kx_t : ∀ t, t < 8 → KX (2 + 7 * t) ≠ 0 := by decide +kernel
theorem inv_x (B : Nat) : IXc B (sX B) (fun _ => pz) := by
  refine ⟨fun o k _ => lx_r B o k, ⟨fun o => if o = 339 then some 1 else none, fun o ho => ⟨?_, fun z hz => ?_⟩, if_pos rfl⟩, ⟨284, 286, ?_⟩, fun t ht => ⟨⟨fun _ _ => rfl, fun k => ?_⟩, fun j _ => ?_, Or.inl ⟨?_, ?_⟩⟩⟩
  · rw [lx_r, rx_big o (isB_top ho) ho]
    rfl
  · dsimp only at hz
    by_cases h : o = 339
    · subst h
      rw [if_pos rfl] at hz
      have hz1 : z = 1 := (Option.some.inj hz).symm
      subst hz1
      have g0 : (mg_l (sX B) (B + 339 + 1) 0).toInt = 1 := by
        show (if B + 339 + 1 = B + 340 ∧ 0 = 0 then (1 : Int64) else 0).toInt = 1
        rw [if_pos ⟨rfl, rfl⟩]
        rfl
      refine ⟨?_, 0, ?_, ?_, ⟨⟨fun k hk => absurd hk (by omega), ?_⟩, fun h => absurd h (by omega)⟩, ?_⟩
      · rw [lx_r, rx_339]
      · rw [show B + 339 + 1 = B + 340 from rfl, nx_at]
        decide +kernel
      · rw [lx_i, if_pos (by decide +kernel)]
        rfl
      · simp only [dv, g0]
        decide
      · simp only [dv, g0]
        decide
    · rw [if_neg h] at hz
      exact absurd hz (by simp)
  · obtain ⟨r0, r2, r3, r4⟩ := rx_280
    exact ⟨by rw [lx_r, r0], by rw [lx_r, r2], by rw [lx_r, r3], by rw [lx_r, r4], Or.inl ⟨rfl, rfl⟩⟩
  · show -100000000 ≤ (0 : Int) ∧ (0 : Int) ≤ 100000000
    omega
  · rw [lx_l B _ _ (by omega)]
    rfl
  · rw [lx_i, if_neg (fun h => kx_t t ht h.1)]
  · rw [lx_i, if_neg (fun h => kx_t t ht h.1)]
theorem inv_m (C : Nat) : IMc C (sM C) (fun _ => pz) := by
  refine ⟨⟨fun _ => 0, ?_, fun s _ => ⟨0, by omega, rfl, fun k hk => absurd hk (by omega), fun h => absurd h (by omega), rfl, rfl⟩⟩, fun t _ k _ => rfl⟩
  show mg_r (sM C) C = fun k => C + RM 0 k
  funext k
  show C + RM (C - C) k = _
  rw [Nat.sub_self]
theorem inv_0 (B : Nat) : Inv B (B + 341) (sX B) (sM (B + 341)) := by
  refine ⟨fun _ => pz, inv_x B, inv_m (B + 341), 0, by omega, ?_, rfl, ?_, fun i hi => absurd hi (by omega)⟩
  · rw [lx_i, if_neg (by decide +kernel)]
    rfl
  · rw [lx_i, if_neg (by omega)]
    rfl
theorem pure_ops : ∃ (fu : Nat) (Inv : Nat → Nat → rr_M → rr_M → Prop), (∀ B : Nat, rl_ops fu B (B + 341) (Inv B (B + 341))) ∧ ∀ B : Nat, Inv B (B + 341) (sX B) (sM (B + 341)) := by
  have h : 70000 < 100000 := by omega
  have h4 : 400 < 100000 := by omega
  exact ⟨100000, Inv, fun B => ⟨op_feed_ok h4, op_end_ok, op_read_ok h, op_fault_ok, op_put_ok, op_operate_ok h, op_join_ok h, op_times_ok h, op_number_ok, op_count_ok h, op_root_ok h, op_often_ok h, op_between_ok h, op_sign_ok h, op_laced_ok h, op_chain_ok h, op_member_ok h, op_fails_ok h, op_row_ok h, op_mean_ok h⟩, inv_0⟩
