/-! ===== row ===== -/
/-- what a model's row reads -/
theorem mat_g {C t k : Nat} {σ : rr_M} {g : Nat → Int64} (hm : mrf C σ) (ht : t < 8) (hg : ∀ k, k < 9 → mg_l σ (C + 8) (9 * t + k) = g k) (hk : k < 9) : f_Mod_at (nm C) C (nI t) (nI k) σ = some (g k) := by
  rw [mat_ok hm (by omega) hk, hg k hk]
def fff (c : Nat → Bool) (d : Nat) : Nat → Int32
  | 0 => 0
  | m + 1 => if c (d - (m + 1)) = true then fff c d m else nI (d - (m + 1))
def cNw (g : Nat → Int64) (d k : Nat) : Bool := decide ((((g (k - 1) * g (k + 1)) * (nI (k + 1)).toInt64) * ((nI d - nI k) + 1).toInt64) ≤ (((g k * g k) * (nI k).toInt64) * (nI d - nI k).toInt64))
def cBt (g : Nat → Int64) (k : Nat) : Bool := decide ((g (k - 1) * g (k + 1)) ≤ (g k * g k))
theorem nwt_x {fu B o d : Nat} {σ : rr_M} (hfu : 400 < fu) (hn : nx B (B + o) = 9) (hd : d ≤ 8) : f_Row_firstAgainstNewton fu (nx B) (B + o) (nI d) σ = some (fff (cNw (mg_l σ (B + o)) d) d (d - 1)) := by
  have key : ∀ (fl m : Nat), m < d → m < fl → l_Row_firstAgainstNewton_2 fu (nx B) (B + o) (nI d) σ fl (nI (d - m)) (some 0) = some (fff (cNw (mg_l σ (B + o)) d) d m) := by
    intro fl
    induction fl with
    | zero => intro m h1 h2; omega
    | succ fl ih =>
      intro m h1 h2
      rw [l_Row_firstAgainstNewton_2, hn]
      by_cases hm : m = 0
      · subst hm
        rw [if_pos (nI_le (by omega) (by omega))]
        rfl
      obtain ⟨m', rfl⟩ : ∃ m', m = m' + 1 := ⟨m - 1, by omega⟩
      have ih' := ih m' (by omega) (by omega)
      rw [show d - m' = d - (m' + 1) + 1 by omega] at ih'
      rw [show fff (cNw (mg_l σ (B + o)) d) d (m' + 1) = (if cNw (mg_l σ (B + o)) d (d - (m' + 1)) = true then fff (cNw (mg_l σ (B + o)) d) d m' else nI (d - (m' + 1))) from rfl]
      obtain ⟨k, hk⟩ : ∃ k, k = d - (m' + 1) := ⟨_, rfl⟩
      rw [← hk] at ih' ⊢
      have k1 : 1 ≤ k := by omega
      have k8 : k + 1 ≤ d := by omega
      rw [if_neg (nI_ge (by omega) (by omega)), nI_1, if_neg (nI_ge (by omega) (by omega)), nI_pr (show 0 < k by omega)]
      dsimp only [rr_lt]
      rw [ix_nI (show k < 9 by omega) (by omega), if_pos rfl, if_pos rfl, ix_nI (show k - 1 < 9 by omega) (by omega), if_pos rfl, ix_nI (show k + 1 < 9 by omega) (by omega), if_pos rfl, n_nI (show k < 2 ^ 31 by omega), n_nI (show k - 1 < 2 ^ 31 by omega), n_nI (show k + 1 < 2 ^ 31 by omega)]
      by_cases hc : (((mg_l σ (B + o) (k - 1) * mg_l σ (B + o) (k + 1)) * (nI (k + 1)).toInt64) * ((nI d - nI k) + 1).toInt64) ≤ (((mg_l σ (B + o) k * mg_l σ (B + o) k) * (nI k).toInt64) * (nI d - nI k).toInt64)
      · rw [if_pos hc, if_pos (show cNw (mg_l σ (B + o)) d k = true from decide_eq_true hc)]
        exact ih'
      · rw [if_neg hc, if_neg (show ¬ cNw (mg_l σ (B + o)) d k = true from fun hh => hc (of_decide_eq_true hh))]
  unfold f_Row_firstAgainstNewton
  by_cases h0 : d = 0
  · subst h0
    obtain ⟨f, rfl⟩ : ∃ f, fu = f + 1 := ⟨fu - 1, by omega⟩
    rw [l_Row_firstAgainstNewton_2, if_pos (by decide)]
    rfl
  · have := key fu (d - 1) (by omega) (by omega)
    rw [show d - (d - 1) = 1 by omega] at this
    exact this
theorem nwt_m {fu C t d : Nat} {σ : rr_M} {g : Nat → Int64} (hfu : 400 < fu) (hm : mrf C σ) (ht : t < 8) (hg : ∀ k, k < 9 → mg_l σ (C + 8) (9 * t + k) = g k) (hd : d ≤ 8) : f_Mod_firstNewton fu (nm C) C (nI t) (nI d) σ = some (fff (cNw g d) d (d - 1)) := by
  have key : ∀ (fl m : Nat), m < d → m < fl → l_Mod_firstNewton_2 fu (nm C) C (nI t) (nI d) σ fl (nI (d - m)) (some 0) = some (fff (cNw g d) d m) := by
    intro fl
    induction fl with
    | zero => intro m h1 h2; omega
    | succ fl ih =>
      intro m h1 h2
      rw [l_Mod_firstNewton_2]
      by_cases hm0 : m = 0
      · subst hm0
        rw [if_pos (nI_le (by omega) (by omega))]
        rfl
      obtain ⟨m', rfl⟩ : ∃ m', m = m' + 1 := ⟨m - 1, by omega⟩
      have ih' := ih m' (by omega) (by omega)
      rw [show d - m' = d - (m' + 1) + 1 by omega] at ih'
      rw [show fff (cNw g d) d (m' + 1) = (if cNw g d (d - (m' + 1)) = true then fff (cNw g d) d m' else nI (d - (m' + 1))) from rfl]
      obtain ⟨k, hk⟩ : ∃ k, k = d - (m' + 1) := ⟨_, rfl⟩
      rw [← hk] at ih' ⊢
      have k1 : 1 ≤ k := by omega
      have k8 : k + 1 ≤ d := by omega
      rw [if_neg (nI_ge (by omega) (by omega)), nI_1, nI_pr (show 0 < k by omega), mat_g hm ht hg (show k < 9 by omega), mat_g hm ht hg (show k - 1 < 9 by omega), mat_g hm ht hg (show k + 1 < 9 by omega)]
      dsimp only [rr_lt, Option.bind]
      by_cases hc : (((g (k - 1) * g (k + 1)) * (nI (k + 1)).toInt64) * ((nI d - nI k) + 1).toInt64) ≤ (((g k * g k) * (nI k).toInt64) * (nI d - nI k).toInt64)
      · rw [if_pos hc, if_pos (show cNw g d k = true from decide_eq_true hc)]
        exact ih'
      · rw [if_neg hc, if_neg (show ¬ cNw g d k = true from fun hh => hc (of_decide_eq_true hh))]
  unfold f_Mod_firstNewton
  by_cases h0 : d = 0
  · subst h0
    obtain ⟨f, rfl⟩ : ∃ f, fu = f + 1 := ⟨fu - 1, by omega⟩
    rw [l_Mod_firstNewton_2, if_pos (by decide)]
    rfl
  · have := key fu (d - 1) (by omega) (by omega)
    rw [show d - (d - 1) = 1 by omega] at this
    exact this
theorem bnt_x {fu B o d : Nat} {σ : rr_M} (hfu : 400 < fu) (hn : nx B (B + o) = 9) (hd : d ≤ 8) : f_Row_firstNotConcave fu (nx B) (B + o) (nI d) σ = some (fff (cBt (mg_l σ (B + o))) d (d - 1)) := by
  have key : ∀ (fl m : Nat), m < d → m < fl → l_Row_firstNotConcave_2 fu (nx B) (B + o) (nI d) σ fl (nI (d - m)) (some 0) = some (fff (cBt (mg_l σ (B + o))) d m) := by
    intro fl
    induction fl with
    | zero => intro m h1 h2; omega
    | succ fl ih =>
      intro m h1 h2
      rw [l_Row_firstNotConcave_2, hn]
      by_cases hm : m = 0
      · subst hm
        rw [if_pos (nI_le (by omega) (by omega))]
        rfl
      obtain ⟨m', rfl⟩ : ∃ m', m = m' + 1 := ⟨m - 1, by omega⟩
      have ih' := ih m' (by omega) (by omega)
      rw [show d - m' = d - (m' + 1) + 1 by omega] at ih'
      rw [show fff (cBt (mg_l σ (B + o))) d (m' + 1) = (if cBt (mg_l σ (B + o)) (d - (m' + 1)) = true then fff (cBt (mg_l σ (B + o))) d m' else nI (d - (m' + 1))) from rfl]
      obtain ⟨k, hk⟩ : ∃ k, k = d - (m' + 1) := ⟨_, rfl⟩
      rw [← hk] at ih' ⊢
      have k1 : 1 ≤ k := by omega
      have k8 : k + 1 ≤ d := by omega
      rw [if_neg (nI_ge (by omega) (by omega)), nI_1, if_neg (nI_ge (by omega) (by omega)), nI_pr (show 0 < k by omega)]
      dsimp only [rr_lt]
      rw [ix_nI (show k < 9 by omega) (by omega), if_pos rfl, if_pos rfl, ix_nI (show k - 1 < 9 by omega) (by omega), if_pos rfl, ix_nI (show k + 1 < 9 by omega) (by omega), if_pos rfl, n_nI (show k < 2 ^ 31 by omega), n_nI (show k - 1 < 2 ^ 31 by omega), n_nI (show k + 1 < 2 ^ 31 by omega)]
      by_cases hc : (mg_l σ (B + o) (k - 1) * mg_l σ (B + o) (k + 1)) ≤ (mg_l σ (B + o) k * mg_l σ (B + o) k)
      · rw [if_pos hc, if_pos (show cBt (mg_l σ (B + o)) k = true from decide_eq_true hc)]
        exact ih'
      · rw [if_neg hc, if_neg (show ¬ cBt (mg_l σ (B + o)) k = true from fun hh => hc (of_decide_eq_true hh))]
  unfold f_Row_firstNotConcave
  by_cases h0 : d = 0
  · subst h0
    obtain ⟨f, rfl⟩ : ∃ f, fu = f + 1 := ⟨fu - 1, by omega⟩
    rw [l_Row_firstNotConcave_2, if_pos (by decide)]
    rfl
  · have := key fu (d - 1) (by omega) (by omega)
    rw [show d - (d - 1) = 1 by omega] at this
    exact this
theorem bnt_m {fu C t d : Nat} {σ : rr_M} {g : Nat → Int64} (hfu : 400 < fu) (hm : mrf C σ) (ht : t < 8) (hg : ∀ k, k < 9 → mg_l σ (C + 8) (9 * t + k) = g k) (hd : d ≤ 8) : f_Mod_firstBent fu (nm C) C (nI t) (nI d) σ = some (fff (cBt g) d (d - 1)) := by
  have key : ∀ (fl m : Nat), m < d → m < fl → l_Mod_firstBent_2 fu (nm C) C (nI t) (nI d) σ fl (nI (d - m)) (some 0) = some (fff (cBt g) d m) := by
    intro fl
    induction fl with
    | zero => intro m h1 h2; omega
    | succ fl ih =>
      intro m h1 h2
      rw [l_Mod_firstBent_2]
      by_cases hm0 : m = 0
      · subst hm0
        rw [if_pos (nI_le (by omega) (by omega))]
        rfl
      obtain ⟨m', rfl⟩ : ∃ m', m = m' + 1 := ⟨m - 1, by omega⟩
      have ih' := ih m' (by omega) (by omega)
      rw [show d - m' = d - (m' + 1) + 1 by omega] at ih'
      rw [show fff (cBt g) d (m' + 1) = (if cBt g (d - (m' + 1)) = true then fff (cBt g) d m' else nI (d - (m' + 1))) from rfl]
      obtain ⟨k, hk⟩ : ∃ k, k = d - (m' + 1) := ⟨_, rfl⟩
      rw [← hk] at ih' ⊢
      have k1 : 1 ≤ k := by omega
      have k8 : k + 1 ≤ d := by omega
      rw [if_neg (nI_ge (by omega) (by omega)), nI_1, nI_pr (show 0 < k by omega), mat_g hm ht hg (show k < 9 by omega), mat_g hm ht hg (show k - 1 < 9 by omega), mat_g hm ht hg (show k + 1 < 9 by omega)]
      dsimp only [rr_lt, Option.bind]
      by_cases hc : (g (k - 1) * g (k + 1)) ≤ (g k * g k)
      · rw [if_pos hc, if_pos (show cBt g k = true from decide_eq_true hc)]
        exact ih'
      · rw [if_neg hc, if_neg (show ¬ cBt g k = true from fun hh => hc (of_decide_eq_true hh))]
  unfold f_Mod_firstBent
  by_cases h0 : d = 0
  · subst h0
    obtain ⟨f, rfl⟩ : ∃ f, fu = f + 1 := ⟨fu - 1, by omega⟩
    rw [l_Mod_firstBent_2, if_pos (by decide)]
    rfl
  · have := key fu (d - 1) (by omega) (by omega)
    rw [show d - (d - 1) = 1 by omega] at this
    exact this
-- a hump: while it rises, once it falls
def hDn (g : Nat → Int64) (d : Nat) : Nat → Int32
  | 0 => 1
  | m + 1 => if g (d - (m + 1) + 1) ≤ g (d - (m + 1)) then hDn g d m else 0
def hUp (g : Nat → Int64) (d : Nat) : Nat → Int32
  | 0 => 1
  | m + 1 => if g (d - (m + 1)) ≤ g (d - (m + 1) + 1) then hUp g d m else hDn g d m
theorem j_le {x y : Int64} : (x ≤ y) ↔ x.toInt ≤ y.toInt := Int64.le_iff_toInt_le
theorem j_lt {x y : Int64} : (x < y) ↔ x.toInt < y.toInt := Int64.lt_iff_toInt_lt
theorem hmp_x {fu B o d : Nat} {σ : rr_M} (hfu : 400 < fu) (hn : nx B (B + o) = 9) (hd : d ≤ 8) : f_Row_hasHump fu (nx B) (B + o) (nI d) σ = some (hUp (mg_l σ (B + o)) d d) := by
  have b0 : rr_b1 0 = true := by decide
  have b1 : rr_b1 1 = true := by decide
  have key : ∀ (fl m : Nat), m ≤ d → m < fl → l_Row_hasHump_4 fu (nx B) (B + o) (nI d) σ fl 0 (nI (d - m + 1)) (if rr_b1 1 = true then some 1 else none) = some (hUp (mg_l σ (B + o)) d m) ∧ l_Row_hasHump_4 fu (nx B) (B + o) (nI d) σ fl 1 (nI (d - m + 1)) (if rr_b1 1 = true then some 1 else none) = some (hDn (mg_l σ (B + o)) d m) := by
    intro fl
    induction fl with
    | zero => intro m h1 h2; omega
    | succ fl ih =>
      intro m h1 h2
      rw [l_Row_hasHump_4, l_Row_hasHump_4, hn]
      by_cases hm : m = 0
      · subst hm
        rw [if_pos (nI_lt (by omega) (by omega)), if_pos (nI_lt (by omega) (by omega)), b1, if_pos rfl]
        exact ⟨rfl, rfl⟩
      obtain ⟨m', rfl⟩ : ∃ m', m = m' + 1 := ⟨m - 1, by omega⟩
      obtain ⟨ih1, ih2⟩ := ih m' (by omega) (by omega)
      rw [show hUp (mg_l σ (B + o)) d (m' + 1) = (if mg_l σ (B + o) (d - (m' + 1)) ≤ mg_l σ (B + o) (d - (m' + 1) + 1) then hUp (mg_l σ (B + o)) d m' else hDn (mg_l σ (B + o)) d m') from rfl, show hDn (mg_l σ (B + o)) d (m' + 1) = (if mg_l σ (B + o) (d - (m' + 1) + 1) ≤ mg_l σ (B + o) (d - (m' + 1)) then hDn (mg_l σ (B + o)) d m' else 0) from rfl]
      rw [show d - m' + 1 = d - (m' + 1) + 1 + 1 by omega] at ih1 ih2
      obtain ⟨k, hk⟩ : ∃ k, k = d - (m' + 1) := ⟨_, rfl⟩
      rw [← hk] at ih1 ih2 ⊢
      have k8 : k + 1 ≤ d := by omega
      rw [if_neg (nI_nlt (by omega) (by omega)), if_neg (nI_ge (by omega) (by omega)), if_neg (nI_nlt (by omega) (by omega)), if_neg (nI_ge (by omega) (by omega)), nI_pred, ix_nI (show k + 1 < 9 by omega) (by omega), ix_nI (show k < 9 by omega) (by omega)]
      simp only [if_true, rr_lt, rr_jn]
      rw [nI_1, n_nI (show k < 2 ^ 31 by omega), n_nI (show k + 1 < 2 ^ 31 by omega)]
      constructor
      · by_cases hc : mg_l σ (B + o) k ≤ mg_l σ (B + o) (k + 1)
        · rw [if_pos hc, if_pos hc]
          exact ih1
        · rw [if_neg hc, if_neg hc]
          exact ih2
      · by_cases hc : mg_l σ (B + o) k ≤ mg_l σ (B + o) (k + 1)
        · rw [if_pos hc, if_neg (show ¬ (1 : Int32) = 0 by decide)]
          by_cases hc2 : mg_l σ (B + o) (k + 1) ≤ mg_l σ (B + o) k
          · rw [if_pos hc2, if_pos hc2]
            exact ih2
          · rw [if_neg hc2, if_neg hc2, b0, if_pos rfl]
        · rw [if_neg hc, if_pos (show mg_l σ (B + o) (k + 1) ≤ mg_l σ (B + o) k by rw [j_le] at hc ⊢; omega)]
          exact ih2
  unfold f_Row_hasHump
  have := (key fu d (by omega) (by omega)).1
  rw [show d - d + 1 = 1 by omega] at this
  exact this
theorem hmp_m {fu C t d : Nat} {σ : rr_M} {g : Nat → Int64} (hfu : 400 < fu) (hm : mrf C σ) (ht : t < 8) (hg : ∀ k, k < 9 → mg_l σ (C + 8) (9 * t + k) = g k) (hd : d ≤ 8) : f_Mod_hasHump fu (nm C) C (nI t) (nI d) σ = some (hUp g d d) := by
  have b0 : rr_b1 0 = true := by decide
  have b1 : rr_b1 1 = true := by decide
  have dn : ∀ (fl m : Nat), m ≤ d → m < fl → l_Mod_hasHump_31 fu (nm C) C (nI t) (nI d) σ fl (nI (d - m)) (fun v3_16 => if v3_16 = nI d then (if rr_b1 1 = true then some (1) else none) else if rr_b1 0 = true then some (0) else none) = some (hDn g d m) := by
    intro fl
    induction fl with
    | zero => intro m h1 h2; omega
    | succ fl ih =>
      intro m h1 h2
      rw [l_Mod_hasHump_31]
      by_cases hm0 : m = 0
      · subst hm0
        rw [if_pos (nI_le (by omega) (by omega)), if_pos (show nI (d - 0) = nI d from rfl), b1, if_pos rfl]
        rfl
      obtain ⟨m', rfl⟩ : ∃ m', m = m' + 1 := ⟨m - 1, by omega⟩
      have ih' := ih m' (by omega) (by omega)
      rw [show hDn g d (m' + 1) = (if g (d - (m' + 1) + 1) ≤ g (d - (m' + 1)) then hDn g d m' else 0) from rfl]
      rw [show d - m' = d - (m' + 1) + 1 by omega] at ih'
      obtain ⟨k, hk⟩ : ∃ k, k = d - (m' + 1) := ⟨_, rfl⟩
      rw [← hk] at ih' ⊢
      have k8 : k + 1 ≤ d := by omega
      rw [if_neg (nI_ge (by omega) (by omega)), nI_1, mat_g hm ht hg (show k < 9 by omega), mat_g hm ht hg (show k + 1 < 9 by omega)]
      dsimp only [rr_lt, Option.bind]
      by_cases hc : g k < g (k + 1)
      · rw [if_pos hc, if_neg (show ¬ g (k + 1) ≤ g k by rw [j_le]; rw [j_lt] at hc; omega), if_neg (fun hh => by have := (nI_eq (by omega) (by omega)).mp hh; omega), b0, if_pos rfl]
      · rw [if_neg hc, if_pos (show g (k + 1) ≤ g k by rw [j_le]; rw [j_lt] at hc; omega)]
        exact ih'
  have up : ∀ (fl m : Nat), m ≤ d → m < fl → l_Mod_hasHump_2 fu (nm C) C (nI t) (nI d) σ fl (nI (d - m)) (fun v3_8 => l_Mod_hasHump_31 fu (nm C) C (nI t) (nI d) σ fu v3_8 (fun v3_16 => if v3_16 = nI d then (if rr_b1 1 = true then some (1) else none) else if rr_b1 0 = true then some (0) else none)) = some (hUp g d m) := by
    intro fl
    induction fl with
    | zero => intro m h1 h2; omega
    | succ fl ih =>
      intro m h1 h2
      rw [l_Mod_hasHump_2]
      by_cases hm0 : m = 0
      · subst hm0
        rw [if_pos (nI_le (by omega) (by omega)), dn fu 0 (by omega) (by omega)]
        rfl
      obtain ⟨m', rfl⟩ : ∃ m', m = m' + 1 := ⟨m - 1, by omega⟩
      have ih' := ih m' (by omega) (by omega)
      have dn' := dn fu (m' + 1) h1 (by omega)
      rw [show hDn g d (m' + 1) = (if g (d - (m' + 1) + 1) ≤ g (d - (m' + 1)) then hDn g d m' else 0) from rfl] at dn'
      rw [show hUp g d (m' + 1) = (if g (d - (m' + 1)) ≤ g (d - (m' + 1) + 1) then hUp g d m' else hDn g d m') from rfl]
      rw [show d - m' = d - (m' + 1) + 1 by omega] at ih'
      obtain ⟨k, hk⟩ : ∃ k, k = d - (m' + 1) := ⟨_, rfl⟩
      rw [← hk] at ih' dn' ⊢
      have k8 : k + 1 ≤ d := by omega
      rw [if_neg (nI_ge (by omega) (by omega)), nI_1, mat_g hm ht hg (show k < 9 by omega), mat_g hm ht hg (show k + 1 < 9 by omega)]
      dsimp only [rr_lt, Option.bind]
      by_cases hc : g (k + 1) < g k
      · rw [if_pos hc, if_neg (show ¬ g k ≤ g (k + 1) by rw [j_le]; rw [j_lt] at hc; omega), dn', if_pos (show g (k + 1) ≤ g k by rw [j_le]; rw [j_lt] at hc; omega)]
      · rw [if_neg hc, if_pos (show g k ≤ g (k + 1) by rw [j_le]; rw [j_lt] at hc; omega)]
        exact ih'
  unfold f_Mod_hasHump
  have := up fu d (by omega) (by omega)
  rw [show d - d = 0 by omega] at this
  exact this
theorem or_z (x : Int32) : x ||| 0 = x := Int32.or_zero
theorem z_or (x : Int32) : 0 ||| x = x := Int32.zero_or
-- holes
def hlF (g : Nat → Int64) (d : Nat) : Nat → Int32 → Int32 → Int32
  | 0, b, _ => b
  | m + 1, b, s => if g (d - (m + 1)) = 0 then (if s = 0 then hlF g d m b s else hlF g d m (b ||| (1 <<< (nI (d - (m + 1)) &&& 31))) s) else hlF g d m b 1
theorem hol_x {fu B o d : Nat} {σ : rr_M} (hfu : 400 < fu) (hn : nx B (B + o) = 9) (hd : d ≤ 8) : f_Row_holes fu (nx B) (B + o) (nI d) σ = some (hlF (mg_l σ (B + o)) d d 0 0) := by
  have key : ∀ (fl m : Nat) (b s : Int32), m ≤ d → m < fl → l_Row_holes_7 fu (nx B) (B + o) (nI d) σ fl b s (nI (d - m)) (fun v => some v) = some (hlF (mg_l σ (B + o)) d m b s) := by
    intro fl
    induction fl with
    | zero => intro m b s h1 h2; omega
    | succ fl ih =>
      intro m b s h1 h2
      rw [l_Row_holes_7, hn]
      by_cases hm : m = 0
      · subst hm
        rw [if_pos (nI_le (by omega) (by omega))]
        rfl
      obtain ⟨m', rfl⟩ : ∃ m', m = m' + 1 := ⟨m - 1, by omega⟩
      have ih' := fun b s => ih m' b s (by omega) (by omega)
      rw [show d - m' = d - (m' + 1) + 1 by omega] at ih'
      rw [show hlF (mg_l σ (B + o)) d (m' + 1) b s = (if mg_l σ (B + o) (d - (m' + 1)) = 0 then (if s = 0 then hlF (mg_l σ (B + o)) d m' b s else hlF (mg_l σ (B + o)) d m' (b ||| (1 <<< (nI (d - (m' + 1)) &&& 31))) s) else hlF (mg_l σ (B + o)) d m' b 1) from rfl]
      obtain ⟨k, hk⟩ : ∃ k, k = d - (m' + 1) := ⟨_, rfl⟩
      rw [← hk] at ih' ⊢
      have k8 : k + 1 ≤ d := by omega
      rw [if_neg (nI_ge (by omega) (by omega)), if_neg (nI_ge (by omega) (by omega)), ix_nI (show k < 9 by omega) (by omega), if_pos rfl]
      dsimp only [rr_lt, rr_jn]
      rw [nI_1, n_nI (show k < 2 ^ 31 by omega)]
      by_cases h0 : mg_l σ (B + o) k = 0
      · rw [if_pos h0, if_pos h0]
        by_cases hs : s = 0
        · rw [if_pos hs, if_pos hs]
          exact ih' b s
        · rw [if_neg hs, if_neg hs]
          exact ih' _ s
      · rw [if_neg h0, if_neg h0]
        exact ih' b 1
  unfold f_Row_holes
  have := key fu d 0 0 (by omega) (by omega)
  rw [show d - d = 0 by omega] at this
  exact this
theorem hol_m {fu C t d : Nat} {σ : rr_M} {g : Nat → Int64} (hfu : 400 < fu) (hm : mrf C σ) (ht : t < 8) (hg : ∀ k, k < 9 → mg_l σ (C + 8) (9 * t + k) = g k) (hd : d ≤ 8) (h0 : g d ≠ 0) : f_Mod_holes fu (nm C) C (nI t) (nI d) σ = some (hlF g d d 0 0) := by
  have key : ∀ (fl m : Nat) (b s : Int32), (s = 0 ∨ s = 1) → m ≤ d → m + 1 < fl → l_Mod_holes_8 fu (nm C) C (nI t) (nI d) σ fl b s (nI (d - m)) (fun v => some v) = some (hlF g d m b s) := by
    intro fl
    induction fl with
    | zero => intro m b s _ h1 h2; omega
    | succ fl ih =>
      intro m b s hs h1 h2
      rw [l_Mod_holes_8]
      by_cases hm0 : m = 0
      · subst hm0
        obtain ⟨f', rfl⟩ : ∃ f', fl = f' + 1 := ⟨fl - 1, by omega⟩
        rw [show d - 0 = d by omega, if_neg (nI_nlt (by omega) (by omega)), mat_g hm ht hg (show d < 9 by omega), nI_1]
        dsimp only [rr_lt, rr_jn, Option.bind]
        have n10 : ¬ (1 : Int32) = 0 := by decide
        rcases hs with e | e
        · subst e
          simp only [h0, eq_self, if_true, if_false, or_z]
          rw [l_Mod_holes_8, if_pos (nI_lt (by omega) (by omega))]
          rfl
        · subst e
          simp only [h0, n10, eq_self, if_true, if_false, or_z]
          rw [l_Mod_holes_8, if_pos (nI_lt (by omega) (by omega))]
          rfl
      obtain ⟨m', rfl⟩ : ∃ m', m = m' + 1 := ⟨m - 1, by omega⟩
      have ih' := fun b s hs => ih m' b s hs (by omega) (by omega)
      rw [show d - m' = d - (m' + 1) + 1 by omega] at ih'
      rw [show hlF g d (m' + 1) b s = (if g (d - (m' + 1)) = 0 then (if s = 0 then hlF g d m' b s else hlF g d m' (b ||| (1 <<< (nI (d - (m' + 1)) &&& 31))) s) else hlF g d m' b 1) from rfl]
      obtain ⟨k, hk⟩ : ∃ k, k = d - (m' + 1) := ⟨_, rfl⟩
      rw [← hk] at ih' ⊢
      have k8 : k + 1 ≤ d := by omega
      rw [if_neg (nI_nlt (by omega) (by omega)), mat_g hm ht hg (show k < 9 by omega), nI_1]
      dsimp only [rr_lt, rr_jn, Option.bind]
      rw [or_z]
      rcases hs with e | e
      · subst e
        rw [if_pos rfl, if_pos rfl, if_pos rfl]
        by_cases hz : g k = 0
        · rw [if_pos hz, if_pos hz]
          exact ih' b 0 (Or.inl rfl)
        · rw [if_neg hz, if_neg hz]
          exact ih' b 1 (Or.inr rfl)
      · subst e
        have n10 : ¬ (1 : Int32) = 0 := by decide
        rw [if_neg n10, if_neg n10, if_neg n10, if_neg n10]
        by_cases hz : g k = 0
        · rw [if_pos hz, if_pos hz]
          exact ih' _ 1 (Or.inr rfl)
        · rw [if_neg hz, if_neg hz]
          exact ih' b 1 (Or.inr rfl)
  unfold f_Mod_holes
  have := key fu d 0 0 (Or.inl rfl) (by omega) (by omega)
  rw [show d - d = 0 by omega] at this
  exact this
-- modes
def mxF (g : Nat → Int64) : Nat → Int64
  | 0 => g 0
  | k + 1 => if g (k + 1) ≤ mxF g k then mxF g k else g (k + 1)
def btF (g : Nat → Int64) (v : Int64) : Nat → Int32
  | 0 => 0
  | k + 1 => if g k = v then btF g v k ||| (1 <<< (nI k &&& 31)) else btF g v k
theorem mxF_ge (g : Nat → Int64) : ∀ (k j : Nat), j ≤ k → g j ≤ mxF g k
  | 0, j, h => by
    have : j = 0 := by omega
    subst this
    exact Int64.le_refl _
  | k + 1, j, h => by
    show _ ≤ (if g (k + 1) ≤ mxF g k then mxF g k else g (k + 1))
    by_cases hj : j = k + 1
    · subst hj
      split
      · assumption
      · exact Int64.le_refl _
    · have ih := mxF_ge g k j (by omega)
      split
      · exact ih
      · rename_i hc
        rw [j_le] at hc ih ⊢
        omega
theorem btF_0 (g : Nat → Int64) (v : Int64) : ∀ k, (∀ j, j < k → g j ≠ v) → btF g v k = 0
  | 0, _ => rfl
  | k + 1, h => by
    show (if g k = v then btF g v k ||| (1 <<< (nI k &&& 31)) else btF g v k) = 0
    rw [if_neg (h k (by omega))]
    exact btF_0 g v k (fun j hj => h j (by omega))
theorem mod_x {fu B o d : Nat} {σ : rr_M} (hfu : 400 < fu) (hn : nx B (B + o) = 9) (hd : d ≤ 8) (hb : -100000000 ≤ (mg_l σ (B + o) 0).toInt) : f_Row_modes fu (nx B) (B + o) (nI d) σ = some (btF (mg_l σ (B + o)) (mxF (mg_l σ (B + o)) d) (d + 1)) := by
  obtain ⟨g, hg⟩ : ∃ g, g = mg_l σ (B + o) := ⟨_, rfl⟩
  have key : ∀ (fl k : Nat), k ≤ d → 10 - k ≤ fl → l_Row_modes_9 fu (nx B) (B + o) (nI d) σ fl (btF g (mxF g k) (k + 1)) (mxF g k) (nI (k + 1)) (fun v => some v) = some (btF g (mxF g d) (d + 1)) := by
    intro fl
    induction fl with
    | zero => intro k h1 h2; omega
    | succ fl ih =>
      intro k h1 h2
      rw [l_Row_modes_9, hn, ← hg]
      by_cases hk : k = d
      · subst hk
        rw [if_pos (nI_lt (by omega) (by omega))]
      have ih' := ih (k + 1) (by omega) (by omega)
      rw [if_neg (nI_nlt (by omega) (by omega)), if_neg (nI_ge (by omega) (by omega)), ix_nI (show k + 1 < 9 by omega) (by omega), if_pos rfl]
      simp only [if_true, rr_lt, rr_jn]
      rw [nI_1, n_nI (show k + 1 < 2 ^ 31 by omega)]
      rw [show mxF g (k + 1) = (if g (k + 1) ≤ mxF g k then mxF g k else g (k + 1)) from rfl] at ih'
      by_cases hc : g (k + 1) ≤ mxF g k
      · rw [if_pos hc] at ih' ⊢
        rw [show btF g (mxF g k) (k + 1 + 1) = (if g (k + 1) = mxF g k then btF g (mxF g k) (k + 1) ||| (1 <<< (nI (k + 1) &&& 31)) else btF g (mxF g k) (k + 1)) from rfl] at ih'
        by_cases he : g (k + 1) = mxF g k
        · rw [if_pos he] at ih' ⊢
          exact ih'
        · rw [if_neg he] at ih' ⊢
          exact ih'
      · rw [if_neg hc] at ih' ⊢
        rw [show btF g (g (k + 1)) (k + 1 + 1) = (if g (k + 1) = g (k + 1) then btF g (g (k + 1)) (k + 1) ||| (1 <<< (nI (k + 1) &&& 31)) else btF g (g (k + 1)) (k + 1)) from rfl, if_pos rfl, btF_0 g _ (k + 1) (fun j hj hh => hc (by rw [← hh]; exact mxF_ge g k j (by omega)))] at ih'
        exact ih'
  unfold f_Row_modes
  rw [← hg]
  obtain ⟨f, hf⟩ : ∃ f, fu = f + 1 := ⟨fu - 1, by omega⟩
  have st : ∀ fl, 10 ≤ fl → l_Row_modes_9 fu (nx B) (B + o) (nI d) σ (fl + 1) 0 (-100000000) 0 (fun v => some v) = some (btF g (mxF g d) (d + 1)) := by
    intro fl hfl
    have k0 := key fl 0 (by omega) (by omega)
    rw [l_Row_modes_9, hn, ← hg]
    have z0 : (-100000000 : Int64).toInt = -100000000 := by decide
    rw [if_neg (show ¬ nI d < 0 from nI_pos (by omega)), if_neg (by decide), show rr_ix 0 9 = true from by decide, if_pos rfl]
    simp only [if_true, rr_lt, rr_jn]
    have n0 : rr_n 0 = 0 := by decide
    rw [n0]
    rw [show btF g (mxF g 0) (0 + 1) = (if g 0 = g 0 then (0 : Int32) ||| (1 <<< (nI 0 &&& 31)) else 0) from rfl, if_pos rfl, show mxF g 0 = g 0 from rfl] at k0
    by_cases hc : g 0 ≤ -100000000
    · have e : g 0 = -100000000 := by
        apply j_inj
        rw [j_le, z0] at hc
        rw [← hg] at hb
        rw [z0]
        omega
      rw [if_pos hc, if_pos e]
      rw [e] at k0
      exact k0
    · rw [if_neg hc]
      exact k0
  have := st f (by omega)
  rw [← hf] at this
  exact this
theorem mod_m {fu C t d : Nat} {σ : rr_M} {g : Nat → Int64} (hfu : 400 < fu) (hm : mrf C σ) (ht : t < 8) (hg : ∀ k, k < 9 → mg_l σ (C + 8) (9 * t + k) = g k) (hd : d ≤ 8) : f_Mod_modes fu (nm C) C (nI t) (nI d) σ = some (btF g (mxF g d) (d + 1)) := by
  have two : ∀ (v : Int64) (fl k : Nat), k ≤ d + 1 → 11 - k ≤ fl → l_Mod_modes_52 fu (nm C) C (nI t) (nI d) v σ fl (btF g v k) (nI k) (fun x => some x) = some (btF g v (d + 1)) := by
    intro v fl
    induction fl with
    | zero => intro k h1 h2; omega
    | succ fl ih =>
      intro k h1 h2
      rw [l_Mod_modes_52]
      by_cases hk : k = d + 1
      · subst hk
        rw [if_pos (nI_lt (by omega) (by omega))]
      have ih' := ih (k + 1) (by omega) (by omega)
      rw [if_neg (nI_nlt (by omega) (by omega)), mat_g hm ht hg (show k < 9 by omega), nI_1]
      dsimp only [rr_lt, rr_jn, Option.bind]
      rw [show btF g v (k + 1) = (if g k = v then btF g v k ||| (1 <<< (nI k &&& 31)) else btF g v k) from rfl] at ih'
      by_cases he : g k = v
      · rw [if_pos he] at ih' ⊢
        exact ih'
      · rw [if_neg he] at ih' ⊢
        rw [or_z]
        exact ih'
  have one : ∀ (fl k : Nat), k ≤ d → 10 - k ≤ fl → l_Mod_modes_10 fu (nm C) C (nI t) (nI d) σ fl (mxF g k) (nI (k + 1)) (fun v3_11 => l_Mod_modes_52 fu (nm C) C (nI t) (nI d) v3_11 σ fu 0 0 (fun v5_19 => some (v5_19))) = some (btF g (mxF g d) (d + 1)) := by
    intro fl
    induction fl with
    | zero => intro k h1 h2; omega
    | succ fl ih =>
      intro k h1 h2
      rw [l_Mod_modes_10]
      by_cases hk : k = d
      · subst hk
        rw [if_pos (nI_lt (by omega) (by omega))]
        exact two (mxF g k) fu 0 (by omega) (by omega)
      have ih' := ih (k + 1) (by omega) (by omega)
      rw [if_neg (nI_nlt (by omega) (by omega)), mat_g hm ht hg (show k + 1 < 9 by omega), nI_1]
      dsimp only [rr_lt, rr_jn, Option.bind]
      rw [show mxF g (k + 1) = (if g (k + 1) ≤ mxF g k then mxF g k else g (k + 1)) from rfl] at ih'
      by_cases hc : g (k + 1) ≤ mxF g k
      · rw [if_pos hc] at ih' ⊢
        exact ih'
      · rw [if_neg hc] at ih' ⊢
        exact ih'
  unfold f_Mod_modes
  rw [show f_Mod_at (nm C) C (nI t) 0 σ = some (g 0) from mat_g hm ht hg (show 0 < 9 by omega)]
  dsimp only [Option.bind]
  exact one fu 0 (by omega) (by omega)
noncomputable def rwR (P : Pl) (g : Nat → Int64) : Nat → Int32
  | 0 => fff (cNw g (dgg P)) (dgg P) (dgg P - 1)
  | 1 => fff (cBt g) (dgg P) (dgg P - 1)
  | 2 => hlF g (dgg P) (dgg P) 0 0
  | 3 => if hUp g (dgg P) (dgg P) = 0 then 0 else 1
  | _ => btF g (mxF g (dgg P)) (dgg P + 1)
theorem op_row_ok {fu B C : Nat} (hfu : 70000 < fu) : op_row fu B C (Inv B C) := by
  rintro a1 a2 σx σm ⟨T, hX, hM, hT⟩
  obtain ⟨hM1, FM1⟩ := imc_0 (v := 0) hM
  obtain ⟨Y1, L1⟩ := hM1.1
  rcases try_c a1 with ⟨e1, e2⟩ | ⟨t, ht, rfl, e1, e2⟩
  · refine op_cn (T := T) (-1) hX hT ?_ ?_
    · unfold f_Roo_row
      rw [e1]
      exact wq_ob (wq_some (wq_ip rfl (wq_some rfl)))
    · unfold f_Mod_row
      dsimp only [rr_lt]
      rw [e2 C]
      exact wq_ob (wq_some (wq_ip rfl (wq_some ⟨rfl, hM1, FM1⟩)))
  obtain ⟨b1, b2, _⟩ := hX.2.2.2 t ht
  obtain ⟨q0, q1, q2, q3, q4, q5, q6, q7, q8⟩ := roo_t hX.1
  have n9 : nx B (B + (3 + 7 * t)) = 9 := by rw [nx_at]; exact (nx_tr t ht).1
  have rg : (a2.toInt < 0 ∨ (4 : Int) < a2.toInt) ∨ ∃ j, j ≤ 4 ∧ a2 = nI j := rng a2 4 (by omega)
  rcases rg with hr | ⟨w, hw, rfl⟩
  · refine op_cn (T := T) (-1) hX hT ?_ ?_
    · unfold f_Roo_row
      rw [e1]
      refine wq_ob (wq_some (wq_in (by decide) ?_))
      by_cases h0 : a2 < 0
      · exact wq_ip h0 (wq_some rfl)
      · refine wq_in h0 (wq_in ?_ (wq_some rfl))
        rw [Int32.lt_iff_toInt_lt] at h0
        rw [Int32.le_iff_toInt_le]
        have : (0 : Int32).toInt = 0 := rfl
        show ¬ _ ≤ (4 : Int)
        omega
    · unfold f_Mod_row
      dsimp only [rr_lt]
      rw [e2 C, isin_ok, if_neg (show ¬ ((0 : Int64).toInt ≤ a2.toInt64.toInt ∧ a2.toInt64.toInt ≤ (4 : Int64).toInt) by
        rw [Int32.toInt_toInt64]
        show ¬ ((0 : Int) ≤ _ ∧ _ ≤ (4 : Int))
        omega)]
      exact wq_ob (wq_some (wq_in (by decide) (wq_ob (wq_some (wq_ip rfl (wq_some ⟨rfl, hM1, FM1⟩))))))
  have hg : ∀ k, k < 9 → mg_l (ms_i σm C 0 0) (C + 8) (9 * t + k) = mg_l σx (B + (3 + 7 * t)) k := fun k hk => j_inj (by rw [b2 k hk]; exact hM1.2 t ht k hk)
  have i4 : f_Mod_isIn (nI w).toInt64 0 4 = some 1 := by
    rw [isin_ok, if_pos]
    rw [Int32.toInt_toInt64, nI_toInt (by omega)]
    show ((0 : Int) ≤ _ ∧ _ ≤ (4 : Int))
    omega
  have dX := num_deg (fu := fu) (o := 3 + 7 * t) (B := B) (σ := σx) (f := T t) (by omega) n9 b2
  have dM := mdg_ok (fu := fu) (r := t) (by omega) L1.1 (by omega) (hM1.2 t ht)
  by_cases hz : dln (T t) = 0
  · refine op_cn (T := T) (-2) hX hT ?_ ?_
    · unfold f_Roo_row
      dsimp only [rr_lt]
      rw [e1, q0, n_nI (show t < 2 ^ 31 by omega), (q7 t ht).1, (q7 t ht).2, dX, hz]
      exact wq_ob (wq_some (wq_in (by decide) (wq_in (nI_pos (by omega)) (wq_ip (show nI w ≤ 4 from nI_le (b := 4) hw (by omega)) (wq_ip (q8 t ht) (wq_ob (wq_some (wq_in (by decide) (wq_some rfl)))))))))
    · unfold f_Mod_row
      dsimp only [rr_lt]
      rw [e2 C, i4, dM, hz]
      exact wq_ob (wq_some (wq_in (by decide) (wq_ob (wq_some (wq_in (by decide) (wq_ob (wq_some (wq_in (by decide) (wq_some ⟨rfl, hM1, FM1⟩)))))))))
  have d8 := dgg_lt (T t)
  have ed : nI (dln (T t)) - 1 = nI (dgg (T t)) := nI_pr (by omega)
  rw [ed] at dX dM
  have hgd : mg_l σx (B + (3 + 7 * t)) (dgg (T t)) ≠ 0 := fun hh => by
    have h1 := b2 (dgg (T t)) (by omega)
    rw [hh] at h1
    exact (dln_top b1.1 (show 0 < dln (T t) by omega)).1.1 h1.symm
  refine op_cn (T := T) (rwR (T t) (mg_l σx (B + (3 + 7 * t))) w) hX hT ?_ ?_
  · unfold f_Roo_row
    dsimp only [rr_lt]
    rw [e1, q0, n_nI (show t < 2 ^ 31 by omega), (q7 t ht).1, (q7 t ht).2, dX]
    refine wq_ob (wq_some (wq_in (by decide) (wq_in (nI_pos (by omega)) (wq_ip (show nI w ≤ 4 from nI_le (b := 4) hw (by omega)) (wq_ip (q8 t ht) (wq_ob (wq_some (wq_ip (nI_pos' (by omega)) ?_))))))))
    rw [nwt_x (by omega) n9 d8, bnt_x (by omega) n9 d8, hol_x (by omega) n9 d8, hmp_x (by omega) n9 d8, mod_x (by omega) n9 d8 (by rw [b2 0 (by omega)]; exact (b1.2 0).1)]
    have hw5 : w = 0 ∨ w = 1 ∨ w = 2 ∨ w = 3 ∨ w = 4 := by omega
    rcases hw5 with rfl | rfl | rfl | rfl | rfl
    · exact wq_ip (by decide) (wq_ob (wq_some (wq_some rfl)))
    · exact wq_in (by decide) (wq_ip (by decide) (wq_ob (wq_some (wq_some rfl))))
    · exact wq_in (by decide) (wq_in (by decide) (wq_ip (by decide) (wq_ob (wq_some (wq_some rfl)))))
    · refine wq_in (by decide) (wq_in (by decide) (wq_in (by decide) (wq_ip (by decide) (wq_ob (wq_some ?_)))))
      show wq _ (fun x => x = if hUp (mg_l σx (B + (3 + 7 * t))) (dgg (T t)) (dgg (T t)) = 0 then 0 else 1)
      by_cases hc : hUp (mg_l σx (B + (3 + 7 * t))) (dgg (T t)) (dgg (T t)) = 0
      · rw [if_pos hc, if_pos hc]; exact wq_some rfl
      · rw [if_neg hc, if_neg hc]; exact wq_some rfl
    · exact wq_in (by decide) (wq_in (by decide) (wq_in (by decide) (wq_in (by decide) (wq_ob (wq_some (wq_some rfl))))))
  · unfold f_Mod_row
    dsimp only [rr_lt]
    rw [e2 C, i4, dM]
    refine wq_ob (wq_some (wq_in (by decide) (wq_ob (wq_some (wq_in (by decide) (wq_ob (wq_some (wq_ip (nI_pos' (by omega)) ?_))))))))
    rw [nwt_m (by omega) L1.1 ht hg d8, bnt_m (by omega) L1.1 ht hg d8, hol_m (by omega) L1.1 ht hg d8 hgd, hmp_m (by omega) L1.1 ht hg d8, mod_m (by omega) L1.1 ht hg d8]
    have hw5 : w = 0 ∨ w = 1 ∨ w = 2 ∨ w = 3 ∨ w = 4 := by omega
    rcases hw5 with rfl | rfl | rfl | rfl | rfl
    · exact wq_ip (by decide) (wq_ob (wq_some (wq_some ⟨rfl, hM1, FM1⟩)))
    · exact wq_in (by decide) (wq_ip (by decide) (wq_ob (wq_some (wq_some ⟨rfl, hM1, FM1⟩))))
    · exact wq_in (by decide) (wq_in (by decide) (wq_ip (by decide) (wq_ob (wq_some (wq_some ⟨rfl, hM1, FM1⟩)))))
    · refine wq_in (by decide) (wq_in (by decide) (wq_in (by decide) (wq_ip (by decide) (wq_ob (wq_some ?_)))))
      show wq _ (fun x : Int32 × rr_M => x.1 = (if hUp (mg_l σx (B + (3 + 7 * t))) (dgg (T t)) (dgg (T t)) = 0 then 0 else 1) ∧ _)
      by_cases hc : hUp (mg_l σx (B + (3 + 7 * t))) (dgg (T t)) (dgg (T t)) = 0
      · rw [if_pos hc, if_pos hc]; exact wq_some ⟨rfl, hM1, FM1⟩
      · rw [if_neg hc, if_neg hc]; exact wq_some ⟨rfl, hM1, FM1⟩
    · exact wq_in (by decide) (wq_in (by decide) (wq_in (by decide) (wq_in (by decide) (wq_ob (wq_some (wq_some ⟨rfl, hM1, FM1⟩))))))
