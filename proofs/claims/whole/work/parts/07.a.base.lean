/-! THE PURE SIDE: the mirrors of the class and of the reference agree. -/
theorem nm_eq {α β : Type} (v : α) (f : α → β) : nm v f = f v := rfl
theorem loopF_for {σ ρ : Type} {body : σ → Option (σ ⊕ ρ)} (N : Nat) (st : Nat → σ) (r : ρ) (fuel : Nat) (hN : N < fuel) (hs : ∀ i, i < N → body (st i) = some (.inl (st (i + 1)))) (he : body (st N) = some (.inr r)) : loopF body fuel (st 0) = some r := by
  have key : ∀ (k i f : Nat), i + k = N → k < f → loopF body f (st i) = some r := by
    intro k
    induction k with
    | zero =>
      intro i f hi hf
      obtain ⟨g, rfl⟩ : ∃ g, f = g + 1 := ⟨f - 1, by omega⟩
      have e : i = N := by omega
      subst e
      rw [loopF, he]
      rfl
    | succ k ih =>
      intro i f hi hf
      obtain ⟨g, rfl⟩ : ∃ g, f = g + 1 := ⟨f - 1, by omega⟩
      rw [loopF, hs i (by omega)]
      exact ih (i + 1) g (by omega) (by omega)
  exact key N 0 fuel (by omega) hN
theorem FUEL_lt {n : Nat} (h : n < 100000) : n < FUEL := h
theorem mset_row (M : Mem) (q j : Nat) (v : Int32) (a : Nat) : mset M q j v a = if a = q then upd (M q) j v else M a := by
  unfold mset mrow
  by_cases h : a = q
  · subst h; rfl
  · simp [h]
theorem mset_self (M : Mem) (q j : Nat) (v : Int32) : mset M q j v q = upd (M q) j v := by rw [mset_row, if_pos rfl]
theorem mset_ne (M : Mem) {q a : Nat} (j : Nat) (v : Int32) (h : a ≠ q) : mset M q j v a = M a := by rw [mset_row, if_neg h]
theorem mrow_self (M : Mem) (q : Nat) (f : Nat → Int32) : mrow M q f q = f := by simp [mrow]
theorem mrow_ne (M : Mem) {q a : Nat} (f : Nat → Int32) (h : a ≠ q) : mrow M q f a = M a := by simp [mrow, h]
theorem mrow_row (M : Mem) (q : Nat) (f : Nat → Int32) (a : Nat) : mrow M q f a = if a = q then f else M a := rfl
theorem mset_eq (M : Mem) (q j : Nat) (v : Int32) : mset M q j v = mrow M q (upd (M q) j v) := rfl
theorem mrow_mrow (M : Mem) (q : Nat) (f g : Nat → Int32) : mrow (mrow M q f) q g = mrow M q g := by
  funext a
  unfold mrow
  by_cases h : a = q <;> simp [h]
theorem upd_at (f : Nat → Int32) (k : Nat) (x : Int32) (j : Nat) : upd f k x j = if j = k then x else f j := rfl
theorem inB_nI {a N : Nat} (h : a < N) (hN : N < 2 ^ 31) : inB (nI a) N = true := by
  unfold inB
  rw [nI_toInt (by omega)]
  exact decide_eq_true (by omega)
/-- an argument: a number below N, or not -/
def inN (x : Int32) (N : Nat) : Prop := 0 ≤ x.toInt ∧ x.toInt < N
theorem inN_nI {x : Int32} {N : Nat} (h : inN x N) : ∃ a, a < N ∧ x = nI a := by
  obtain ⟨h1, h2⟩ := h
  refine ⟨x.toInt.toNat, by omega, ?_⟩
  apply Int32.toInt_inj.mp
  have h3 := Int32.toInt_lt x
  rw [nI_toInt (by omega)]
  omega
theorem nI_inN {a N : Nat} (h : a < N) (hN : N < 2 ^ 31) : inN (nI a) N := by
  unfold inN
  rw [nI_toInt (by omega)]
  omega
theorem i32_lt {x y : Int32} : x < y ↔ x.toInt < y.toInt := Int32.lt_iff_toInt_lt
theorem i32_le {x y : Int32} : x ≤ y ↔ x.toInt ≤ y.toInt := Int32.le_iff_toInt_le
theorem i32_eq {x y : Int32} : x = y ↔ x.toInt = y.toInt := Int32.toInt_inj.symm
theorem lgc_lt {x y : Int64} : lg_cmp x y < 0 ↔ x.toInt < y.toInt := by
  unfold lg_cmp
  rw [← Int64.lt_iff_toInt_lt]
  by_cases h : x > y
  · have h2 : ¬ x < y := fun q => by
      have a := Int64.lt_iff_toInt_lt.mp q
      have b := Int64.lt_iff_toInt_lt.mp h
      omega
    rw [if_pos h]
    exact ⟨fun q => absurd q (by decide), fun q => absurd q h2⟩
  · rw [if_neg h]
    by_cases e : x = y
    · rw [if_pos e]
      subst e
      exact ⟨fun q => absurd q (by decide), fun q => absurd q h⟩
    · rw [if_neg e]
      refine ⟨fun _ => ?_, fun _ => by decide⟩
      rw [Int64.lt_iff_toInt_lt]
      have a : ¬ y.toInt < x.toInt := fun q => h (Int64.lt_iff_toInt_lt.mpr q)
      have b : x.toInt ≠ y.toInt := fun q => e (Int64.toInt_inj.mp q)
      omega
theorem lgc_gt {x y : Int64} : 0 < lg_cmp x y ↔ y.toInt < x.toInt := by
  unfold lg_cmp
  by_cases h : x > y
  · rw [if_pos h]
    exact ⟨fun _ => Int64.lt_iff_toInt_lt.mp h, fun _ => by decide⟩
  · rw [if_neg h]
    have a : ¬ y.toInt < x.toInt := fun q => h (Int64.lt_iff_toInt_lt.mpr q)
    by_cases e : x = y
    · rw [if_pos e]
      exact ⟨fun q => absurd q (by decide), fun q => absurd q a⟩
    · rw [if_neg e]
      exact ⟨fun q => absurd q (by decide), fun q => absurd q a⟩
theorem m_in (M : Mem) (x lo hi : Int64) : m_X8_in M x lo hi = some (if lo.toInt ≤ x.toInt ∧ x.toInt ≤ hi.toInt then 1 else 0) := by
  unfold m_X8_in
  by_cases h1 : lg_cmp x lo < 0
  · rw [if_pos h1, if_neg]
    have := lgc_lt.mp h1
    omega
  · rw [if_neg h1]
    have a : ¬ x.toInt < lo.toInt := fun q => h1 (lgc_lt.mpr q)
    by_cases h2 : 0 < lg_cmp x hi
    · rw [if_pos h2, if_neg]
      have := lgc_gt.mp h2
      omega
    · rw [if_neg h2]
      have b : ¬ hi.toInt < x.toInt := fun q => h2 (lgc_gt.mpr q)
      rw [if_pos (by omega)]
theorem m_inI (M : Mem) (x : Int32) (lo hi : Int64) (l h : Int) (hl : lo.toInt = l) (hh : hi.toInt = h) : m_X8_in M x.toInt64 lo hi = some (if l ≤ x.toInt ∧ x.toInt ≤ h then 1 else 0) := by
  rw [m_in, hl, hh, Int32.toInt_toInt64]
theorem xisCell (M : Mem) (x : Int32) : (inN x 30 ∧ m_X7_isCell M x = some 1) ∨ (¬ inN x 30 ∧ m_X7_isCell M x = some 0) := by
  unfold m_X7_isCell inN
  by_cases h1 : x < 0
  · right
    have a := i32_lt.mp h1
    rw [if_pos h1]
    rw [show (0 : Int32).toInt = 0 from rfl] at a
    exact ⟨by omega, rfl⟩
  · rw [if_neg h1]
    have a : ¬ x.toInt < (0 : Int32).toInt := fun q => h1 (i32_lt.mpr q)
    rw [show (0 : Int32).toInt = 0 from rfl] at a
    by_cases h2 : 30 ≤ x
    · right
      have b := i32_le.mp h2
      rw [show (30 : Int32).toInt = 30 from rfl] at b
      rw [if_pos h2]
      exact ⟨by omega, rfl⟩
    · left
      have b : ¬ (30 : Int32).toInt ≤ x.toInt := fun q => h2 (i32_le.mpr q)
      rw [show (30 : Int32).toInt = 30 from rfl] at b
      rw [if_neg h2]
      exact ⟨by omega, rfl⟩
theorem yisCell (M : Mem) (x : Int32) : (inN x 30 ∧ m_X8_isCell M x = some 1) ∨ (¬ inN x 30 ∧ m_X8_isCell M x = some 0) := by
  unfold m_X8_isCell inN
  rw [m_inI M x 0 29 0 29 rfl rfl]
  by_cases h : (0 : Int) ≤ x.toInt ∧ x.toInt ≤ 29
  · left
    rw [if_pos h]
    exact ⟨by omega, rfl⟩
  · right
    rw [if_neg h]
    exact ⟨by omega, rfl⟩
