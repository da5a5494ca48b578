/-! The words of the document as numbers: a square is S : Nat → Nat: S 0 told, S 1 heat, S 3 how many children, S 4 the drains (bits), of child j S (5 + j) the sort, S (10 + j) the strength, S (15 + j) the cell, S (20 + j) the pennies. -/
def farN (a b : Nat) : Nat := (a % 6 - b % 6) + (b % 6 - a % 6) + ((a / 6 - b / 6) + (b / 6 - a / 6))
def pw (k s d h : Nat) : Nat := if k = 5 then s * (3 - d) else if k = 4 then s * (2 - d) else if k = 3 then (if d = 0 then s * 2 - h else 0) else if k = 2 then 2 * s * (2 - d) - h else s * (2 - d) - h
def dry (S : Nat → Nat) (c : Nat) : Bool := !(S 4).testBit c
/-- the best of the first n: who (0: nobody, j + 1: j), and his power -/
def bst (P : Nat → Nat) : Nat → Nat × Nat
  | 0 => (0, 0)
  | n + 1 => if (bst P n).2 < P n then (n + 1, P n) else bst P n
/-- the power of child j at c, children standing at w, by heat h -/
def PW (S : Nat → Nat) (w : Nat → Nat) (h c : Nat) (j : Nat) : Nat := pw (S (5 + j)) (S (10 + j)) (farN (w j) c) h
/-- who picks at c (0: nobody; j + 1) -/
def pick (S : Nat → Nat) (w : Nat → Nat) (h c : Nat) : Nat := if c < 30 ∧ dry S c = true then (bst (PW S w h c) (S 3)).1 else 0
def wh (S : Nat → Nat) : Nat → Nat := fun j => S (15 + j)
def VS (S : Nat → Nat) : Prop := S 0 ≤ 1 ∧ S 3 ≤ 5 ∧ (S 0 = 0 → S 3 = 0) ∧ S 1 ≤ 20 ∧ S 4 < 2 ^ 30 ∧ ∀ j, j < S 3 → (1 ≤ S (5 + j) ∧ S (5 + j) ≤ 5) ∧ (1 ≤ S (10 + j) ∧ S (10 + j) ≤ 9) ∧ S (15 + j) < 30 ∧ S (20 + j) ≤ 9999
/-- the square at q of the class -/
def Sqx (M : Mem) (q : Nat) (S : Nat → Nat) : Prop := M q 1 = nI (S 0) ∧ M q 2 = nI (S 1) ∧ M q 3 = nI (S 4) ∧ M q 4 = nI (S 3) ∧ ∀ j, j < S 3 → M (q + 1 + 1 + j) 1 = nI (S (5 + j)) ∧ M (q + 1 + 1 + j) 2 = nI (S (10 + j)) ∧ M (q + 1 + 1 + j) 3 = nI (S (15 + j)) ∧ M (q + 1 + 1 + j) 4 = nI (S (20 + j))
/-- the square in a row of the reference -/
def Sqm (f : Nat → Int32) (S : Nat → Nat) : Prop := f 0 = nI (S 0) ∧ f 1 = nI (S 1) ∧ f 3 = nI (S 3) ∧ f 4 = nI (S 4) ∧ (∀ j, j < S 3 → f (5 + j) = nI (S (5 + j)) ∧ f (10 + j) = nI (S (10 + j)) ∧ f (15 + j) = nI (S (15 + j)) ∧ f (20 + j) = nI (S (20 + j))) ∧ ∀ j, S 3 ≤ j → j < 5 → f (20 + j) = 0
theorem kd_ch {q : Nat} (h : kd q = 5) : ∀ j, j < 5 → kd (q + 1 + 1 + j) = 2 := by
  intro j hj
  have e : q + 1 + 1 + j = q + (j + 2) := by omega
  rw [e]
  have h0 : ∀ j, j < 5 → (List.range 249).all (fun q => !(kd q == 5) || kd (q + (j + 2)) == 2) = true := by decide +kernel
  exact kd_all 5 2 (j + 2) (h0 j hj) q (by decide) h
theorem kdB_of {q c : Nat} (h : kd q = c) : kdB q c = true := by
  unfold kdB
  rw [h]
  exact beq_self_eq_true c
theorem loopF_rel {σ ρ : Type} {body : σ → Option (σ ⊕ ρ)} (N : Nat) (I : Nat → σ → Prop) (Post : ρ → Prop) (hs : ∀ i s, i < N → I i s → ∃ s', body s = some (.inl s') ∧ I (i + 1) s') (he : ∀ s, I N s → ∃ r, body s = some (.inr r) ∧ Post r) {fuel : Nat} (hN : N < fuel) {s : σ} (h0 : I 0 s) : ∃ r, loopF body fuel s = some r ∧ Post r := by
  have key : ∀ (k i f : Nat) (s : σ), i + k = N → k < f → I i s → ∃ r, loopF body f s = some r ∧ Post r := by
    intro k
    induction k with
    | zero =>
      intro i f s hi hf h
      obtain ⟨g, rfl⟩ : ∃ g, f = g + 1 := ⟨f - 1, by omega⟩
      have e : i = N := by omega
      subst e
      obtain ⟨r, h1, h2⟩ := he s h
      exact ⟨r, by rw [loopF, h1]; rfl, h2⟩
    | succ k ih =>
      intro i f s hi hf h
      obtain ⟨g, rfl⟩ : ∃ g, f = g + 1 := ⟨f - 1, by omega⟩
      obtain ⟨s', h1, h2⟩ := hs i s (by omega) h
      obtain ⟨r, h3, h4⟩ := ih (i + 1) g s' (by omega) (by omega) h2
      exact ⟨r, by rw [loopF, h1]; exact h3, h4⟩
  exact key N 0 fuel s (by omega) hN h0
/-! ## far, power -/
theorem xfar (M : Mem) {a b : Nat} (ha : a < 30) (hb : b < 30) : m_X7_far M (nI a) (nI b) = some (nI (farN a b)) := by
  have h : ∀ a, a < 30 → ∀ b, b < 30 → m_X7_far (fun _ _ => 0) (nI a) (nI b) = some (nI (farN a b)) := by decide +kernel
  exact h a ha b hb
theorem yfar (M : Mem) {a b : Nat} (ha : a < 30) (hb : b < 30) : m_X8_far M (nI a) (nI b) = some (nI (farN a b)) := by
  have h : ∀ a, a < 30 → ∀ b, b < 30 → m_X8_far (fun _ _ => 0) (nI a) (nI b) = some (nI (farN a b)) := by decide +kernel
  exact h a ha b hb
theorem farN_le {a b : Nat} (ha : a < 30) (hb : b < 30) : farN a b ≤ 9 := by
  have h : ∀ a, a < 30 → ∀ b, b < 30 → farN a b ≤ 9 := by decide +kernel
  exact h a ha b hb
theorem all_r {n : Nat} {f : Nat → Bool} (h : (List.range n).all f = true) {k : Nat} (hk : k < n) : f k = true := List.all_eq_true.mp h k (List.mem_range.mpr hk)
theorem xpow_tab0 : ((List.range 5).all fun k => (List.range 10).all fun s => (List.range 10).all fun d => (List.range 21).all fun h => decide (m_X2_powerBy (fun _ j => if j = 1 then nI (k + 1) else nI s) 0 (nI d) (nI h) = some (nI (pw (k + 1) s d h))) && decide (pw (k + 1) s d h ≤ 100)) = true := by decide +kernel
theorem xpow_tab (k : Nat) (hk : k < 5) (s : Nat) (hs : s < 10) (d : Nat) (hd : d < 10) (h : Nat) (hh : h < 21) : m_X2_powerBy (fun _ j => if j = 1 then nI (k + 1) else nI s) 0 (nI d) (nI h) = some (nI (pw (k + 1) s d h)) ∧ pw (k + 1) s d h ≤ 100 := by
  have h1 := all_r (all_r (all_r (all_r xpow_tab0 hk) hs) hd) hh
  rw [Bool.and_eq_true] at h1
  exact ⟨of_decide_eq_true h1.1, of_decide_eq_true h1.2⟩
theorem xpow (M : Mem) {a k s d h : Nat} (h1 : M a 1 = nI k) (h2 : M a 2 = nI s) (hk : 1 ≤ k ∧ k ≤ 5) (hs : s ≤ 9) (hd : d ≤ 9) (hh : h ≤ 20) : m_X2_powerBy M a (nI d) (nI h) = some (nI (pw k s d h)) := by
  obtain ⟨k, rfl⟩ : ∃ k', k = k' + 1 := ⟨k - 1, by omega⟩
  rw [← (xpow_tab k (by omega) s (by omega) d (by omega) h (by omega)).1]
  unfold m_X2_powerBy m_X2_might
  rw [h1, h2]
  rfl
theorem pw_le {k s d h : Nat} (hk : 1 ≤ k ∧ k ≤ 5) (hs : s ≤ 9) (hd : d ≤ 9) (hh : h ≤ 20) : pw k s d h ≤ 100 := by
  obtain ⟨k, rfl⟩ : ∃ k', k = k' + 1 := ⟨k - 1, by omega⟩
  exact (xpow_tab k (by omega) s (by omega) d (by omega) h (by omega)).2
