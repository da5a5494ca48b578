/-! ## by which ways, cell by cell -/
theorem sl_1 : ∀ w, w < 31 → (1 : Int32) <<< (nI w &&& 31) = nI (2 ^ w) := by decide +kernel
/-- the bits below n that are such -/
def bs (p : Nat → Bool) : Nat → Nat
  | 0 => 0
  | n + 1 => if p n = true then bs p n ||| 2 ^ n else bs p n
theorem bs_lt (p : Nat → Bool) (n : Nat) : bs p n < 2 ^ n := by
  induction n with
  | zero => exact Nat.one_pos
  | succ n ih =>
    unfold bs
    have h : 2 ^ n < 2 ^ (n + 1) := Nat.pow_lt_pow_right (by omega) (by omega)
    by_cases q : p n = true
    · rw [if_pos q]
      exact Nat.or_lt_two_pow (by omega) h
    · rw [if_neg q]
      omega
theorem bs_bit (p : Nat → Bool) (n i : Nat) : (bs p n).testBit i = (decide (i < n) && p i) := by
  induction n with
  | zero => simp [bs]
  | succ n ih =>
    unfold bs
    by_cases q : p n = true
    · rw [if_pos q, Nat.testBit_or, ih, Nat.testBit_two_pow]
      by_cases e : n = i
      · subst e
        simp [q]
      · simp only [e, decide_false, Bool.or_false]
        congr 1
        exact decide_eq_decide.mpr (by omega)
    · rw [if_neg q, ih]
      by_cases e : n = i
      · subst e
        simp [q]
      · congr 1
        exact decide_eq_decide.mpr (by omega)
theorem cnt_getD (f : Nat → Bool) : ∀ l : List Nat, (List.range l.length).countP (fun i => f (l.getD i 30)) = l.countP f
  | [] => rfl
  | a :: l => by
    have ih := cnt_getD f l
    rw [List.length_cons, List.range_succ_eq_map, List.countP_cons, List.countP_map, List.countP_cons]
    have e : (List.range l.length).countP ((fun i => f ((a :: l).getD i 30)) ∘ Nat.succ) = (List.range l.length).countP (fun i => f (l.getD i 30)) := by
      apply List.countP_congr
      intro i _
      show f ((a :: l).getD (i + 1) 30) = true ↔ _
      rw [List.getD_cons_succ]
    rw [e, ih, List.getD_cons_zero]
theorem pc_bs (p : Nat → Bool) {n N : Nat} (hn : n ≤ N) : pc N (bs p n) = (List.range n).countP p := by
  obtain ⟨d, rfl⟩ : ∃ d, N = n + d := ⟨N - n, by omega⟩
  unfold pc
  rw [List.range_add, List.countP_append]
  have e1 : (List.range n).countP (fun i => (bs p n).testBit i) = (List.range n).countP p := by
    apply List.countP_congr
    intro i hi
    rw [bs_bit]
    simp [List.mem_range.mp hi]
  have e2 : ((List.range d).map (fun x => n + x)).countP (fun i => (bs p n).testBit i) = 0 := by
    rw [List.countP_eq_zero]
    intro i hi
    obtain ⟨k, -, rfl⟩ := List.mem_map.mp hi
    rw [bs_bit, decide_eq_false (by omega)]
    simp
  rw [e1, e2]
  rfl
def beatsP (P : Nat → Nat) (i j : Nat) : Prop := P j < P i ∨ (P j = P i ∧ i < j)
theorem bst_inv (P : Nat → Nat) (n : Nat) : ((bst P n).1 = 0 → (bst P n).2 = 0 ∧ ∀ j, j < n → P j = 0) ∧ ∀ i, (bst P n).1 = i + 1 → i < n ∧ (bst P n).2 = P i ∧ 0 < P i ∧ ∀ j, j < n → j ≠ i → beatsP P i j := by
  induction n with
  | zero => exact ⟨fun _ => ⟨rfl, fun j h => absurd h (by omega)⟩, fun i h => absurd h (by simp [bst])⟩
  | succ n ih =>
    obtain ⟨ih1, ih2⟩ := ih
    unfold bst
    by_cases c : (bst P n).2 < P n
    · rw [if_pos c]
      refine ⟨fun h => absurd h (by simp), fun i h => ?_⟩
      have e : i = n := by simpa using h.symm
      subst e
      refine ⟨by omega, rfl, by omega, fun j hj hne => Or.inl ?_⟩
      have hjn : j < i := by omega
      cases hb : (bst P i).1 with
      | zero =>
        have := (ih1 hb).2 j hjn
        omega
      | succ k =>
        obtain ⟨g1, g2, g3, g4⟩ := ih2 k hb
        by_cases e : j = k
        · subst e
          omega
        · rcases g4 j hjn e with g | ⟨g, -⟩ <;> omega
    · rw [if_neg c]
      refine ⟨fun h => ?_, fun i h => ?_⟩
      · obtain ⟨g1, g2⟩ := ih1 h
        refine ⟨g1, fun j hj => ?_⟩
        by_cases e : j = n
        · subst e
          omega
        · exact g2 j (by omega)
      · obtain ⟨g1, g2, g3, g4⟩ := ih2 i h
        refine ⟨by omega, g2, g3, fun j hj hne => ?_⟩
        by_cases e : j = n
        · subst e
          by_cases z : P j = P i
          · exact Or.inr ⟨z, g1⟩
          · exact Or.inl (by omega)
        · exact g4 j (by omega) hne
theorem bst_iff {P : Nat → Nat} {n i : Nat} : (bst P n).1 = i + 1 ↔ i < n ∧ 0 < P i ∧ ∀ j, j < n → j ≠ i → beatsP P i j := by
  obtain ⟨h1, h2⟩ := bst_inv P n
  constructor
  · intro h
    obtain ⟨g1, g2, g3, g4⟩ := h2 i h
    exact ⟨g1, g3, g4⟩
  · rintro ⟨g1, g2, g3⟩
    cases hb : (bst P n).1 with
    | zero =>
      have := (h1 hb).2 i g1
      omega
    | succ k =>
      obtain ⟨f1, f2, f3, f4⟩ := h2 k hb
      by_cases e : k = i
      · rw [e]
      · have a := f4 i g1 (fun z => e z.symm)
        have b := g3 k f1 e
        unfold beatsP at a b
        omega
/-- the least power needed: j's, a away -/
def nd (P : Nat → Nat) (j a : Nat) : Nat → Nat
  | 0 => 1
  | n + 1 => if n = j ∨ n = a then nd P j a n else max (nd P j a n) (P n + if n < j then 1 else 0)
theorem nd_le {P : Nat → Nat} {j a n x : Nat} : nd P j a n ≤ x ↔ 1 ≤ x ∧ ∀ i, i < n → i ≠ j → i ≠ a → (P i < x ∨ (P i = x ∧ j < i)) := by
  induction n with
  | zero => exact ⟨fun h => ⟨h, fun i hi => absurd hi (by omega)⟩, fun h => h.1⟩
  | succ n ih =>
    unfold nd
    by_cases c : n = j ∨ n = a
    · rw [if_pos c, ih]
      refine and_congr_right fun _ => ⟨fun h i hi h1 h2 => h i (by omega) h1 h2, fun h i hi => h i (by omega)⟩
    · rw [if_neg c, Nat.max_le, ih]
      constructor
      · rintro ⟨⟨h1, h2⟩, h3⟩
        refine ⟨h1, fun i hi e1 e2 => ?_⟩
        by_cases e : i = n
        · subst e
          by_cases z : i < j
          · rw [if_pos z] at h3
            omega
          · rw [if_neg z] at h3
            omega
        · exact h2 i (by omega) e1 e2
      · rintro ⟨h1, h2⟩
        refine ⟨⟨h1, fun i hi => h2 i (by omega)⟩, ?_⟩
        have := h2 n (by omega) (fun z => c (Or.inl z)) (fun z => c (Or.inr z))
        by_cases z : n < j
        · rw [if_pos z]
          omega
        · rw [if_neg z]
          omega
theorem nd_bound {P : Nat → Nat} {j a n B : Nat} (hB : 1 ≤ B) (h : ∀ i, i < n → P i + 1 ≤ B) : nd P j a n ≤ B := by
  rw [nd_le]
  refine ⟨hB, fun i hi _ _ => Or.inl ?_⟩
  have := h i hi
  omega
def aX (a : Nat) : Int32 := if a < 5 then nI a else -1
def movd (w : Nat → Nat) (j k : Nat) : Nat → Nat := fun i => if i = j then k else w i
/-- does child j, standing at k, pick at c, a being away? -/
def wB (S : Nat → Nat) (w : Nat → Nat) (h j a k c : Nat) : Bool := decide (c < 30) && (dry S c && decide (nd (PW S w h c) j a (S 3) ≤ pw (S (5 + j)) (S (10 + j)) (farN k c) h))
theorem wB_pick {S w : Nat → Nat} {h j a k c : Nat} (hj : j < S 3) (ha : S 3 ≤ a) : wB S w h j a k c = (pick S (movd w j k) h c == j + 1) := by
  unfold wB pick
  by_cases hd : c < 30 ∧ dry S c = true
  · rw [if_pos hd]
    have : decide (c < 30) = true := decide_eq_true hd.1
    rw [this, hd.2, Bool.true_and, Bool.true_and, Bool.eq_iff_iff, decide_eq_true_iff, beq_iff_eq, bst_iff, nd_le]
    have ej : PW S (movd w j k) h c j = pw (S (5 + j)) (S (10 + j)) (farN k c) h := by
      unfold PW movd
      rw [if_pos rfl]
    have en : ∀ i, i ≠ j → PW S (movd w j k) h c i = PW S w h c i := by
      intro i hi
      unfold PW movd
      rw [if_neg hi]
    unfold beatsP
    rw [ej]
    constructor
    · rintro ⟨h1, h2⟩
      exact ⟨hj, h1, fun i hi hne => by rw [en i hne]; exact h2 i hi hne (by omega)⟩
    · rintro ⟨-, h1, h2⟩
      exact ⟨h1, fun i hi hne _ => by have := h2 i hi hne; rw [en i hne] at this; exact this⟩
  · rw [if_neg hd]
    symm
    rw [Bool.eq_iff_iff]
    simp only [Bool.and_eq_true, decide_eq_true_eq, beq_iff_eq]
    constructor
    · intro z
      omega
    · rintro ⟨z1, z2, -⟩
      exact absurd ⟨z1, z2⟩ hd
theorem wB_two {S w : Nat → Nat} {h a b x y c : Nat} (ha : a < S 3) (hb : b < S 3) (hab : a ≠ b) : (wB S w h a b x c || wB S w h b a y c) = ((pick S (movd (movd w a x) b y) h c == a + 1) || (pick S (movd (movd w a x) b y) h c == b + 1)) := by
  unfold wB pick
  by_cases hd : c < 30 ∧ dry S c = true
  · rw [if_pos hd]
    have : decide (c < 30) = true := decide_eq_true hd.1
    rw [this, hd.2, Bool.eq_iff_iff]
    simp only [Bool.true_and, Bool.or_eq_true, decide_eq_true_eq, beq_iff_eq, bst_iff, nd_le]
    have ea : PW S (movd (movd w a x) b y) h c a = pw (S (5 + a)) (S (10 + a)) (farN x c) h := by
      unfold PW movd
      rw [if_neg hab, if_pos rfl]
    have eb : PW S (movd (movd w a x) b y) h c b = pw (S (5 + b)) (S (10 + b)) (farN y c) h := by
      unfold PW movd
      rw [if_pos rfl]
    have en : ∀ i, i ≠ a → i ≠ b → PW S (movd (movd w a x) b y) h c i = PW S w h c i := by
      intro i h1 h2
      unfold PW movd
      rw [if_neg h2, if_neg h1]
    unfold beatsP
    rw [ea, eb]
    generalize pw (S (5 + a)) (S (10 + a)) (farN x c) h = p at *
    generalize pw (S (5 + b)) (S (10 + b)) (farN y c) h = r at *
    have key : ∀ (a b p r : Nat), a < S 3 → b < S 3 → a ≠ b → (1 ≤ p ∧ ∀ i, i < S 3 → i ≠ a → i ≠ b → (PW S w h c i < p ∨ PW S w h c i = p ∧ a < i)) → (r < p ∨ (r = p ∧ a < b) ∨ (1 ≤ r ∧ ∀ i, i < S 3 → i ≠ b → i ≠ a → (PW S w h c i < r ∨ PW S w h c i = r ∧ b < i))) := by
      intro a b p r ha hb hab ⟨h1, h2⟩
      by_cases z : r < p ∨ (r = p ∧ a < b)
      · rcases z with z | z
        · exact Or.inl z
        · exact Or.inr (Or.inl z)
      · refine Or.inr (Or.inr ⟨by omega, fun i hi e1 e2 => ?_⟩)
        have := h2 i hi e2 e1
        omega
    constructor
    · intro hh
      have fin : ∀ (P : Nat → Nat), P a = p → P b = r → (∀ i, i ≠ a → i ≠ b → P i = PW S w h c i) → ((a < S 3 ∧ 0 < p ∧ ∀ j, j < S 3 → j ≠ a → (P j < p ∨ P j = p ∧ a < j)) ∨ (b < S 3 ∧ 0 < r ∧ ∀ j, j < S 3 → j ≠ b → (P j < r ∨ P j = r ∧ b < j))) := by
        intro P pa pb pn
        have hA : (r < p ∨ (r = p ∧ a < b)) → (1 ≤ p ∧ ∀ i, i < S 3 → i ≠ a → i ≠ b → (PW S w h c i < p ∨ PW S w h c i = p ∧ a < i)) → (a < S 3 ∧ 0 < p ∧ ∀ j, j < S 3 → j ≠ a → (P j < p ∨ P j = p ∧ a < j)) := by
          intro z ⟨h1, h2⟩
          refine ⟨ha, h1, fun j hj e => ?_⟩
          by_cases e2 : j = b
          · rw [e2, pb]
            exact z
          · rw [pn j e e2]
            exact h2 j hj e e2
        have hB : (p < r ∨ (p = r ∧ b < a)) → (1 ≤ r ∧ ∀ i, i < S 3 → i ≠ b → i ≠ a → (PW S w h c i < r ∨ PW S w h c i = r ∧ b < i)) → (b < S 3 ∧ 0 < r ∧ ∀ j, j < S 3 → j ≠ b → (P j < r ∨ P j = r ∧ b < j)) := by
          intro z ⟨h1, h2⟩
          refine ⟨hb, h1, fun j hj e => ?_⟩
          by_cases e2 : j = a
          · rw [e2, pa]
            exact z
          · rw [pn j e2 e]
            exact h2 j hj e e2
        by_cases z : r < p ∨ (r = p ∧ a < b)
        · rcases hh with hh | hh
          · exact Or.inl (hA z hh)
          · rcases key b a r p hb ha (fun q => hab q.symm) hh with k | k | k
            · omega
            · omega
            · exact Or.inl (hA z k)
        · have z' : p < r ∨ (p = r ∧ b < a) := by omega
          rcases hh with hh | hh
          · rcases key a b p r ha hb hab hh with k | k | k
            · omega
            · omega
            · exact Or.inr (hB z' k)
          · exact Or.inr (hB z' hh)
      exact fin _ ea eb en
    · rintro (⟨-, h1, h2⟩ | ⟨-, h1, h2⟩)
      · exact Or.inl ⟨h1, fun i hi e1 e2 => by have := h2 i hi e1; rw [en i e1 e2] at this; exact this⟩
      · exact Or.inr ⟨h1, fun i hi e1 e2 => by have := h2 i hi e1; rw [en i e2 e1] at this; exact this⟩
  · rw [if_neg hd]
    have : (decide (c < 30) && dry S c) = false := by
      rw [Bool.eq_false_iff]
      intro z
      simp only [Bool.and_eq_true, decide_eq_true_eq] at z
      exact hd z
    rw [← Bool.and_assoc, ← Bool.and_assoc, this]
    simp
