/-! ## throwsFor -/
/-- the first from a on, of n, that is such -/
def fnd (p : Nat → Bool) : Nat → Nat → Option Nat
  | 0, _ => none
  | n + 1, a => if p a = true then some a else fnd p n (a + 1)
theorem fnd_some {p : Nat → Bool} {n a c : Nat} (h : fnd p n a = some c) : a ≤ c ∧ c < a + n ∧ p c = true ∧ ∀ d, a ≤ d → d < c → p d = false := by
  induction n generalizing a with
  | zero => exact absurd h (by simp [fnd])
  | succ n ih =>
    rw [fnd] at h
    by_cases q : p a = true
    · rw [if_pos q] at h
      have := Option.some.inj h
      subst this
      exact ⟨Nat.le_refl _, by omega, q, fun d h1 h2 => absurd h2 (by omega)⟩
    · rw [if_neg q] at h
      obtain ⟨h1, h2, h3, h4⟩ := ih h
      refine ⟨by omega, by omega, h3, fun d h5 h6 => ?_⟩
      by_cases e : d = a
      · rw [e]
        simpa using q
      · exact h4 d (by omega) h6
theorem fnd_none {p : Nat → Bool} {n a : Nat} (h : fnd p n a = none) : ∀ d, a ≤ d → d < a + n → p d = false := by
  induction n generalizing a with
  | zero => intro d h1 h2; omega
  | succ n ih =>
    rw [fnd] at h
    by_cases q : p a = true
    · rw [if_pos q] at h
      exact absurd h (by simp)
    · rw [if_neg q] at h
      intro d h5 h6
      by_cases e : d = a
      · rw [e]
        simpa using q
      · exact ih h d (by omega) (by omega)
theorem fnd_is {p : Nat → Bool} {n a c : Nat} (h1 : a ≤ c) (h2 : c < a + n) (h3 : p c = true) (h4 : ∀ d, a ≤ d → d < c → p d = false) : fnd p n a = some c := by
  cases hf : fnd p n a with
  | none =>
    have := fnd_none hf c h1 h2
    rw [this] at h3
    exact absurd h3 (by decide)
  | some d =>
    obtain ⟨g1, g2, g3, g4⟩ := fnd_some hf
    by_cases q : d < c
    · have := h4 d g1 q
      rw [this] at g3
      exact absurd g3 (by decide)
    · by_cases q2 : c < d
      · have := g4 c h1 q2
        rw [this] at h3
        exact absurd h3 (by decide)
      · have : d = c := by omega
        rw [this]
theorem fnd_no {p : Nat → Bool} {n a : Nat} (h : ∀ d, a ≤ d → d < a + n → p d = false) : fnd p n a = none := by
  cases hf : fnd p n a with
  | none => rfl
  | some d =>
    obtain ⟨g1, g2, g3, g4⟩ := fnd_some hf
    rw [h d g1 g2] at g3
    exact absurd g3 (by decide)
def fR (x : Option Nat) (M : Mem) (out : Nat → Mem) : Int32 × Mem := match x with
  | none => (0, M)
  | some c => (1, out c)
theorem loop_fnd {body : Int32 × Mem → Option ((Int32 × Mem) ⊕ (Mem ⊕ (Int32 × Mem)))} (p : Nat → Bool) (out : Nat → Mem) (M : Mem) (N : Nat) (he : body (nI N, M) = some (.inr (.inl M))) (hs : ∀ a, a < N → body (nI a, M) = if p a = true then some (.inr (.inr (1, out a))) else some (.inl (nI (a + 1), M))) : ∀ n a fuel, a + n = N → n < fuel → (loopF body fuel (nI a, M)).bind (fun z => sumC z (fun z5 => some ((0, z5))) (fun z => some z)) = some (fR (fnd p n a) M out) := by
  intro n
  induction n with
  | zero =>
    intro a fuel h1 h2
    obtain ⟨g, rfl⟩ : ∃ g, fuel = g + 1 := ⟨fuel - 1, by omega⟩
    have : a = N := by omega
    subst this
    rw [loopF_out (body := body) he]
    rfl
  | succ n ih =>
    intro a fuel h1 h2
    obtain ⟨g, rfl⟩ : ∃ g, fuel = g + 1 := ⟨fuel - 1, by omega⟩
    have hb := hs a (by omega)
    rw [fnd]
    by_cases q : p a = true
    · rw [if_pos q] at hb ⊢
      rw [loopF_out (body := body) hb]
      rfl
    · rw [if_neg q] at hb ⊢
      rw [loopF_step (body := body) hb]
      exact ih (a + 1) g (by omega) (by omega)
def p1 (P : Nat → Nat) (all al c : Nat) : Bool := decide (al ||| P c = all)
def f1F (P : Nat → Nat) (all al a : Nat) : Option Nat := fnd (p1 P all al) (30 - a) a
def p2 (P : Nat → Nat) (all al c : Nat) : Bool := (f1F P all (al ||| P c) (c + 1)).isSome
def f2F (P : Nat → Nat) (all al a : Nat) : Option Nat := fnd (p2 P all al) (30 - a) a
def p3 (P : Nat → Nat) (all c : Nat) : Bool := (f2F P all (P c) (c + 1)).isSome
def f3F (P : Nat → Nat) (all : Nat) : Option Nat := fnd (p3 P all) 30 0
def PLS (M : Mem) (P : Nat → Nat) : Prop := ∀ k, k < 30 → M 200 k = nI (P k) ∧ P k < 2 ^ 5
theorem PLS.keep {M : Mem} {P : Nat → Nat} (h : PLS M P) (j : Nat) (v : Int32) : PLS (mset M 201 j v) P := fun k hk => by rw [mset_ne _ _ _ (by decide)]; exact h k hk
theorem xchoose (M : Mem) {pl : Nat} (hp : pl < 3) (v : Int32) : m_X7_choose M (nI pl) v = some (mset M 201 pl v) := by
  unfold m_X7_choose
  rw [if_neg (nI_pos (by omega)), if_neg (by rw [show (3 : Int32) = nI 3 from rfl]; exact nI_ge hp (by omega)), chk_of (inB_nI hp (by omega)), nm_eq, nI_clamp (by omega)]
theorem x_one {M : Mem} {P : Nat → Nat} (h : PLS M P) {pl a al all : Nat} (hp : pl < 3) (ha : a ≤ 30) (hal : al < 2 ^ 5) (hall : all < 2 ^ 5) : m_X7_chooseOne M (nI pl) (nI a) (nI al) (nI all) = some (fR (f1F P all al a) M (fun c => mset M 201 pl (nI c))) := by
  unfold m_X7_chooseOne
  rw [if_neg (nI_pos (by omega)), nm_eq]
  refine loop_fnd (p1 P all al) (fun c => mset M 201 pl (nI c)) M 30 ?_ ?_ (30 - a) a FUEL (by omega) (FUEL_lt (by omega))
  · show b_X7_chooseOne_7 M (nI pl) (nI al) (nI all) (nI 30) = _
    unfold b_X7_chooseOne_7
    rw [if_pos (by decide)]
  · intro c hc
    show b_X7_chooseOne_7 M (nI pl) (nI al) (nI all) (nI c) = _
    unfold b_X7_chooseOne_7 p1
    obtain ⟨h1, h2⟩ := h c hc
    have h3 : al ||| P c < 2 ^ 5 := Nat.or_lt_two_pow hal h2
    rw [if_neg (by rw [show (30 : Int32) = nI 30 from rfl]; exact nI_ge hc (by omega)), chk_of (inB_nI hc (by omega)), nI_clamp (by omega), h1, nx_or (by omega) (by omega), nI_1]
    by_cases q : al ||| P c = all
    · rw [if_pos (by rw [q]), xchoose M hp, Option.bind_some, if_pos (by simp [q])]
    · rw [if_neg (by rw [nI_eq (by omega) (by omega)]; exact q), if_neg (by simp [q])]
theorem x_two {M : Mem} {P : Nat → Nat} (h : PLS M P) {pl a al all : Nat} (hp : pl < 2) (ha : a ≤ 30) (hal : al < 2 ^ 5) (hall : all < 2 ^ 5) : m_X7_chooseTwo M (nI pl) (nI a) (nI al) (nI all) = some (fR (f2F P all al a) M (fun c => mset (mset M 201 (pl + 1) (nI ((f1F P all (al ||| P c) (c + 1)).getD 0))) 201 pl (nI c))) := by
  unfold m_X7_chooseTwo
  rw [if_neg (nI_pos (by omega)), nm_eq]
  refine loop_fnd (p2 P all al) (fun c => mset (mset M 201 (pl + 1) (nI ((f1F P all (al ||| P c) (c + 1)).getD 0))) 201 pl (nI c)) M 30 ?_ ?_ (30 - a) a FUEL (by omega) (FUEL_lt (by omega))
  · show b_X7_chooseTwo_7 M (nI pl) (nI al) (nI all) (nI 30) = _
    unfold b_X7_chooseTwo_7
    rw [if_pos (by decide)]
  · intro c hc
    show b_X7_chooseTwo_7 M (nI pl) (nI al) (nI all) (nI c) = _
    unfold b_X7_chooseTwo_7 p2
    obtain ⟨h1, h2⟩ := h c hc
    have h3 : al ||| P c < 2 ^ 5 := Nat.or_lt_two_pow hal h2
    rw [if_neg (by rw [show (30 : Int32) = nI 30 from rfl]; exact nI_ge hc (by omega)), chk_of (inB_nI hc (by omega)), nI_clamp (by omega), h1, nx_or (by omega) (by omega), nI_1, nI_1, x_one h (by omega) (by omega) h3 hall, Option.bind_some]
    cases hf : f1F P all (al ||| P c) (c + 1) with
    | none =>
      show (if (0 : Int32) = 0 then _ else _) = _
      rw [if_pos rfl, if_neg (by simp)]
      rfl
    | some d =>
      show (if (1 : Int32) = 0 then _ else _) = _
      rw [if_neg n10, if_pos (by simp)]
      show (m_X7_choose (mset M 201 (pl + 1) (nI d)) (nI pl) (nI c)).bind _ = _
      rw [xchoose _ (by omega), Option.bind_some]
      rfl
theorem x_three {M : Mem} {P : Nat → Nat} (h : PLS M P) {all : Nat} (hall : all < 2 ^ 5) : m_X7_chooseThree M (nI all) = some (fR (f3F P all) M (fun c => mset (mset (mset M 201 2 (nI ((f1F P all (P c ||| P ((f2F P all (P c) (c + 1)).getD 0)) ((f2F P all (P c) (c + 1)).getD 0 + 1)).getD 0))) 201 1 (nI ((f2F P all (P c) (c + 1)).getD 0))) 201 0 (nI c))) := by
  unfold m_X7_chooseThree
  refine loop_fnd (p3 P all) (fun c => mset (mset (mset M 201 2 (nI ((f1F P all (P c ||| P ((f2F P all (P c) (c + 1)).getD 0)) ((f2F P all (P c) (c + 1)).getD 0 + 1)).getD 0))) 201 1 (nI ((f2F P all (P c) (c + 1)).getD 0))) 201 0 (nI c)) M 30 ?_ ?_ 30 0 FUEL (by omega) (FUEL_lt (by omega))
  · show b_X7_chooseThree_2 M (nI all) (nI 30) = _
    unfold b_X7_chooseThree_2
    rw [if_pos (by decide)]
  · intro c hc
    show b_X7_chooseThree_2 M (nI all) (nI c) = _
    unfold b_X7_chooseThree_2 p3
    obtain ⟨h1, h2⟩ := h c hc
    rw [if_neg (by rw [show (30 : Int32) = nI 30 from rfl]; exact nI_ge hc (by omega)), chk_of (inB_nI hc (by omega)), nI_clamp (by omega), h1, nI_1, show (1 : Int32) = nI 1 from rfl, x_two h (by omega) (by omega) h2 hall, Option.bind_some]
    cases hf : f2F P all (P c) (c + 1) with
    | none =>
      show (if (0 : Int32) = 0 then _ else _) = _
      rw [if_pos rfl, if_neg (by simp)]
      rfl
    | some d =>
      show (if (1 : Int32) = 0 then _ else _) = _
      rw [if_neg n10, if_pos (by simp)]
      show (m_X7_choose (mset (mset M 201 2 (nI ((f1F P all (P c ||| P d) (d + 1)).getD 0))) 201 1 (nI d)) (nI 0) (nI c)).bind _ = _
      rw [xchoose _ (by omega), Option.bind_some]
      rfl
/-- the reference: a row of k cells, as a number by 30s, that pleases all -/
def q3 (P : Nat → Nat) (k all n : Nat) : Bool := decide (((if k = 0 then 0 else P (n % 30)) ||| (if k ≤ 1 then 0 else P (n / 30 % 30))) ||| (if k ≤ 2 then 0 else P (n / 900)) = all)
def ySets (M : Mem) (P : Nat → Nat) : Prop := ∀ k, k < 30 → M 248 k = nI (P k) ∧ P k < 2 ^ 5
def gR (x : Option Nat) : Int32 := match x with
  | none => -1000000
  | some n => nI n
theorem loop_fnd2 {body : Int32 → Option (Int32 ⊕ (Unit ⊕ Int32))} (p : Nat → Bool) (N : Nat) (he : body (nI N) = some (.inr (.inl ()))) (hs : ∀ a, a < N → body (nI a) = if p a = true then some (.inr (.inr (nI a))) else some (.inl (nI (a + 1)))) : ∀ n a fuel, a + n = N → n < fuel → (loopF body fuel (nI a)).bind (fun z => sumC z (fun _ => some (-1000000)) (fun z => some z)) = some (gR (fnd p n a)) := by
  intro n
  induction n with
  | zero =>
    intro a fuel h1 h2
    obtain ⟨g, rfl⟩ : ∃ g, fuel = g + 1 := ⟨fuel - 1, by omega⟩
    have : a = N := by omega
    subst this
    rw [loopF_out (body := body) he]
    rfl
  | succ n ih =>
    intro a fuel h1 h2
    obtain ⟨g, rfl⟩ : ∃ g, fuel = g + 1 := ⟨fuel - 1, by omega⟩
    have hb := hs a (by omega)
    rw [fnd]
    by_cases q : p a = true
    · rw [if_pos q] at hb ⊢
      rw [loopF_out (body := body) hb]
      rfl
    · rw [if_neg q] at hb ⊢
      rw [loopF_step (body := body) hb]
      exact ih (a + 1) g (by omega) (by omega)
theorem y_row {M : Mem} {P : Nat → Nat} {S : Nat → Nat} (h : ySets M P) (hY : Sqm (M 239) S) (hV : VS S) {k : Nat} (hk : k ≤ 3) : m_X8_rowOf M (nI k) = some (gR (fnd (q3 P k (2 ^ S 3 - 1)) (30 ^ k) 0)) := by
  have hn := hV.2.1
  have i3 : (3 : Int32).toNatClampNeg = 3 := rfl
  have h2n : 2 ^ S 3 ≤ 2 ^ 5 := Nat.pow_le_pow_right (by omega) hn
  have hall : (1 <<< (nI (S 3) &&& 31)) - 1 = nI (2 ^ S 3 - 1) := by
    rw [sl_1 _ (by omega), show (1 : Int32) = nI 1 from rfl, pk_sub (Nat.two_pow_pos _)]
  unfold m_X8_rowOf
  rw [chk_of (by decide), i3, hY.2.2.1, hall, nm_eq]
  generalize hA : 2 ^ S 3 - 1 = all
  have hall5 : all < 2 ^ 5 := by omega
  have h30 : 30 ^ k ≤ 27000 := by
    have : 30 ^ k ≤ 30 ^ 3 := Nat.pow_le_pow_right (by omega) hk
    omega
  have main : j_X8_rowOf_43 M (nI k) (nI all) (nI (30 ^ k)) = some (gR (fnd (q3 P k all) (30 ^ k) 0)) := by
    unfold j_X8_rowOf_43
    refine loop_fnd2 (q3 P k all) (30 ^ k) ?_ ?_ (30 ^ k) 0 FUEL (by omega) (FUEL_lt (by omega))
    · show b_X8_rowOf_47 M (nI k) (nI all) (nI (30 ^ k)) (nI (30 ^ k)) = _
      unfold b_X8_rowOf_47
      rw [if_pos (nI_le (Nat.le_refl _) (by omega))]
    · intro a ha
      show b_X8_rowOf_47 M (nI k) (nI all) (nI (30 ^ k)) (nI a) = _
      have c3 : k = 3 → a / 900 < 30 := by
        intro e
        subst e
        have : (30 : Nat) ^ 3 = 27000 := rfl
        omega
      have e122 : ∀ x y, x < 2 ^ 5 → y < 2 ^ 5 → j_X8_rowOf_122 M (nI k) (nI all) (nI (30 ^ k)) (nI a) (nI x) (nI y) = if y ||| x = all then some (.inr (.inr (nI a))) else some (.inl (nI (a + 1))) := by
        intro x y hx hy
        unfold j_X8_rowOf_122
        have : y ||| x < 2 ^ 5 := Nat.or_lt_two_pow hy hx
        rw [nx_or (by omega) (by omega), nm_eq, nI_1]
        by_cases q : y ||| x = all
        · rw [if_pos (by rw [q]), if_pos q]
        · rw [if_neg (by rw [nI_eq (by omega) (by omega)]; exact q), if_neg q]
      have e97 : ∀ x y, x < 2 ^ 5 → y < 2 ^ 5 → j_X8_rowOf_97 M (nI k) (nI all) (nI (30 ^ k)) (nI a) (nI x) (nI y) = if (y ||| x) ||| (if k ≤ 2 then 0 else P (a / 900)) = all then some (.inr (.inr (nI a))) else some (.inl (nI (a + 1))) := by
        intro x y hx hy
        unfold j_X8_rowOf_97
        have h5 : y ||| x < 2 ^ 5 := Nat.or_lt_two_pow hy hx
        rw [nx_or (by omega) (by omega), nm_eq]
        by_cases q : k ≤ 2
        · rw [if_pos (by rw [show (2 : Int32) = nI 2 from rfl]; exact nI_le q (by omega)), if_pos q]
          exact e122 0 _ (by omega) h5
        · have hc := c3 (by omega)
          obtain ⟨g1, g2⟩ := h _ hc
          rw [if_neg (by rw [show (2 : Int32) = nI 2 from rfl]; exact nI_ge (by omega) (by omega)), show (900 : Int32) = nI 900 from rfl, pk_div (by omega) (by omega) (by omega), chk_of (inB_nI hc (by omega)), nI_clamp (by omega), g1, if_neg q]
          exact e122 _ _ g2 h5
      have e71 : ∀ x, x < 2 ^ 5 → j_X8_rowOf_71 M (nI k) (nI all) (nI (30 ^ k)) (nI a) (nI x) = if (x ||| (if k ≤ 1 then 0 else P (a / 30 % 30))) ||| (if k ≤ 2 then 0 else P (a / 900)) = all then some (.inr (.inr (nI a))) else some (.inl (nI (a + 1))) := by
        intro x hx
        unfold j_X8_rowOf_71
        by_cases q : k ≤ 1
        · rw [if_pos (by rw [show (1 : Int32) = nI 1 from rfl]; exact nI_le q (by omega)), if_pos q]
          exact e97 0 _ (by omega) hx
        · have hc : a / 30 % 30 < 30 := by omega
          obtain ⟨g1, g2⟩ := h _ hc
          rw [if_neg (by rw [show (1 : Int32) = nI 1 from rfl]; exact nI_ge (by omega) (by omega)), show (30 : Int32) = nI 30 from rfl, pk_div (by omega) (by omega) (by omega), nI_rem (by omega) (by omega) (by omega), chk_of (inB_nI hc (by omega)), nI_clamp (by omega), g1, if_neg q]
          exact e97 _ _ g2 hx
      unfold b_X8_rowOf_47
      rw [if_neg (nI_ge ha (by omega))]
      have eq3 : (if q3 P k all a = true then (some (.inr (.inr (nI a))) : Option (Int32 ⊕ (Unit ⊕ Int32))) else some (.inl (nI (a + 1)))) = if ((if k = 0 then 0 else P (a % 30)) ||| (if k ≤ 1 then 0 else P (a / 30 % 30))) ||| (if k ≤ 2 then 0 else P (a / 900)) = all then some (.inr (.inr (nI a))) else some (.inl (nI (a + 1))) := by
        unfold q3
        by_cases q : ((if k = 0 then 0 else P (a % 30)) ||| (if k ≤ 1 then 0 else P (a / 30 % 30))) ||| (if k ≤ 2 then 0 else P (a / 900)) = all
        · rw [if_pos q, if_pos (decide_eq_true q)]
        · rw [if_neg q, if_neg (by rw [decide_eq_true_iff]; exact q)]
      rw [eq3]
      by_cases q : k = 0
      · rw [if_pos (by rw [q]; decide), if_pos q]
        exact e71 0 (by omega)
      · have hc : a % 30 < 30 := by omega
        obtain ⟨g1, g2⟩ := h _ hc
        rw [if_neg (by rw [show (0 : Int32) = nI 0 from rfl]; exact nI_ge (by omega) (by omega)), show (30 : Int32) = nI 30 from rfl, nI_rem (by omega) (by omega) (by omega), chk_of (inB_nI hc (by omega)), nI_clamp (by omega), g1, if_neg q]
        exact e71 _ g2
  have hcc : k = 0 ∨ k = 1 ∨ k = 2 ∨ k = 3 := by omega
  rcases hcc with rfl | rfl | rfl | rfl
  · rw [if_pos (by decide)]; exact main
  · rw [if_neg (by decide), if_pos (by decide)]; exact main
  · rw [if_neg (by decide), if_neg (by decide), if_pos (by decide)]; exact main
  · rw [if_neg (by decide), if_neg (by decide), if_neg (by decide)]; exact main
/-! the least row is the first of rising cells -/
theorem row1 (P : Nat → Nat) (all : Nat) : fnd (q3 P 1 all) 30 0 = f1F P all 0 0 := by
  have e : ∀ n, n < 30 → q3 P 1 all n = p1 P all 0 n := by
    intro n hn
    unfold q3 p1
    rw [if_neg (by decide), if_pos (by decide), if_pos (by decide), Nat.mod_eq_of_lt hn, Nat.or_zero, Nat.or_zero, Nat.zero_or]
  unfold f1F
  cases hf : fnd (p1 P all 0) (30 - 0) 0 with
  | none => exact fnd_no fun d h1 h2 => by rw [e d (by omega)]; exact fnd_none hf d h1 (by omega)
  | some c =>
    obtain ⟨h1, h2, h3, h4⟩ := fnd_some hf
    exact fnd_is h1 (by omega) (by rw [e c (by omega)]; exact h3) fun d h5 h6 => by rw [e d (by omega)]; exact h4 d h5 h6
theorem q32 (P : Nat → Nat) (all a b : Nat) (hb : b < 30) (ha : a < 30) : q3 P 2 all (30 * a + b) = decide (P b ||| P a = all) := by
  unfold q3
  rw [if_neg (by decide), if_neg (by decide), if_pos (by decide), Nat.or_zero, show (30 * a + b) % 30 = b by omega, show (30 * a + b) / 30 % 30 = a by omega]
theorem q33 (P : Nat → Nat) (all a b c : Nat) (hb : b < 30) (ha : a < 30) (hc : c < 30) : q3 P 3 all (900 * a + 30 * b + c) = decide ((P c ||| P b) ||| P a = all) := by
  unfold q3
  rw [if_neg (by decide), if_neg (by decide), if_neg (by decide), show (900 * a + 30 * b + c) % 30 = c by omega, show (900 * a + 30 * b + c) / 30 % 30 = b by omega, show (900 * a + 30 * b + c) / 900 = a by omega]
theorem f1_none {P : Nat → Nat} {all al a : Nat} (h : f1F P all al a = none) {c : Nat} (h1 : a ≤ c) (h2 : c < 30) : al ||| P c ≠ all := by
  have := fnd_none h c h1 (by omega)
  unfold p1 at this
  exact of_decide_eq_false this
theorem f1_no {P : Nat → Nat} {all al a : Nat} (h : ∀ c, a ≤ c → c < 30 → al ||| P c ≠ all) : f1F P all al a = none := fnd_no fun d h1 h2 => decide_eq_false (h d h1 (by omega))
theorem row2 {P : Nat → Nat} {all : Nat} (h1 : f1F P all 0 0 = none) : match fnd (q3 P 2 all) 900 0 with
    | none => f2F P all 0 0 = none
    | some m => m < 900 ∧ f2F P all 0 0 = some (m / 30) ∧ f1F P all (0 ||| P (m / 30)) (m / 30 + 1) = some (m % 30) := by
  cases hf : fnd (q3 P 2 all) 900 0 with
  | none =>
    show f2F P all 0 0 = none
    refine fnd_no fun a ha ha2 => ?_
    unfold p2
    rw [f1_no]
    · rfl
    · intro b hb hb2 q
      have := fnd_none hf (30 * a + b) (by omega) (by omega)
      rw [q32 _ _ _ _ hb2 (by omega), decide_eq_false_iff_not] at this
      apply this
      rw [← q, Nat.zero_or, Nat.or_comm]
  | some m =>
    show _ ∧ _ ∧ _
    obtain ⟨-, g2, g3, g4⟩ := fnd_some hf
    generalize ha : m / 30 = a
    generalize hb : m % 30 = b
    have hm : m = 30 * a + b := by omega
    have ha30 : a < 30 := by omega
    have hb30 : b < 30 := by omega
    rw [hm, q32 _ _ _ _ hb30 ha30, decide_eq_true_iff] at g3
    have hmin : ∀ a' b', a' < 30 → b' < 30 → 30 * a' + b' < m → P b' ||| P a' ≠ all := by
      intro a' b' h1 h2 h3
      have := g4 (30 * a' + b') (by omega) h3
      rw [q32 _ _ _ _ h2 h1] at this
      exact of_decide_eq_false this
    have hab : a < b := by
      by_cases q : a < b
      · exact q
      · exfalso
        by_cases e : a = b
        · rw [e, Nat.or_self] at g3
          exact f1_none h1 (c := b) (by omega) hb30 (by rw [Nat.zero_or]; exact g3)
        · exact hmin b a hb30 ha30 (by omega) (by rw [Nat.or_comm]; exact g3)
    have k1 : f1F P all (0 ||| P a) (a + 1) = some b := by
      refine fnd_is (by omega) (by omega) ?_ fun d h5 h6 => ?_
      · unfold p1
        rw [decide_eq_true_iff, Nat.zero_or, Nat.or_comm]
        exact g3
      · unfold p1
        rw [decide_eq_false_iff_not, Nat.zero_or, Nat.or_comm]
        exact hmin a d ha30 (by omega) (by omega)
    refine ⟨by omega, ?_, k1⟩
    refine fnd_is (by omega) (by omega) ?_ fun d h5 h6 => ?_
    · unfold p2
      rw [k1]
      rfl
    · unfold p2
      rw [f1_no]
      · rfl
      · intro c h7 h8 q
        rw [Nat.zero_or, Nat.or_comm] at q
        exact hmin d c (by omega) h8 (by omega) q
theorem f2_none {P : Nat → Nat} {all al a : Nat} (h : f2F P all al a = none) {c d : Nat} (h1 : a ≤ c) (h2 : c < d) (h3 : d < 30) : (al ||| P c) ||| P d ≠ all := by
  have := fnd_none h c h1 (by omega)
  unfold p2 at this
  have h4 : f1F P all (al ||| P c) (c + 1) = none := by simpa using this
  exact f1_none h4 (by omega) h3
theorem f2_no {P : Nat → Nat} {all al a : Nat} (h : ∀ c d, a ≤ c → c < d → d < 30 → (al ||| P c) ||| P d ≠ all) : f2F P all al a = none := fnd_no fun c h1 h2 => by
  unfold p2
  rw [f1_no]
  · rfl
  · intro d h3 h4
    exact h c d h1 (by omega) h4
theorem row3 {P : Nat → Nat} {all : Nat} (h1 : f1F P all 0 0 = none) (h2 : f2F P all 0 0 = none) : match fnd (q3 P 3 all) 27000 0 with
    | none => f3F P all = none
    | some m => m < 27000 ∧ f3F P all = some (m / 900) ∧ f2F P all (P (m / 900)) (m / 900 + 1) = some (m / 30 % 30) ∧ f1F P all (P (m / 900) ||| P (m / 30 % 30)) (m / 30 % 30 + 1) = some (m % 30) := by
  have no2 : ∀ a b, a < 30 → b < 30 → P a ||| P b ≠ all := by
    intro a b ha hb q
    by_cases e : a = b
    · rw [e, Nat.or_self] at q
      exact f1_none h1 (c := b) (by omega) hb (by rw [Nat.zero_or]; exact q)
    · by_cases z : a < b
      · exact f2_none h2 (c := a) (d := b) (by omega) z hb (by rw [Nat.zero_or]; exact q)
      · exact f2_none h2 (c := b) (d := a) (by omega) (by omega) ha (by rw [Nat.zero_or, Nat.or_comm]; exact q)
  cases hf : fnd (q3 P 3 all) 27000 0 with
  | none =>
    show f3F P all = none
    refine fnd_no fun a ha ha2 => ?_
    unfold p3
    rw [f2_no]
    · rfl
    · intro b c hb hc hc2 q
      have := fnd_none hf (900 * a + 30 * b + c) (by omega) (by omega)
      rw [q33 _ _ _ _ _ (by omega) (by omega) hc2, decide_eq_false_iff_not] at this
      apply this
      rw [← q, Nat.or_comm (P c), Nat.or_comm _ (P a), Nat.or_assoc]
  | some m =>
    show _ ∧ _ ∧ _ ∧ _
    obtain ⟨-, g2, g3, g4⟩ := fnd_some hf
    generalize ha : m / 900 = a
    generalize hb : m / 30 % 30 = b
    generalize hc : m % 30 = c
    have hm : m = 900 * a + 30 * b + c := by omega
    have ha30 : a < 30 := by omega
    have hb30 : b < 30 := by omega
    have hc30 : c < 30 := by omega
    rw [hm, q33 _ _ _ _ _ hb30 ha30 hc30, decide_eq_true_iff] at g3
    have hmin : ∀ a' b' c', a' < 30 → b' < 30 → c' < 30 → 900 * a' + 30 * b' + c' < m → (P a' ||| P b') ||| P c' ≠ all := by
      intro a' b' c' h1 h2 h3 h4 q
      have := g4 (900 * a' + 30 * b' + c') (by omega) h4
      rw [q33 _ _ _ _ _ h2 h1 h3, decide_eq_false_iff_not] at this
      apply this
      rw [← q, Nat.or_comm (P c'), Nat.or_comm _ (P a'), Nat.or_assoc]
    have g5 : (P a ||| P b) ||| P c = all := by rw [← g3, Nat.or_comm (P c), Nat.or_comm _ (P a), Nat.or_assoc]
    have hab : a < b := by
      by_cases q : a < b
      · exact q
      · exfalso
        by_cases e : a = b
        · rw [e, Nat.or_self] at g5
          exact no2 _ _ hb30 hc30 g5
        · exact hmin b a c hb30 ha30 hc30 (by omega) (by rw [Nat.or_comm (P b)]; exact g5)
    have hbc : b < c := by
      by_cases q : b < c
      · exact q
      · exfalso
        by_cases e : b = c
        · rw [e, Nat.or_assoc, Nat.or_self] at g5
          exact no2 _ _ ha30 hc30 g5
        · exact hmin a c b ha30 hc30 hb30 (by omega) (by rw [Nat.or_assoc, Nat.or_comm (P c), ← Nat.or_assoc]; exact g5)
    have k1 : f1F P all (P a ||| P b) (b + 1) = some c := by
      refine fnd_is (by omega) (by omega) ?_ fun d h5 h6 => ?_
      · unfold p1
        rw [decide_eq_true_iff]
        exact g5
      · unfold p1
        rw [decide_eq_false_iff_not]
        exact hmin a b d ha30 hb30 (by omega) (by omega)
    have k2 : f2F P all (P a) (a + 1) = some b := by
      refine fnd_is (by omega) (by omega) ?_ fun d h5 h6 => ?_
      · unfold p2
        rw [k1]
        rfl
      · unfold p2
        rw [f1_no]
        · rfl
        · intro e h7 h8
          exact hmin a d e ha30 (by omega) h8 (by omega)
    refine ⟨by omega, ?_, k2, k1⟩
    refine fnd_is (by omega) (by omega) ?_ fun d h5 h6 => ?_
    · unfold p3
      rw [k2]
      rfl
    · unfold p3
      rw [f2_no]
      · rfl
      · intro e f h7 h8 h9
        exact hmin d e f (by omega) (by omega) h9 (by omega)
