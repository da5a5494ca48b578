/-! ## names and numbers -/
def wrd (w : Nat) : List Nat := (sByt.getD w []).map (fun x => x.toInt.toNat)
theorem wrd_tab : ∀ w, w < 8 → (wrd w).length = sLen.getD w 0 ∧ (wrd w).length ≤ 5 ∧ 1 ≤ (wrd w).length ∧ ((∀ b ∈ wrd w, 1 ≤ b ∧ b < 256) ∧ ∀ k, k < 5 → k < (wrd w).length → sChI w (nI k) = nI ((wrd w).getD k 0)) := by decide +kernel
/-- the bytes of a name -/
def nmL (t : Nat → Nat) (T : Nat × Nat × Nat) : List Nat := (List.range (T.2.2 - T.1)).map (fun k => t (T.1 + k))
def isW (t : Nat → Nat) (T : Nat × Nat × Nat) (w : Nat) : Bool := decide (T.2.1 = 1 ∧ nmL t T = wrd w)
theorem nmL_len (t : Nat → Nat) (T : Nat × Nat × Nat) : (nmL t T).length = T.2.2 - T.1 := by simp [nmL]
theorem nmL_at (t : Nat → Nat) (T : Nat × Nat × Nat) {k : Nat} (hk : k < T.2.2 - T.1) : (nmL t T).getD k 0 = t (T.1 + k) := by
  unfold nmL
  rw [List.getD_eq_getElem?_getD, List.getElem?_map, List.getElem?_range hk]
  rfl
/-- a token of the text -/
def TK (t : Nat → Nat) (n : Nat) (T : Nat × Nat × Nat) : Prop := T.1 ≤ T.2.2 ∧ T.2.2 ≤ n ∧ T.2.1 ≤ 4 ∧ (T.2.1 = 1 → ∀ k, T.1 ≤ k → k < T.2.2 → ltr (t k) = true)
theorem xname {M : Mem} {t : Nat → Nat} {n : Nat} {T : Nat × Nat × Nat} (hT : TPx M t n) (hX : XTk M t T) (hK : TK t n T) {w : Nat} (hw : w < 8) : m_X6_isName M w = some (if isW t T w = true then 1 else 0) := by
  obtain ⟨w1, w2, w3, -, w5⟩ := wrd_tab w hw
  obtain ⟨k1, k2, k3, -⟩ := hK
  have hn := hT.1
  unfold m_X6_isName isW
  rw [hX.1, hX.2.1, hX.2.2.1]
  by_cases c1 : T.2.1 = 1
  · rw [if_pos (by rw [c1]; rfl), pk_sub k1]
    have hsl : sLenI w = nI (wrd w).length := by unfold sLenI; rw [w1]
    rw [hsl]
    by_cases c2 : T.2.2 - T.1 = (wrd w).length
    · rw [if_pos (by rw [c2])]
      obtain ⟨k0, a1, a2, a3⟩ := least_bad (fun k => t (T.1 + k) = (wrd w).getD k 0) (wrd w).length
      have key := loopF_for (body := fun z => b_X6_isName_28 M w z) k0 (fun i => nI i) (if k0 = (wrd w).length then .inl () else .inr 0) FUEL (FUEL_lt (by omega)) ?_ ?_
      · have key' : loopF (fun z => b_X6_isName_28 M w z) FUEL 0 = _ := key
        rw [key', Option.bind_some]
        by_cases e : k0 = (wrd w).length
        · rw [if_pos e]
          have hl : nmL t T = wrd w := by
            apply List.ext_getElem
            · rw [nmL_len, c2]
            · intro i h1 h2
              have := a2 i (by omega)
              rw [List.getD_eq_getElem?_getD, List.getElem?_eq_getElem h2] at this
              simp only [nmL, List.getElem_map, List.getElem_range]
              exact this
          rw [if_pos (by rw [decide_eq_true_iff]; exact ⟨c1, hl⟩)]
          rfl
        · rw [if_neg e]
          have hl : ¬ nmL t T = wrd w := by
            intro z
            apply a3 (by omega)
            rw [← z, nmL_at t T (by omega)]
          rw [if_neg (by rw [decide_eq_true_iff]; exact fun z => hl z.2)]
          rfl
      · intro i hi
        show b_X6_isName_28 M w (nI i) = _
        unfold b_X6_isName_28
        rw [hsl, if_neg (nI_ge (by omega) (by omega)), hX.1, nI_add, xbyte hT (by omega), Option.bind_some, chk_of (by rw [← w1]; exact inB_nI (by omega) (by omega)), w5 i (by omega) (by omega), a2 i hi, if_pos rfl, nI_1]
      · show b_X6_isName_28 M w (nI k0) = _
        unfold b_X6_isName_28
        by_cases e : k0 = (wrd w).length
        · rw [hsl, if_pos (by rw [e]; exact nI_le (Nat.le_refl _) (by omega)), if_pos e]
        · have hb := (hT.2.2 (T.1 + k0) (by omega)).2
          have hwb : (wrd w).getD k0 0 < 256 := by
            have h4 := (wrd_tab w hw).2.2.2.1
            rw [List.getD_eq_getElem?_getD, List.getElem?_eq_getElem (by omega : k0 < (wrd w).length)]
            exact (h4 _ (List.getElem_mem _)).2
          rw [hsl, if_neg (nI_ge (by omega) (by omega)), hX.1, nI_add, xbyte hT (by omega), Option.bind_some, chk_of (by rw [← w1]; exact inB_nI (by omega) (by omega)), w5 k0 (by omega) (by omega), if_neg (by rw [nI_eq (by omega) (by omega)]; exact a3 (by omega)), if_neg e]
    · rw [if_neg (by rw [nI_eq (by omega) (by omega)]; exact c2), if_neg]
      rw [decide_eq_true_iff]
      rintro ⟨-, z⟩
      apply c2
      rw [← z, nmL_len]
  · rw [if_neg (by rw [show (1 : Int32) = nI 1 from rfl, nI_eq (by omega) (by omega)]; exact c1), if_neg]
    rw [decide_eq_true_iff]
    exact fun z => c1 z.1
/-- a name as the reference tells it -/
def fv (l : List Nat) : Nat := l.foldl (fun a b => 256 * a + b) 0
theorem fv_snoc (l : List Nat) (b : Nat) : fv (l ++ [b]) = 256 * fv l + b := by
  unfold fv
  rw [List.foldl_append]
  rfl
theorem fv_pos {l : List Nat} (h : ∀ b ∈ l, 1 ≤ b ∧ b < 256) (hn : l ≠ []) : 0 < fv l := by
  rcases List.eq_nil_or_concat l with e | ⟨l', b, e⟩
  · exact absurd e hn
  · rw [List.concat_eq_append] at e
    subst e
    rw [fv_snoc]
    have := h b (by simp)
    omega
theorem fv_inj : ∀ (n : Nat) (l l' : List Nat), l.length ≤ n → (∀ b ∈ l, 1 ≤ b ∧ b < 256) → (∀ b ∈ l', 1 ≤ b ∧ b < 256) → fv l = fv l' → l = l' := by
  intro n
  induction n with
  | zero =>
    intro l l' hl h1 h2 h
    have e : l = [] := List.eq_nil_of_length_eq_zero (by omega)
    subst e
    by_cases q : l' = []
    · exact q.symm
    · have := fv_pos h2 q
      have : fv [] = 0 := rfl
      omega
  | succ n ih =>
    intro l l' hl h1 h2 h
    rcases List.eq_nil_or_concat l with e | ⟨a, b, e⟩
    · subst e
      by_cases q : l' = []
      · exact q.symm
      · have := fv_pos h2 q
        have : fv [] = 0 := rfl
        omega
    · rw [List.concat_eq_append] at e
      subst e
      rcases List.eq_nil_or_concat l' with e | ⟨a', b', e⟩
      · subst e
        have := fv_pos h1 (by simp)
        have : fv [] = 0 := rfl
        omega
      · rw [List.concat_eq_append] at e
        subst e
        rw [fv_snoc, fv_snoc] at h
        have g1 := h1 b (by simp)
        have g2 := h2 b' (by simp)
        have e1 : fv a = fv a' := by omega
        have e2 : b = b' := by omega
        rw [List.length_append] at hl
        simp only [List.length_cons, List.length_nil] at hl
        rw [ih a a' (by omega) (fun x hx => h1 x (by simp [hx])) (fun x hx => h2 x (by simp [hx])) e1, e2]
theorem fv_ltN : ∀ (n : Nat) (l : List Nat), l.length ≤ n → (∀ b ∈ l, b < 256) → fv l < 256 ^ l.length := by
  intro n
  induction n with
  | zero =>
    intro l hl h
    have e : l = [] := List.eq_nil_of_length_eq_zero (by omega)
    subst e
    exact Nat.one_pos
  | succ n ih =>
    intro l hl h
    rcases List.eq_nil_or_concat l with e | ⟨a, b, e⟩
    · subst e
      exact Nat.one_pos
    · rw [List.concat_eq_append] at e
      subst e
      rw [List.length_append] at hl
      simp only [List.length_cons, List.length_nil] at hl
      rw [fv_snoc, List.length_append]
      have h1 := ih a (by omega) (fun x hx => h x (by simp [hx]))
      have h2 := h b (by simp)
      simp only [List.length_cons, List.length_nil, Nat.zero_add, Nat.pow_succ]
      omega
theorem fv_lt (l : List Nat) (h : ∀ b ∈ l, b < 256) : fv l < 256 ^ l.length := fv_ltN _ l (Nat.le_refl _) h
def nmV (t : Nat → Nat) (T : Nat × Nat × Nat) : Nat := if T.2.1 = 1 ∧ T.2.2 - T.1 < 8 then fv (nmL t T) else 0
theorem nmL_take (t : Nat → Nat) (s k : Nat) : nmL t (s, 1, s + (k + 1)) = nmL t (s, 1, s + k) ++ [t (s + k)] := by
  unfold nmL
  show (List.range (s + (k + 1) - s)).map _ = (List.range (s + k - s)).map _ ++ _
  rw [show s + (k + 1) - s = k + 1 by omega, show s + k - s = k by omega, List.range_succ, List.map_append]
  rfl
theorem nmL_lt {M : Mem} {t : Nat → Nat} {n : Nat} {T : Nat × Nat × Nat} (hT : TPy M t n) (hK : T.2.2 ≤ n) : ∀ b ∈ nmL t T, b < 256 := by
  intro b hb
  obtain ⟨k, hk, rfl⟩ := List.mem_map.mp hb
  exact (hT.2.2 _ (by have := List.mem_range.mp hk; omega)).2
theorem yname {M : Mem} {t : Nat → Nat} {n : Nat} {T : Nat × Nat × Nat} (hT : TPy M t n) (hX : YTk M T) (hK : TK t n T) : m_X8_name M = some (lN (nmV t T)) := by
  obtain ⟨k1, k2, k3, -⟩ := hK
  have hn := hT.1
  unfold m_X8_name nmV
  by_cases c : T.2.1 = 1 ∧ T.2.2 - T.1 < 8
  · rw [if_pos c]
    have key := loopF_for (body := fun z => b_X8_name_4 M z.1 z.2) (T.2.2 - T.1) (fun i => (lN (fv (nmL t (T.1, 1, T.1 + i))), nI i)) (lN (fv (nmL t T))) FUEL (FUEL_lt (by omega)) ?_ ?_
    · have e0 : nmL t (T.1, 1, T.1 + 0) = [] := by
        unfold nmL
        show (List.range (T.1 + 0 - T.1)).map _ = _
        rw [show T.1 + 0 - T.1 = 0 by omega]
        rfl
      rw [e0] at key
      have key' : loopF (fun z => b_X8_name_4 M z.1 z.2) FUEL (0, 0) = _ := key
      rw [key']
      rfl
    · intro i hi
      show b_X8_name_4 M _ (nI i) = _
      unfold b_X8_name_4
      have hb := (hT.2.2 (T.1 + i) (by omega)).2
      rw [hX.2.2.2, if_neg (nI_ge hi (by omega)), if_neg (by rw [show (8 : Int32) = nI 8 from rfl]; exact nI_ge c.2 (by omega)), hX.2.2.1, if_pos (by rw [c.1]; rfl), hX.1, nI_add, ybyte hT (by omega), Option.bind_some, nI_l (by omega), nm_eq, nI_1, nmL_take, fv_snoc, show (256 : Int64) = lN 256 from rfl, l_mul]
      have : lN (256 * fv (nmL t (T.1, 1, T.1 + i))) + lN (t (T.1 + i)) = lN (256 * fv (nmL t (T.1, 1, T.1 + i)) + t (T.1 + i)) := (Int64.ofNat_add _ _).symm
      rw [this]
    · show b_X8_name_4 M _ (nI (T.2.2 - T.1)) = _
      unfold b_X8_name_4
      rw [hX.2.2.2, if_pos (nI_le (Nat.le_refl _) (by omega)), show T.1 + (T.2.2 - T.1) = T.2.2 by omega]
      rfl
  · rw [if_neg c]
    have : loopF (fun z => b_X8_name_4 M z.1 z.2) FUEL (0, 0) = some 0 := by
      refine loopF_out (body := fun z => b_X8_name_4 M z.1 z.2) (f := 99999) ?_
      show b_X8_name_4 M 0 0 = _
      unfold b_X8_name_4
      rw [hX.2.2.2, hX.2.2.1]
      by_cases q1 : nI (T.2.2 - T.1) ≤ 0
      · rw [if_pos q1]
      · rw [if_neg q1]
        by_cases q2 : 8 ≤ nI (T.2.2 - T.1)
        · rw [if_pos q2]
        · rw [if_neg q2, if_neg]
          rw [show (1 : Int32) = nI 1 from rfl, nI_eq (by omega) (by omega)]
          intro z
          apply c
          refine ⟨z, ?_⟩
          by_cases q3 : T.2.2 - T.1 < 8
          · exact q3
          · exact absurd (nI_le (a := 8) (by omega) (by omega)) q2
    rw [this]
    rfl
/-- a name is a word -/
theorem nmV_w {M : Mem} {t : Nat → Nat} {n : Nat} {T : Nat × Nat × Nat} (hT : TPy M t n) (hK : TK t n T) {w c : Nat} (hw : w < 8) (hc : fv (wrd w) = c) (h0 : 0 < c) : (nmV t T = c ↔ isW t T w = true) ∧ nmV t T < 2 ^ 63 := by
  obtain ⟨k1, k2, k3, k4⟩ := hK
  obtain ⟨w1, w2, w3, w4, w5⟩ := wrd_tab w hw
  unfold nmV isW
  rw [decide_eq_true_iff]
  by_cases q : T.2.1 = 1 ∧ T.2.2 - T.1 < 8
  · rw [if_pos q]
    have hb : ∀ b ∈ nmL t T, 1 ≤ b ∧ b < 256 := by
      intro b hb
      obtain ⟨k, hk, rfl⟩ := List.mem_map.mp hb
      have h1 := List.mem_range.mp hk
      have h2 := k4 q.1 (T.1 + k) (by omega) (by omega)
      unfold ltr at h2
      simp only [Bool.and_eq_true, decide_eq_true_eq] at h2
      omega
    constructor
    · constructor
      · intro h
        exact ⟨q.1, fv_inj _ _ _ (Nat.le_refl _) hb w4 (by rw [h, hc])⟩
      · rintro ⟨-, h⟩
        rw [h, hc]
    · have h1 := fv_lt _ (fun b h => (hb b h).2)
      rw [nmL_len] at h1
      have h2 : 256 ^ (T.2.2 - T.1) ≤ 256 ^ 7 := Nat.pow_le_pow_right (by omega) (by omega)
      have h3 : (256 : Nat) ^ 7 < 2 ^ 63 := by decide
      omega
  · rw [if_neg q]
    refine ⟨⟨fun h => by omega, fun h => ?_⟩, by decide⟩
    exfalso
    apply q
    refine ⟨h.1, ?_⟩
    have := nmL_len t T
    rw [h.2] at this
    omega
theorem lgc_eq {a b : Nat} (ha : a < 2 ^ 63) (hb : b < 2 ^ 63) : lg_cmp (lN a) (lN b) = 0 ↔ a = b := by
  constructor
  · intro h
    have h1 : ¬ lg_cmp (lN a) (lN b) < 0 := by rw [h]; decide
    have h2 : ¬ 0 < lg_cmp (lN a) (lN b) := by rw [h]; decide
    rw [lgc_lt, pk_lT ha, pk_lT hb] at h1
    rw [lgc_gt, pk_lT ha, pk_lT hb] at h2
    omega
  · intro h
    subst h
    have h1 : ¬ lg_cmp (lN a) (lN a) < 0 := by rw [lgc_lt]; omega
    have h2 : ¬ 0 < lg_cmp (lN a) (lN a) := by rw [lgc_gt]; omega
    rw [i32_lt] at h1 h2
    rw [i32_eq]
    rw [show (0 : Int32).toInt = 0 from rfl] at *
    omega
/-- numbers -/
def inR (x : Int32) (lo hi : Nat) : Prop := (lo : Int) ≤ x.toInt ∧ x.toInt ≤ hi
theorem ynumL {M : Mem} {t : Nat → Nat} {n : Nat} {T : Nat × Nat × Nat} (x1 x2 x3 : Int32) (hT : TPy M t n) (hX : YTk M T) (hK : TK t n T) : loopF (fun z => b_X8_number_20 M x1 x2 x3 z.1 z.2) FUEL (0, 0) = some (vI' t T.1 (T.2.2 - T.1)) := by
  obtain ⟨k1, k2, k3, -⟩ := hK
  have hn := hT.1
  have key := loopF_for (body := fun z => b_X8_number_20 M x1 x2 x3 z.1 z.2) (T.2.2 - T.1) (fun i => (vI' t T.1 i, nI i)) (vI' t T.1 (T.2.2 - T.1)) FUEL (FUEL_lt (by omega)) ?_ ?_
  · exact key
  · intro i hi
    show b_X8_number_20 M x1 x2 x3 _ (nI i) = _
    unfold b_X8_number_20
    rw [hX.2.2.2, if_neg (nI_ge hi (by omega)), hX.1, nI_add, ybyte hT (by omega), Option.bind_some, nm_eq, nI_1]
    rfl
  · show b_X8_number_20 M x1 x2 x3 _ (nI (T.2.2 - T.1)) = _
    unfold b_X8_number_20
    rw [hX.2.2.2, if_pos (nI_le (Nat.le_refl _) (by omega))]
