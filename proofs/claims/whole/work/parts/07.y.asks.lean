/-! ## as, ask, trace, count, status, fault -/
theorem ag_status {M : Mem} (h : Inv M) : AgNN (m_X7_status M) (m_X8_status M) := by
  unfold m_X7_status m_X8_status
  rw [h.2.2.2.2.2.2.1]
  exact ⟨_, rfl, rfl⟩
theorem ag_fault {M : Mem} (h : Inv M) : AgNN (m_X7_fault M) (m_X8_fault M) := by
  unfold m_X7_fault m_X8_fault
  rw [h.2.2.2.2.2.2.2]
  exact ⟨_, rfl, rfl⟩
theorem ag_trace {M : Mem} (h : Inv M) (a : Int32) : AgNN (m_X7_trace M a) (m_X8_trace M a) := by
  obtain ⟨n, h1, h2, h3, h4⟩ := h.2.2.2.2.2.1
  have hs : (nI n - 1).toInt = (n : Int) - 1 := by
    have : ∀ n, n ≤ 16 → (nI n - 1).toInt = (n : Int) - 1 := by decide +kernel
    exact this _ h1
  unfold m_X7_trace m_X1_bodyAt m_X8_trace
  rw [h2, h3]
  rcases gin M a 0 (nI n - 1).toInt64 0 ((n : Int) - 1) rfl (by rw [Int32.toInt_toInt64]; exact hs) with ⟨p1, p2, p3⟩ | ⟨p1, p3⟩
  · obtain ⟨i, hi, rfl⟩ := inN_nI (x := a) (N := n) ⟨p1, by omega⟩
    rw [p3, Option.bind_some, if_neg n10, if_neg (nI_pos (by omega)), if_neg (nI_ge hi (by omega)), if_neg (by rw [show (16 : Int32) = nI 16 from rfl]; exact nI_ge (by omega) (by omega)), chk_of (inB_nI (by omega) (by omega)), chk_of (inB_nI (by omega) (by omega)), nI_clamp (by omega), h4 i hi]
    exact ⟨_, rfl, rfl⟩
  · rw [p3, Option.bind_some, if_pos rfl]
    refine ⟨-1000000, ?_, rfl⟩
    by_cases q1 : a < 0
    · rw [if_pos q1]; rfl
    · rw [if_neg q1, if_pos]
      · rfl
      · have u : ¬ a.toInt < (0 : Int32).toInt := fun q => q1 (i32_lt.mpr q)
        rw [show (0 : Int32).toInt = 0 from rfl] at u
        rw [i32_le, nI_toInt (by omega)]
        omega
theorem ag_well {M : Mem} (h : Inv M) {x : Option (Int32 × Mem)} {y : Mem → Option (Int32 × Mem)} (v : Int32) (hx : x = (m_X7_nothingFound M v).bind fun r => some ((r.1, r.2))) (hy : y (mset M 0 14 0) = (m_X8_well (mset M 0 14 0) v).bind fun r => some ((r.1, r.2))) : AgWW x y := by
  refine ⟨v, mset M 0 14 0, mset (mset M 0 14 0) 234 0 0, by rw [hx]; rfl, by rw [hy]; rfl, ?_⟩
  refine inv_R h ((eqR_set M 14 0 (by omega)).trans (eqR_set _ 0 0 (by omega))) ((h.1.set 14 0 (by omega)).set 0 0 (by omega)) ?_
  rw [mset_ne _ _ _ (by decide), mset_self, upd_at, if_pos rfl, mset_self, upd_at, if_pos rfl]
theorem is_tab : ((List.range 5).all fun k => (List.range 6).all fun q => decide (m_X2_isOne (fun _ _ => nI (k + 1)) 0 (nI q) = m_X8_isOf (fun _ _ => 0) (nI (k + 1)) (nI q)) && decide (m_X8_isOf (fun _ _ => 0) (nI (k + 1)) (nI q) = some 0 ∨ m_X8_isOf (fun _ _ => 0) (nI (k + 1)) (nI q) = some 1)) = true := by decide +kernel
theorem ag_as {M : Mem} (h : Inv M) (a b : Int32) : AgWW (m_X7_as M a b) (fun M1 => m_X8_as M1 a b) := by
  obtain ⟨S, hS⟩ := h.2.2.1
  have hV := hS.2.2.1
  have hn := hV.2.1
  unfold m_X7_as m_X8_as
  rcases gchild hS a with ⟨j, hj, rfl, h1, h2, h3⟩ | ⟨h1, h2⟩
  · rw [h1, Option.bind_some]
    show AgWW (chk _ _) _
    rw [chk_of h2]
    have z0 : (0 : Int32).toInt = 0 := rfl
    have z5 : (5 : Int32).toInt = 5 := rfl
    rcases gin M b 0 5 0 5 rfl rfl with ⟨p1, p2, p3⟩ | ⟨p1, p3⟩
    · obtain ⟨q, hq, rfl⟩ := inN_nI (x := b) (N := 6) ⟨p1, by omega⟩
      rw [if_neg (nI_pos (by omega)), if_pos (by rw [show (5 : Int32) = nI 5 from rfl]; exact nI_le (by omega) (by omega))]
      obtain ⟨c1, -⟩ := hS.1.2.2.2.2 j hj
      rw [show 4 + 1 + 1 + j = 6 + j by omega] at c1
      obtain ⟨⟨v1, v1'⟩, -⟩ := hV.2.2.2.2.2 j hj
      have ht := all_r (all_r is_tab (k := S (5 + j) - 1) (by omega)) hq
      rw [Bool.and_eq_true, show S (5 + j) - 1 + 1 = S (5 + j) by omega] at ht
      have t1 := of_decide_eq_true ht.1
      have t2 := of_decide_eq_true ht.2
      have hone : m_X2_isOne M (6 + j) (nI q) = m_X8_isOf (fun _ _ => 0) (nI (S (5 + j))) (nI q) := by
        rw [← t1]
        unfold m_X2_isOne
        rw [c1]
      have hof : ∀ M' : Mem, m_X8_isOf M' (nI (S (5 + j))) (nI q) = m_X8_isOf (fun _ _ => 0) (nI (S (5 + j))) (nI q) := fun _ => rfl
      have yy : ∀ v, m_X8_as (mset M 0 14 v) (nI j) (nI q) = (m_X8_isOf (fun _ _ => 0) (nI (S (5 + j))) (nI q)).bind fun r4 => if r4 = 0 then ((m_X8_finds (mset M 0 14 v) 3).bind fun r5 => some ((r5.1, r5.2))) else ((m_X8_well (mset M 0 14 v) (nI j)).bind fun r6 => some ((r6.1, r6.2))) := by
        intro v
        have hY' : Sqm ((mset M 0 14 v) 239) S := by rw [mset_at0 _ _ (by decide)]; exact hS.2.1
        have hin : m_X8_in (mset M 0 14 v) (nI q).toInt64 0 5 = some 1 := by
          rw [m_inI _ (nI q) 0 5 0 5 rfl rfl, nI_toInt (by omega), if_pos (by omega)]
        unfold m_X8_as
        rw [yisChild hY' hV hj, Option.bind_some, if_neg n10, hin, Option.bind_some, if_neg n10, show (5 : Int32) + nI j = nI (5 + j) from nI_add 5 j, chk_of (inB_nI (by omega) (by omega)), nI_clamp (by omega), (hY'.2.2.2.2.1 j hj).1, hof]
      rw [hone]
      rcases t2 with t2 | t2
      · rw [t2, Option.bind_some, if_pos rfl]
        refine ag_found h 3 rfl ?_
        show m_X8_as (mset M 0 14 3) (nI j) (nI q) = _
        rw [yy, t2, Option.bind_some, if_pos rfl]
      · rw [t2, Option.bind_some, if_neg n10]
        refine ag_well h (nI j) rfl ?_
        show m_X8_as (mset M 0 14 0) (nI j) (nI q) = _
        rw [yy, t2, Option.bind_some, if_neg n10]
    · refine ww_same h (r := -1000001) ?_ ?_
      · by_cases u1 : b < 0
        · rw [if_pos u1]
        · rw [if_neg u1, if_neg]
          intro u2
          apply p1
          have u : ¬ b.toInt < (0 : Int32).toInt := fun q => u1 (i32_lt.mpr q)
          have v := i32_le.mp u2
          omega
      · rw [h3, Option.bind_some, if_neg n10, p3]; rfl
  · exact ww_same h (r := -1000001) (by rw [h1]; rfl) (by rw [h2]; rfl)
/-! ask -/
def TXl (M : Mem) (L : List Int32) : Prop := M 202 1 = nI L.length ∧ ∀ k, k < L.length → M 203 k = L.getD k 0
def TYl (M : Mem) (L : List Int32) : Prop := M 234 14 = nI L.length ∧ ∀ k, k < L.length → M 244 k = L.getD k 0
def FX (M M' : Mem) : Prop := ∀ b, b ≠ 202 → b ≠ 203 → M' b = M b
def FY (M M' : Mem) : Prop := (∀ b, b ≠ 234 → b ≠ 244 → M' b = M b) ∧ ∀ j, j ≠ 14 → M' 234 j = M 234 j
theorem FX.trans {A B C : Mem} (h1 : FX A B) (h2 : FX B C) : FX A C := fun b x y => (h2 b x y).trans (h1 b x y)
theorem FY.trans {A B C : Mem} (h1 : FY A B) (h2 : FY B C) : FY A C := ⟨fun b x y => (h2.1 b x y).trans (h1.1 b x y), fun j x => (h2.2 j x).trans (h1.2 j x)⟩
theorem getD_snoc32 (l : List Int32) (w d : Int32) (i : Nat) : (l ++ [w]).getD i d = if i = l.length then w else l.getD i d := by
  rw [List.getD_eq_getElem?_getD, List.getD_eq_getElem?_getD]
  by_cases h : i < l.length
  · rw [if_neg (by omega), List.getElem?_append_left h]
  · rw [List.getElem?_append_right (by omega)]
    by_cases e : i = l.length
    · rw [if_pos e, e, Nat.sub_self]
      rfl
    · rw [if_neg e, List.getElem?_eq_none (by simp; omega), List.getElem?_eq_none (by omega)]
theorem xbegin {M : Mem} {L : List Int32} (h : TXl M L) (hl : L.length < 16) (v : Int32) : ∃ M', m_X1_begin M v = some M' ∧ TXl M' (L ++ [v]) ∧ FX M M' := by
  obtain ⟨h1, h2⟩ := h
  unfold m_X1_begin
  rw [h1, if_neg (nI_pos (by omega)), if_neg (by rw [show (16 : Int32) = nI 16 from rfl]; exact nI_ge hl (by omega)), chk_of (inB_nI hl (by omega)), nm_eq, nm_eq, nI_clamp (by omega), mset_ne _ _ _ (by decide), h1, nI_1]
  refine ⟨_, rfl, ⟨?_, fun k hk => ?_⟩, fun b b1 b2 => ?_⟩
  · rw [mset_self, upd_at, if_pos rfl, List.length_append]
    rfl
  · rw [mset_ne _ _ _ (by decide), mset_self, upd_at, getD_snoc32]
    rw [List.length_append] at hk
    simp only [List.length_cons, List.length_nil] at hk
    by_cases e : k = L.length
    · rw [if_pos e, if_pos e]
    · rw [if_neg e, if_neg e]
      exact h2 k (by omega)
  · rw [mset_ne _ _ _ b1, mset_ne _ _ _ b2]
theorem ybegins {M : Mem} {L : List Int32} (h : TYl M L) (hl : L.length < 16) (v : Int32) : ∃ M', m_X8_begins M v = some M' ∧ TYl M' (L ++ [v]) ∧ FY M M' := by
  obtain ⟨h1, h2⟩ := h
  unfold m_X8_begins
  rw [h1, if_neg (by rw [show (16 : Int32) = nI 16 from rfl]; exact nI_ge hl (by omega)), chk_of (inB_nI hl (by omega)), nm_eq, nm_eq, nI_clamp (by omega), mset_ne _ _ _ (by decide), h1, nI_1]
  refine ⟨_, rfl, ⟨?_, fun k hk => ?_⟩, fun b b1 b2 => ?_, fun j hj => ?_⟩
  · rw [mset_self, upd_at, if_pos rfl, List.length_append]
    rfl
  · rw [mset_ne _ _ _ (by decide), mset_self, upd_at, getD_snoc32]
    rw [List.length_append] at hk
    simp only [List.length_cons, List.length_nil] at hk
    by_cases e : k = L.length
    · rw [if_pos e, if_pos e]
    · rw [if_neg e, if_neg e]
      exact h2 k (by omega)
  · rw [mset_ne _ _ _ b1, mset_ne _ _ _ b2]
  · rw [mset_self, upd_at, if_neg hj, mset_ne _ _ _ (by decide)]
theorem yall2 {M : Mem} {L : List Int32} (h : TYl M L) (hl : L.length + 2 ≤ 16) {a b : Nat} (ha : 1 ≤ a ∧ a < 100) (hb : b < 100) : ∃ M', m_X8_beginsAll M (nI (100 * a + b)) = some M' ∧ TYl M' (L ++ [nI a, nI b]) ∧ FY M M' := by
  obtain ⟨M1, a1, a2, a3⟩ := ybegins h (by omega) (nI a)
  obtain ⟨M2, b1, b2, b3⟩ := ybegins a2 (by rw [List.length_append]; simp only [List.length_cons, List.length_nil]; omega) (nI b)
  have d1 : nI (100 * a + b) / 100 = nI a := by
    rw [show (100 : Int32) = nI 100 from rfl, pk_div (by omega) (by omega) (by omega), show (100 * a + b) / 100 = a by omega]
  unfold m_X8_beginsAll
  have l1 : loopF (fun z => b_X8_beginsAll_2 M (nI (100 * a + b)) z) FUEL 1 = some 100 := by
    show loopF (fun z => b_X8_beginsAll_2 M (nI (100 * a + b)) z) (99998 + 1 + 1) 1 = _
    rw [loopF_step (body := fun z => b_X8_beginsAll_2 M (nI (100 * a + b)) z) (s' := 100)]
    · refine loopF_out (body := fun z => b_X8_beginsAll_2 M (nI (100 * a + b)) z) ?_
      show b_X8_beginsAll_2 M _ 100 = _
      unfold b_X8_beginsAll_2
      rw [d1, if_pos (by rw [show (100 : Int32) = nI 100 from rfl]; exact nI_lt (by omega) (by omega))]
    · show b_X8_beginsAll_2 M _ 1 = _
      unfold b_X8_beginsAll_2
      rw [d1, if_neg (by rw [show (1 : Int32) = nI 1 from rfl]; exact nI_nlt (by omega) (by omega))]
      rfl
  have l2 : loopF (fun z => b_X8_beginsAll_18 z.2 (nI (100 * a + b)) z.1) FUEL (100, M) = some M2 := by
    show loopF (fun z => b_X8_beginsAll_18 z.2 (nI (100 * a + b)) z.1) (99997 + 1 + 1 + 1) (100, M) = _
    rw [loopF_step (body := fun z => b_X8_beginsAll_18 z.2 (nI (100 * a + b)) z.1) (s' := (1, M1)), loopF_step (body := fun z => b_X8_beginsAll_18 z.2 (nI (100 * a + b)) z.1) (s' := (0, M2))]
    · refine loopF_out (body := fun z => b_X8_beginsAll_18 z.2 (nI (100 * a + b)) z.1) ?_
      show b_X8_beginsAll_18 M2 _ 0 = _
      unfold b_X8_beginsAll_18
      rw [if_pos (by decide)]
    · show b_X8_beginsAll_18 M1 _ 1 = _
      unfold b_X8_beginsAll_18
      have d2 : nI (100 * a + b) / 1 % 100 = nI b := by
        rw [show (1 : Int32) = nI 1 from rfl, show (100 : Int32) = nI 100 from rfl, pk_div (by omega) (by omega) (by omega), nI_rem (by omega) (by omega) (by omega), show (100 * a + b) / 1 % 100 = b by omega]
      rw [if_neg (by decide), chk_of (by decide), d2, b1]
      rfl
    · show b_X8_beginsAll_18 M _ 100 = _
      unfold b_X8_beginsAll_18
      have d3 : nI a % 100 = nI a := by
        rw [show (100 : Int32) = nI 100 from rfl, nI_rem (by omega) (by omega) (by omega), Nat.mod_eq_of_lt ha.2]
      rw [if_neg (by decide), chk_of (by decide), d1, d3, a1]
      rfl
  rw [l1, Option.bind_some, l2]
  refine ⟨M2, rfl, ?_, a3.trans b3⟩
  rw [List.append_assoc] at b2
  exact b2
theorem yall3 {M : Mem} {L : List Int32} (h : TYl M L) (hl : L.length + 3 ≤ 16) {a b c : Nat} (ha : 1 ≤ a ∧ a < 100) (hb : b < 100) (hc : c < 100) : ∃ M', m_X8_beginsAll M (nI (10000 * a + 100 * b + c)) = some M' ∧ TYl M' (L ++ [nI a, nI b, nI c]) ∧ FY M M' := by
  obtain ⟨M1, a1, a2, a3⟩ := ybegins h (by omega) (nI a)
  obtain ⟨M2, b1, b2, b3⟩ := ybegins a2 (by rw [List.length_append]; simp only [List.length_cons, List.length_nil]; omega) (nI b)
  obtain ⟨M3, c1, c2, c3⟩ := ybegins b2 (by rw [List.length_append, List.length_append]; simp only [List.length_cons, List.length_nil]; omega) (nI c)
  generalize hN : 10000 * a + 100 * b + c = N
  have d1 : nI N / 100 = nI (100 * a + b) := by
    rw [show (100 : Int32) = nI 100 from rfl, pk_div (by omega) (by omega) (by omega), show N / 100 = 100 * a + b by omega]
  unfold m_X8_beginsAll
  have l1 : loopF (fun z => b_X8_beginsAll_2 M (nI N) z) FUEL 1 = some 10000 := by
    show loopF (fun z => b_X8_beginsAll_2 M (nI N) z) (99997 + 1 + 1 + 1) 1 = _
    rw [loopF_step (body := fun z => b_X8_beginsAll_2 M (nI N) z) (s' := 100), loopF_step (body := fun z => b_X8_beginsAll_2 M (nI N) z) (s' := 10000)]
    · refine loopF_out (body := fun z => b_X8_beginsAll_2 M (nI N) z) ?_
      show b_X8_beginsAll_2 M _ 10000 = _
      unfold b_X8_beginsAll_2
      rw [d1, if_pos (by rw [show (10000 : Int32) = nI 10000 from rfl]; exact nI_lt (by omega) (by omega))]
    · show b_X8_beginsAll_2 M _ 100 = _
      unfold b_X8_beginsAll_2
      rw [d1, if_neg (by rw [show (100 : Int32) = nI 100 from rfl]; exact nI_nlt (by omega) (by omega))]
      rfl
    · show b_X8_beginsAll_2 M _ 1 = _
      unfold b_X8_beginsAll_2
      rw [d1, if_neg (by rw [show (1 : Int32) = nI 1 from rfl]; exact nI_nlt (by omega) (by omega))]
      rfl
  have l2 : loopF (fun z => b_X8_beginsAll_18 z.2 (nI N) z.1) FUEL (10000, M) = some M3 := by
    show loopF (fun z => b_X8_beginsAll_18 z.2 (nI N) z.1) (99996 + 1 + 1 + 1 + 1) (10000, M) = _
    rw [loopF_step (body := fun z => b_X8_beginsAll_18 z.2 (nI N) z.1) (s' := (100, M1)), loopF_step (body := fun z => b_X8_beginsAll_18 z.2 (nI N) z.1) (s' := (1, M2)), loopF_step (body := fun z => b_X8_beginsAll_18 z.2 (nI N) z.1) (s' := (0, M3))]
    · refine loopF_out (body := fun z => b_X8_beginsAll_18 z.2 (nI N) z.1) ?_
      show b_X8_beginsAll_18 M3 _ 0 = _
      unfold b_X8_beginsAll_18
      rw [if_pos (by decide)]
    · show b_X8_beginsAll_18 M2 _ 1 = _
      unfold b_X8_beginsAll_18
      have d2 : nI N / 1 % 100 = nI c := by
        rw [show (1 : Int32) = nI 1 from rfl, show (100 : Int32) = nI 100 from rfl, pk_div (by omega) (by omega) (by omega), nI_rem (by omega) (by omega) (by omega), show N / 1 % 100 = c by omega]
      rw [if_neg (by decide), chk_of (by decide), d2, c1]
      rfl
    · show b_X8_beginsAll_18 M1 _ 100 = _
      unfold b_X8_beginsAll_18
      have d3 : nI N / 100 % 100 = nI b := by
        rw [d1, show (100 : Int32) = nI 100 from rfl, nI_rem (by omega) (by omega) (by omega), show (100 * a + b) % 100 = b by omega]
      rw [if_neg (by decide), chk_of (by decide), d3, b1]
      rfl
    · show b_X8_beginsAll_18 M _ 10000 = _
      unfold b_X8_beginsAll_18
      have d4 : nI N / 10000 % 100 = nI a := by
        rw [show (10000 : Int32) = nI 10000 from rfl, show (100 : Int32) = nI 100 from rfl, pk_div (by omega) (by omega) (by omega), nI_rem (by omega) (by omega) (by omega), show N / 10000 % 100 = a by omega]
      rw [if_neg (by decide), chk_of (by decide), d4, a1]
      rfl
  rw [l1, Option.bind_some, l2]
  refine ⟨M3, rfl, ?_, (a3.trans b3).trans c3⟩
  rw [List.append_assoc, List.append_assoc] at c2
  exact c2
/-- the class: what an ask gives, and traces -/
def XR (M : Mem) (L : List Int32) (x : Option (Int32 × Mem)) (r : Int32) (L' : List Int32) : Prop := ∃ M', x = some (r, M') ∧ TXl M' (L ++ L') ∧ FX M M'
theorem x10 {M : Mem} {L : List Int32} {a : Nat} (h : TXl M L) (hl : L.length + 1 ≤ 16) (ha : a < 200) : XR M L (m_X1_body10 M a) (M a 2) [10] := by
  obtain ⟨M', h1, h2, h3⟩ := xbegin h (by omega) 10
  unfold m_X1_body10
  rw [h1, Option.bind_some]
  exact ⟨M', by rw [h3 a (by omega) (by omega)], h2, h3⟩
theorem x20 {M : Mem} {L : List Int32} {a : Nat} (h : TXl M L) (hl : L.length + 1 ≤ 16) (ha : a < 200) : XR M L (m_X1_body20 M a) (M a 0) [20] := by
  obtain ⟨M', h1, h2, h3⟩ := xbegin h (by omega) 20
  unfold m_X1_body20
  rw [h1, Option.bind_some]
  exact ⟨M', by rw [h3 a (by omega) (by omega)], h2, h3⟩
theorem x21 {M : Mem} {L : List Int32} {a : Nat} (h : TXl M L) (hl : L.length + 2 ≤ 16) (ha : a < 200) : XR M L (m_X1_body21 M a) (M a 0 + M a 3) [21, 20] := by
  obtain ⟨M1, h1, h2, h3⟩ := xbegin h (by omega) 21
  obtain ⟨M2, g1, g2, g3⟩ := x20 (a := a) h2 (by simp; omega) ha
  unfold m_X1_body21
  rw [h1, Option.bind_some, g1, Option.bind_some]
  refine ⟨M2, ?_, by rw [List.append_assoc] at g2; exact g2, h3.trans g3⟩
  show some (M1 a 0 + M2 a 3, M2) = _
  rw [g3 a (by omega) (by omega), h3 a (by omega) (by omega)]
def smL (k : Nat) : List Int32 := if k = 2 then [24, 21, 20] else if k = 3 then [22, 21, 20] else [21, 20]
def smR (k : Nat) (x : Int32) : Int32 := if k = 2 then 2 * x else if k = 3 then x - 1000 else x
theorem kI {k c : Nat} (hk : k ≤ 5) (hc : c ≤ 5) : nI k = nI c ↔ k = c := nI_eq (by omega) (by omega)
theorem xSm {M : Mem} {L : List Int32} {a k : Nat} (h : TXl M L) (hl : L.length + 3 ≤ 16) (ha : a < 200) (hk : k ≤ 5) (h1 : M a 1 = nI k) : XR M L (m_X1_askSmallMark M a) (smR k (M a 0 + M a 3)) (smL k) := by
  unfold m_X1_askSmallMark smR smL
  rw [h1]
  by_cases c2 : k = 2
  · rw [if_pos (by rw [c2]; rfl), if_pos c2, if_pos c2]
    obtain ⟨M1, h1, h2, h3⟩ := xbegin h (by omega) 24
    obtain ⟨M2, g1, g2, g3⟩ := x21 (a := a) h2 (by simp; omega) ha
    rw [h1, Option.bind_some, g1, Option.bind_some]
    refine ⟨M2, ?_, by rw [List.append_assoc] at g2; exact g2, h3.trans g3⟩
    rw [h3 a (by omega) (by omega)]
  · rw [if_neg (by rw [show (2 : Int32) = nI 2 from rfl, kI hk (by omega)]; exact c2), if_neg c2, if_neg c2]
    by_cases c3 : k = 3
    · rw [if_pos (by rw [c3]; rfl), if_pos c3, if_pos c3]
      obtain ⟨M1, h1, h2, h3⟩ := xbegin h (by omega) 22
      obtain ⟨M2, g1, g2, g3⟩ := x21 (a := a) h2 (by simp; omega) ha
      rw [h1, Option.bind_some, g1, Option.bind_some]
      refine ⟨M2, ?_, by rw [List.append_assoc] at g2; exact g2, h3.trans g3⟩
      rw [h3 a (by omega) (by omega)]
    · rw [if_neg (by rw [show (3 : Int32) = nI 3 from rfl, kI hk (by omega)]; exact c3), if_neg c3, if_neg c3]
      obtain ⟨M2, g1, g2, g3⟩ := x21 (a := a) h (by omega) ha
      rw [g1, Option.bind_some]
      exact ⟨M2, rfl, g2, g3⟩
theorem x11 {M : Mem} {L : List Int32} {a k : Nat} (h : TXl M L) (hl : L.length + 5 ≤ 16) (ha : a < 200) (hk : k ≤ 5) (h1 : M a 1 = nI k) : XR M L (m_X1_body11 M a) (M a 2 + smR k (M a 0 + M a 3)) ([11, 10] ++ smL k) := by
  obtain ⟨M1, e1, e2, e3⟩ := xbegin h (by omega) 11
  obtain ⟨M2, g1, g2, g3⟩ := x10 (a := a) e2 (by simp; omega) ha
  have h13 := e3.trans g3
  obtain ⟨M3, k1, k2, k3⟩ := xSm (a := a) (k := k) g2 (by simp; omega) ha hk (by rw [h13 a (by omega) (by omega)]; exact h1)
  unfold m_X1_body11
  rw [e1, Option.bind_some, g1, Option.bind_some, k1, Option.bind_some]
  refine ⟨M3, ?_, by rw [List.append_assoc, List.append_assoc] at k2; exact k2, h13.trans k3⟩
  rw [h13 a (by omega) (by omega), e3 a (by omega) (by omega)]
theorem x13 {M : Mem} {L : List Int32} {a : Nat} (h : TXl M L) (hl : L.length + 2 ≤ 16) (ha : a < 200) : XR M L (m_X1_body13 M a) (M a 2 - 100) [13, 10] := by
  obtain ⟨M1, e1, e2, e3⟩ := xbegin h (by omega) 13
  obtain ⟨M2, g1, g2, g3⟩ := x10 (a := a) e2 (by simp; omega) ha
  unfold m_X1_body13
  rw [e1, Option.bind_some, g1, Option.bind_some]
  refine ⟨M2, ?_, by rw [List.append_assoc] at g2; exact g2, e3.trans g3⟩
  rw [e3 a (by omega) (by omega)]
def glL (k : Nat) : List Int32 := if k = 5 then [14, 13, 10] else [13, 10]
def glR (k : Nat) (x : Int32) : Int32 := if k = 5 then 2 * (x - 100) else x - 100
theorem xGl {M : Mem} {L : List Int32} {a k : Nat} (h : TXl M L) (hl : L.length + 3 ≤ 16) (ha : a < 200) (hk : k ≤ 5) (h1 : M a 1 = nI k) : XR M L (m_X1_askGloveSize M a) (glR k (M a 2)) (glL k) := by
  unfold m_X1_askGloveSize glR glL
  rw [h1]
  by_cases c2 : k = 5
  · rw [if_pos (by rw [c2]; rfl), if_pos c2, if_pos c2]
    obtain ⟨M1, e1, e2, e3⟩ := xbegin h (by omega) 14
    obtain ⟨M2, g1, g2, g3⟩ := x13 (a := a) e2 (by simp; omega) ha
    rw [e1, Option.bind_some, g1, Option.bind_some]
    refine ⟨M2, ?_, by rw [List.append_assoc] at g2; exact g2, e3.trans g3⟩
    rw [e3 a (by omega) (by omega)]
  · rw [if_neg (by rw [show (5 : Int32) = nI 5 from rfl, kI hk (by omega)]; exact c2), if_neg c2, if_neg c2]
    obtain ⟨M2, g1, g2, g3⟩ := x13 (a := a) h (by omega) ha
    rw [g1, Option.bind_some]
    exact ⟨M2, rfl, g2, g3⟩
def mkL (k : Nat) : List Int32 := if 4 ≤ k then [23, 20] ++ glL k else smL k
def mkR (k : Nat) (n s c : Int32) : Int32 := if 4 ≤ k then n - glR k s else smR k (n + c)
def szL (k : Nat) : List Int32 := if 4 ≤ k then glL k else if k = 2 then [12, 11, 10] ++ smL k else [11, 10] ++ smL k
def szR (k : Nat) (n s c : Int32) : Int32 := if 4 ≤ k then glR k s else if k = 2 then -(s + smR k (n + c)) else s + smR k (n + c)
theorem xMark {M : Mem} {a k : Nat} (h : TXl M []) (ha : a < 200) (hk : 1 ≤ k ∧ k ≤ 5) (h1 : M a 1 = nI k) : XR M [] (m_X1_askMark M a) (mkR k (M a 0) (M a 2) (M a 3)) (mkL k) := by
  have hs := xSm (a := a) (k := k) h (by simp) ha hk.2 h1
  have hg : 4 ≤ k → XR M [] ((m_X1_begin M 23).bind fun r10 => (m_X1_body20 r10 a).bind fun r11 => (m_X1_askGloveSize r11.2 a).bind fun r12 => some ((r11.1 - r12.1, r12.2))) (M a 0 - glR k (M a 2)) ([23, 20] ++ glL k) := by
    intro _
    obtain ⟨M1, e1, e2, e3⟩ := xbegin h (by simp) 23
    obtain ⟨M2, g1, g2, g3⟩ := x20 (a := a) e2 (by simp) ha
    have h13 := e3.trans g3
    obtain ⟨M3, k1, k2, k3⟩ := xGl (a := a) (k := k) g2 (by simp) ha hk.2 (by rw [h13 a (by omega) (by omega)]; exact h1)
    rw [e1, Option.bind_some, g1, Option.bind_some, k1, Option.bind_some]
    refine ⟨M3, ?_, by rw [List.append_assoc, List.append_assoc] at k2; exact k2, h13.trans k3⟩
    rw [h13 a (by omega) (by omega), e3 a (by omega) (by omega)]
  unfold m_X1_askMark
  rw [h1]
  have hkk : k = 1 ∨ k = 2 ∨ k = 3 ∨ k = 4 ∨ k = 5 := by omega
  rcases hkk with rfl | rfl | rfl | rfl | rfl
  · obtain ⟨M', g1, g2, g3⟩ := hs
    rw [if_pos (by decide), g1]
    exact ⟨M', rfl, g2, g3⟩
  · obtain ⟨M', g1, g2, g3⟩ := hs
    rw [if_neg (by decide), if_pos (by decide), g1]
    exact ⟨M', rfl, g2, g3⟩
  · obtain ⟨M', g1, g2, g3⟩ := hs
    rw [if_neg (by decide), if_neg (by decide), if_pos (by decide), g1]
    exact ⟨M', rfl, g2, g3⟩
  · rw [if_neg (by decide), if_neg (by decide), if_neg (by decide), if_pos (by decide)]
    exact hg (by decide)
  · rw [if_neg (by decide), if_neg (by decide), if_neg (by decide), if_neg (by decide), if_pos (by decide)]
    exact hg (by decide)
theorem xSize {M : Mem} {a k : Nat} (h : TXl M []) (ha : a < 200) (hk : 1 ≤ k ∧ k ≤ 5) (h1 : M a 1 = nI k) : XR M [] (m_X1_askSize M a) (szR k (M a 0) (M a 2) (M a 3)) (szL k) := by
  have hs := x11 (a := a) (k := k) h (by simp) ha hk.2 h1
  have hg := xGl (a := a) (k := k) h (by simp) ha hk.2 h1
  unfold m_X1_askSize
  rw [h1]
  have hkk : k = 1 ∨ k = 2 ∨ k = 3 ∨ k = 4 ∨ k = 5 := by omega
  rcases hkk with rfl | rfl | rfl | rfl | rfl
  · obtain ⟨M', g1, g2, g3⟩ := hs
    rw [if_pos (by decide), g1]
    exact ⟨M', rfl, g2, g3⟩
  · rw [if_neg (by decide), if_pos (by decide)]
    obtain ⟨M1, e1, e2, e3⟩ := xbegin h (by simp) 12
    obtain ⟨M2, g1, g2, g3⟩ := x11 (a := a) (k := 2) e2 (by simp) ha hk.2 (by rw [e3 a (by omega) (by omega)]; exact h1)
    rw [e1, Option.bind_some, g1, Option.bind_some]
    refine ⟨M2, ?_, by rw [List.append_assoc] at g2; exact g2, e3.trans g3⟩
    rw [e3 a (by omega) (by omega)]
    rfl
  · obtain ⟨M', g1, g2, g3⟩ := hs
    rw [if_neg (by decide), if_neg (by decide), if_pos (by decide), g1]
    exact ⟨M', rfl, g2, g3⟩
  · obtain ⟨M', g1, g2, g3⟩ := hg
    rw [if_neg (by decide), if_neg (by decide), if_neg (by decide), if_pos (by decide), g1]
    exact ⟨M', rfl, g2, g3⟩
  · obtain ⟨M', g1, g2, g3⟩ := hg
    rw [if_neg (by decide), if_neg (by decide), if_neg (by decide), if_neg (by decide), if_pos (by decide), g1]
    exact ⟨M', rfl, g2, g3⟩
def YR (M : Mem) (L : List Int32) (x : Option (Int32 × Mem)) (r : Int32) (L' : List Int32) : Prop := ∃ M', x = some (r, M') ∧ TYl M' (L ++ L') ∧ FY M M'
theorem yMark {M : Mem} {L : List Int32} {S : Nat → Nat} {j : Nat} (h : TYl M L) (hl : L.length ≤ 3) (hY : Sqm (M 239) S) (hV : VS S) (hj : j < S 3) : YR M L (m_X8_markOf M (nI j)) (mkR (S (5 + j)) (nI j) (nI (S (10 + j))) (nI (S (15 + j)))) (mkL (S (5 + j))) := by
  have hn := hV.2.1
  obtain ⟨c1, c2, c3, c4⟩ := hY.2.2.2.2.1 j hj
  obtain ⟨v1, v2, v3, v4⟩ := hV.2.2.2.2.2 j hj
  unfold m_X8_markOf
  rw [show (5 : Int32) + nI j = nI (5 + j) from nI_add 5 j, show (10 : Int32) + nI j = nI (10 + j) from nI_add 10 j, show (15 : Int32) + nI j = nI (15 + j) from nI_add 15 j, chk_of (inB_nI (by omega) (by omega)), nm_eq, chk_of (inB_nI (by omega) (by omega)), nm_eq, chk_of (inB_nI (by omega) (by omega)), nm_eq, nI_clamp (by omega), nI_clamp (by omega), nI_clamp (by omega), c1, c2, c3]
  generalize S (5 + j) = k at *
  have hkk : k = 1 ∨ k = 2 ∨ k = 3 ∨ k = 4 ∨ k = 5 := by omega
  rcases hkk with rfl | rfl | rfl | rfl | rfl
  · rw [if_neg (by decide), if_neg (by decide), if_neg (by decide), if_neg (by decide)]
    obtain ⟨M1, a1, a2, a3⟩ := yall2 (a := 21) (b := 20) h (by omega) (by omega) (by omega)
    have a1' : m_X8_beginsAll M 2120 = some M1 := a1
    unfold j_X8_markOf_116
    rw [a1', Option.bind_some, if_neg (by decide), if_neg (by decide)]
    exact ⟨M1, rfl, a2, a3⟩
  · rw [if_neg (by decide), if_neg (by decide), if_pos (by decide)]
    obtain ⟨M1, a1, a2, a3⟩ := yall3 (a := 24) (b := 21) (c := 20) h (by omega) (by omega) (by omega) (by omega)
    have a1' : m_X8_beginsAll M 242120 = some M1 := a1
    unfold j_X8_markOf_116
    rw [a1', Option.bind_some, if_pos (by decide)]
    exact ⟨M1, rfl, a2, a3⟩
  · rw [if_neg (by decide), if_neg (by decide), if_neg (by decide), if_pos (by decide)]
    obtain ⟨M1, a1, a2, a3⟩ := yall3 (a := 22) (b := 21) (c := 20) h (by omega) (by omega) (by omega) (by omega)
    have a1' : m_X8_beginsAll M 222120 = some M1 := a1
    unfold j_X8_markOf_116
    rw [a1', Option.bind_some, if_neg (by decide), if_pos (by decide)]
    exact ⟨M1, rfl, a2, a3⟩
  · rw [if_pos (by decide)]
    obtain ⟨M1, a1, a2, a3⟩ := yall2 (a := 23) (b := 20) h (by omega) (by omega) (by omega)
    have a1' : m_X8_beginsAll M 2320 = some M1 := a1
    obtain ⟨M2, b1, b2, b3⟩ := yall2 (a := 13) (b := 10) a2 (by simp; omega) (by omega) (by omega)
    have b1' : m_X8_beginsAll M1 1310 = some M2 := b1
    unfold j_X8_markOf_42
    rw [a1', Option.bind_some, if_pos (by decide)]
    unfold j_X8_markOf_64
    rw [b1', Option.bind_some, if_pos (by decide)]
    exact ⟨M2, rfl, by rw [List.append_assoc] at b2; exact b2, a3.trans b3⟩
  · rw [if_neg (by decide), if_pos (by decide)]
    obtain ⟨M1, a1, a2, a3⟩ := yall2 (a := 23) (b := 20) h (by omega) (by omega) (by omega)
    have a1' : m_X8_beginsAll M 2320 = some M1 := a1
    obtain ⟨M2, b1, b2, b3⟩ := yall3 (a := 14) (b := 13) (c := 10) a2 (by simp; omega) (by omega) (by omega) (by omega)
    have b1' : m_X8_beginsAll M1 141310 = some M2 := b1
    unfold j_X8_markOf_42
    rw [a1', Option.bind_some, if_neg (by decide)]
    unfold j_X8_markOf_64
    rw [b1', Option.bind_some, if_neg (by decide)]
    exact ⟨M2, rfl, by rw [List.append_assoc] at b2; exact b2, a3.trans b3⟩
theorem ySize {M : Mem} {S : Nat → Nat} {j : Nat} (h : TYl M []) (hY : Sqm (M 239) S) (hV : VS S) (hj : j < S 3) : YR M [] (m_X8_sizeOf M (nI j)) (szR (S (5 + j)) (nI j) (nI (S (10 + j))) (nI (S (15 + j)))) (szL (S (5 + j))) := by
  have hn := hV.2.1
  obtain ⟨c1, c2, c3, c4⟩ := hY.2.2.2.2.1 j hj
  obtain ⟨v1, v2, v3, v4⟩ := hV.2.2.2.2.2 j hj
  unfold m_X8_sizeOf
  rw [show (5 : Int32) + nI j = nI (5 + j) from nI_add 5 j, show (10 : Int32) + nI j = nI (10 + j) from nI_add 10 j, chk_of (inB_nI (by omega) (by omega)), nm_eq, chk_of (inB_nI (by omega) (by omega)), nm_eq, nI_clamp (by omega), nI_clamp (by omega), c1, c2]
  have mk : ∀ (M1 : Mem) (L : List Int32), TYl M1 L → L.length ≤ 3 → FY M M1 → YR M1 L (m_X8_markOf M1 (nI j)) (mkR (S (5 + j)) (nI j) (nI (S (10 + j))) (nI (S (15 + j)))) (mkL (S (5 + j))) := fun M1 L g1 g2 g3 => yMark g1 g2 (by rw [g3.1 239 (by decide) (by decide)]; exact hY) hV hj
  generalize S (5 + j) = k at *
  have hkk : k = 1 ∨ k = 2 ∨ k = 3 ∨ k = 4 ∨ k = 5 := by omega
  rcases hkk with rfl | rfl | rfl | rfl | rfl
  · rw [if_neg (by decide), if_neg (by decide)]
    obtain ⟨M1, a1, a2, a3⟩ := yall2 (a := 11) (b := 10) h (by simp) (by omega) (by omega)
    have a1' : m_X8_beginsAll M 1110 = some M1 := a1
    obtain ⟨M2, b1, b2, b3⟩ := mk M1 _ a2 (by simp) a3
    unfold j_X8_sizeOf_56
    rw [a1', Option.bind_some, if_pos (by decide), b1, Option.bind_some, nm_eq, if_neg (by decide)]
    exact ⟨M2, rfl, b2, a3.trans b3⟩
  · rw [if_pos (by decide)]
    obtain ⟨M1, a1, a2, a3⟩ := yall3 (a := 12) (b := 11) (c := 10) h (by simp) (by omega) (by omega) (by omega)
    have a1' : m_X8_beginsAll M 121110 = some M1 := a1
    obtain ⟨M2, b1, b2, b3⟩ := mk M1 _ a2 (by simp) a3
    unfold j_X8_sizeOf_56
    rw [a1', Option.bind_some, if_pos (by decide), b1, Option.bind_some, nm_eq, if_pos (by decide)]
    exact ⟨M2, rfl, b2, a3.trans b3⟩
  · rw [if_neg (by decide), if_neg (by decide)]
    obtain ⟨M1, a1, a2, a3⟩ := yall2 (a := 11) (b := 10) h (by simp) (by omega) (by omega)
    have a1' : m_X8_beginsAll M 1110 = some M1 := a1
    obtain ⟨M2, b1, b2, b3⟩ := mk M1 _ a2 (by simp) a3
    unfold j_X8_sizeOf_56
    rw [a1', Option.bind_some, if_pos (by decide), b1, Option.bind_some, nm_eq, if_neg (by decide)]
    exact ⟨M2, rfl, b2, a3.trans b3⟩
  · rw [if_neg (by decide), if_pos (by decide), if_pos (by decide)]
    obtain ⟨M1, a1, a2, a3⟩ := yall2 (a := 13) (b := 10) h (by simp) (by omega) (by omega)
    have a1' : m_X8_beginsAll M 1310 = some M1 := a1
    unfold j_X8_sizeOf_56
    rw [a1', Option.bind_some, if_neg (by decide), if_pos (by decide)]
    exact ⟨M1, rfl, a2, a3⟩
  · rw [if_neg (by decide), if_pos (by decide), if_neg (by decide)]
    obtain ⟨M1, a1, a2, a3⟩ := yall3 (a := 14) (b := 13) (c := 10) h (by simp) (by omega) (by omega) (by omega)
    have a1' : m_X8_beginsAll M 141310 = some M1 := a1
    unfold j_X8_sizeOf_56
    rw [a1', Option.bind_some, if_neg (by decide), if_neg (by decide)]
    exact ⟨M1, rfl, a2, a3⟩
theorem mkL_len {k : Nat} (hk : k ≤ 5) : (mkL k).length ≤ 16 ∧ (szL k).length ≤ 16 := by
  have : ∀ k, k ≤ 5 → (mkL k).length ≤ 16 ∧ (szL k).length ≤ 16 := by decide
  exact this k hk
theorem inv_T {M M1 M2 : Mem} {L : List Int32} (h : Inv M) (hl : L.length ≤ 16) (x1 : FX M M1) (x2 : TXl M1 L) (y1 : FY M1 M2) (y2 : TYl M2 L) : Inv M2 := by
  have g : ∀ a, a ≠ 202 → a ≠ 203 → a ≠ 234 → a ≠ 244 → M2 a = M a := fun a h1 h2 h3 h4 => by rw [y1.1 a h3 h4, x1 a h1 h2]
  have g2 : ∀ j, j ≠ 14 → M2 234 j = M 234 j := fun j hj => by rw [y1.2 j hj, x1 234 (by decide) (by decide)]
  obtain ⟨i1, i2, ⟨S, hS⟩, i4, i5, i6, i7⟩ := h
  refine ⟨i1.eq (fun r hr => g _ (by omega) (by omega) (by omega) (by omega)) (g _ (by omega) (by omega) (by omega) (by omega)) (g _ (by omega) (by omega) (by omega) (by omega)) (g _ (by omega) (by omega) (by omega) (by omega)), i2.eq (congrFun (g 2 (by omega) (by omega) (by omega) (by omega)) _) (g2 _ (by decide)) (g _ (by omega) (by omega) (by omega) (by omega)) (g _ (by omega) (by omega) (by omega) (by omega)), ⟨S, hS.eq (fun a ha hb => g a (by omega) (by omega) (by omega) (by omega)) (g _ (by omega) (by omega) (by omega) (by omega))⟩, i4.eq (g _ (by omega) (by omega) (by omega) (by omega)) (g2 _ (by decide)) (g _ (by omega) (by omega) (by omega) (by omega)) (fun a ha hb => g a (by omega) (by omega) (by omega) (by omega)) (g _ (by omega) (by omega) (by omega) (by omega)), i5.eq (fun a ha hb => g a (by omega) (by omega) (by omega) (by omega)) (g _ (by omega) (by omega) (by omega) (by omega)) (g _ (by omega) (by omega) (by omega) (by omega)), ⟨L.length, hl, ?_, y2.1, fun k hk => ?_⟩, i7.eq (g _ (by omega) (by omega) (by omega) (by omega)) (g2 _ (by decide)) (g2 _ (by decide))⟩
  · rw [y1.1 202 (by decide) (by decide)]
    exact x2.1
  · rw [y2.2 k hk, y1.1 203 (by decide) (by decide)]
    exact x2.2 k hk
theorem ag_ask {M : Mem} (h : Inv M) (a b : Int32) : AgWW (m_X7_ask M a b) (fun M1 => m_X8_ask M1 a b) := by
  obtain ⟨S, hS⟩ := h.2.2.1
  have hV := hS.2.2.1
  have hn := hV.2.1
  unfold m_X7_ask m_X8_ask
  rcases gchild hS a with ⟨j, hj, rfl, h1, h2, h3⟩ | ⟨h1, h2⟩
  · rw [h1, Option.bind_some]
    show AgWW (chk _ _) _
    rw [chk_of h2]
    rcases geither M M b with ⟨e, f1, f2⟩ | ⟨f1, f2⟩
    · rw [f1, Option.bind_some, if_neg n10, nm_eq]
      have f2' : ∀ M', m_X8_in M' b.toInt64 0 1 = some 1 := fun M' => by
        rcases geither M M' b with ⟨-, -, z⟩ | ⟨z, -⟩
        · exact z
        · rw [f1] at z; exact absurd z (by decide)
      have hX0 : TXl (mset M 202 1 0) [] := ⟨by rw [mset_self, upd_at, if_pos rfl]; rfl, fun k hk => absurd hk (by simp)⟩
      have hF0 : FX M (mset M 202 1 0) := fun b h1 _ => mset_ne _ _ _ h1
      have hM0 : mset M 202 1 0 (6 + j) = M (6 + j) := mset_ne _ _ _ (by omega)
      obtain ⟨c1, c2, c3, -⟩ := hS.1.2.2.2.2 j hj
      rw [show 4 + 1 + 1 + j = 6 + j by omega] at c1 c2 c3
      have c0 := hS.2.2.2 j (by omega)
      obtain ⟨⟨v1, v1'⟩, -⟩ := hV.2.2.2.2.2 j hj
      have hlen := mkL_len v1'
      have ytop : ∀ M' : Mem, FX M M' → m_X8_ask M' (nI j) b = if b = 0 then ((m_X8_sizeOf (mset M' 234 14 0) (nI j)).bind fun r5 => some ((r5.1, r5.2))) else ((m_X8_markOf (mset M' 234 14 0) (nI j)).bind fun r4 => some ((r4.1, r4.2))) := by
        intro M' hM
        unfold m_X8_ask
        rw [yisChild (by rw [hM 239 (by decide) (by decide)]; exact hS.2.1) hV hj, Option.bind_some, if_neg n10, f2', Option.bind_some, if_neg n10, nm_eq]
      have hy0 : ∀ M' : Mem, TYl (mset M' 234 14 0) [] ∧ FY M' (mset M' 234 14 0) := fun M' => ⟨⟨by rw [mset_self, upd_at, if_pos rfl]; rfl, fun k hk => absurd hk (by simp)⟩, fun b h1 _ => mset_ne _ _ _ h1, fun j hj => by rw [mset_self, upd_at, if_neg hj]⟩
      by_cases e0 : b = 0
      · rw [if_pos e0]
        obtain ⟨M1, x1, x2, x3⟩ := xSize (a := 6 + j) (k := S (5 + j)) hX0 (by omega) ⟨v1, v1'⟩ (by rw [hM0]; exact c1)
        rw [hM0, c0, c2, c3] at x1
        have hF := hF0.trans x3
        obtain ⟨y0, y1⟩ := hy0 M1
        obtain ⟨M2, z1, z2, z3⟩ := ySize (S := S) (j := j) y0 (by rw [y1.1 239 (by decide) (by decide), hF 239 (by decide) (by decide)]; exact hS.2.1) hV hj
        refine ⟨_, M1, M2, by rw [x1]; rfl, ?_, inv_T h hlen.2 hF x2 (y1.trans z3) z2⟩
        show m_X8_ask M1 (nI j) b = _
        rw [ytop M1 hF, if_pos e0, z1]
        rfl
      · rw [if_neg e0]
        obtain ⟨M1, x1, x2, x3⟩ := xMark (a := 6 + j) (k := S (5 + j)) hX0 (by omega) ⟨v1, v1'⟩ (by rw [hM0]; exact c1)
        rw [hM0, c0, c2, c3] at x1
        have hF := hF0.trans x3
        obtain ⟨y0, y1⟩ := hy0 M1
        obtain ⟨M2, z1, z2, z3⟩ := yMark (S := S) (j := j) y0 (by simp) (by rw [y1.1 239 (by decide) (by decide), hF 239 (by decide) (by decide)]; exact hS.2.1) hV hj
        refine ⟨_, M1, M2, by rw [x1]; rfl, ?_, inv_T h hlen.1 hF x2 (y1.trans z3) z2⟩
        show m_X8_ask M1 (nI j) b = _
        rw [ytop M1 hF, if_neg e0, z1]
        rfl
    · refine ww_same h (r := -1000001) ?_ ?_
      · rw [f1]; rfl
      · rw [h3, Option.bind_some, if_neg n10, f2]; rfl
  · exact ww_same h (r := -1000001) (by rw [h1]; rfl) (by rw [h2]; rfl)
/-! count -/
def rwN (M : Mem) : Nat → Nat
  | 0 => 0
  | i + 1 => if M 235 i < 0 then rwN M i else rwN M i + 1
theorem rwN_le (M : Mem) (i : Nat) : rwN M i ≤ i := by
  induction i with
  | zero => exact Nat.le_refl _
  | succ i ih =>
    unfold rwN
    by_cases c : M 235 i < 0
    · rw [if_pos c]; omega
    · rw [if_neg c]; omega
theorem xrows {M : Mem} (h : RowsI M) : m_X7_countRows M = some (nI (rwN M 8)) := by
  unfold m_X7_countRows
  have key := loopF_for (body := fun z => b_X7_countRows_4 M z.1 z.2) 8 (fun i => (nI (rwN M i), nI i)) (nI (rwN M 8)) FUEL (FUEL_lt (by omega)) ?_ ?_
  · have e0 : ((0 : Int32), (0 : Int32)) = (nI (rwN M 0), nI 0) := rfl
    rw [e0, key]
    rfl
  · intro i hi
    show b_X7_countRows_4 M _ (nI i) = _
    unfold b_X7_countRows_4
    have hr : m_X7_rowAt M (nI i) = some (some (204 + 2 * i)) := by
      rcases grow M M (nI i) with ⟨r, h1, h2, h3, -⟩ | ⟨-, h2⟩
      · have := (nI_eq (by omega) (by omega)).mp h2
        rw [this]
        rw [this] at h3
        exact h3
      · rw [m_inI M (nI i) 0 7 0 7 rfl rfl, nI_toInt (by omega), if_pos (by omega)] at h2
        exact absurd h2 (by decide)
    rw [if_neg (by rw [show (8 : Int32) = nI 8 from rfl]; exact nI_ge hi (by omega)), hr, Option.bind_some]
    show chk (kdB (204 + 2 * i) 4) _ = _
    rw [chk_of (kd_row i hi)]
    unfold m_X4_isMissing
    conv => rhs; rw [rwN]
    rw [nI_1, nI_1]
    rcases h i hi with ⟨r1, r2⟩ | ⟨n, t, k1, k2, k3, k4, k5, k6, k7⟩
    · rw [r1, if_pos rfl, Option.bind_some, if_neg n10, r2, if_pos (by decide)]
    · have hne : ¬ nI n = -1 := by
        intro q
        have := congrArg Int32.toInt q
        rw [nI_toInt (by omega), show (-1 : Int32).toInt = -1 from rfl] at this
        omega
      rw [k3, if_neg hne, Option.bind_some, if_pos rfl, k6, if_neg (nI_pos (by omega))]
  · show b_X7_countRows_4 M _ (nI 8) = _
    unfold b_X7_countRows_4
    rw [if_pos (by decide)]
def sumP (S : Nat → Nat) : Nat → Nat
  | 0 => 0
  | i + 1 => sumP S i + S (20 + i)
theorem xall {M : Mem} {S : Nat → Nat} (hX : Sqx M 4 S) (hV : VS S) : m_X5_allPennies M 4 = some (nI (sumP S (S 3))) := by
  have hn := hV.2.1
  unfold m_X5_allPennies
  have key := loopF_for (body := fun z => b_X5_allPennies_4 M 4 z.1 z.2) 5 (fun i => (nI (sumP S (min i (S 3))), nI i)) (nI (sumP S (S 3))) FUEL (FUEL_lt (by omega)) ?_ ?_
  · rw [Nat.zero_min] at key
    have e0 : ((0 : Int32), (0 : Int32)) = (nI (sumP S 0), nI 0) := rfl
    rw [e0, key]
    rfl
  · intro i hi
    show b_X5_allPennies_4 M 4 _ (nI i) = _
    unfold b_X5_allPennies_4
    rw [if_neg (by rw [show (5 : Int32) = nI 5 from rfl]; exact nI_ge hi (by omega))]
    by_cases hj : i < S 3
    · rw [xat hX hV hj, Option.bind_some]
      show chk (kdB (4 + 1 + 1 + i) 2) _ = _
      rw [chk_of (kdB_of (kd_ch (q := 4) (by decide) i hi)), (hX.2.2.2.2 i hj).2.2.2, nm_eq, nI_1, nI_add]
      have e1 : min i (S 3) = i := by omega
      have e2 : min (i + 1) (S 3) = i + 1 := by omega
      rw [e1, e2]
      rfl
    · rw [xat_none hX hV (by unfold inN; rw [nI_toInt (by omega)]; omega), Option.bind_some]
      have e1 : min i (S 3) = S 3 := by omega
      have e2 : min (i + 1) (S 3) = S 3 := by omega
      rw [e1, e2, ← nI_1]
      dsimp only [optC]
      rw [nm_eq, Int32.add_zero]
  · show b_X5_allPennies_4 M 4 _ (nI 5) = _
    unfold b_X5_allPennies_4
    rw [if_pos (by decide)]
    have e1 : min 5 (S 3) = S 3 := by omega
    rw [e1]
theorem c19 (M : Mem) (q : Nat) (hq : q < 7) : loopF (fun z => b_X8_count_19 M (nI q) z.1 z.2) FUEL (0, 0) = some (if q = 0 then nI (rwN M 8) else 0) := by
  by_cases e : q = 0
  · subst e
    rw [if_pos rfl]
    have key := loopF_for (body := fun z => b_X8_count_19 M (nI 0) z.1 z.2) 8 (fun i => (nI (rwN M i), nI i)) (nI (rwN M 8)) FUEL (FUEL_lt (by omega)) ?_ ?_
    · exact key
    · intro i hi
      show b_X8_count_19 M (nI 0) _ (nI i) = _
      unfold b_X8_count_19
      conv => rhs; rw [rwN]
      rw [if_neg (by rw [show (8 : Int32) = nI 8 from rfl]; exact nI_ge hi (by omega)), if_pos (by decide), chk_of (inB_nI hi (by omega)), nI_clamp (by omega), nI_1]
      by_cases c : M 235 i < 0
      · rw [if_pos c, if_pos c, nm_eq, Int32.add_zero]
      · rw [if_neg c, if_neg c, nm_eq, nI_1]
    · show b_X8_count_19 M (nI 0) _ (nI 8) = _
      unfold b_X8_count_19
      rw [if_pos (by decide)]
  · rw [if_neg e]
    refine loopF_out (body := fun z => b_X8_count_19 M (nI q) z.1 z.2) (f := 99999) ?_
    show b_X8_count_19 M (nI q) 0 0 = _
    unfold b_X8_count_19
    rw [if_neg (by decide), if_neg (by rw [show (0 : Int32) = nI 0 from rfl, nI_eq (by omega) (by omega)]; exact e)]
theorem c54 {M : Mem} {S : Nat → Nat} (hY : Sqm (M 239) S) (hV : VS S) (z : Int32) (q : Nat) (hq : q < 7) (hz : q = 2 → z = 0) : loopF (fun z => b_X8_count_54 M (nI q) z.1 z.2) FUEL (z, 0) = some (if q = 2 then nI (pc 30 (S 4)) else z) := by
  have i4 : (4 : Int32).toNatClampNeg = 4 := rfl
  have hg : S 4 < 2 ^ 31 := by have := hV.2.2.2.2.1; omega
  by_cases e : q = 2
  · subst e
    rw [if_pos rfl, hz rfl]
    have key := loopF_for (body := fun z => b_X8_count_54 M (nI 2) z.1 z.2) 30 (fun i => (nI (pc i (S 4)), nI i)) (nI (pc 30 (S 4))) FUEL (FUEL_lt (by omega)) ?_ ?_
    · exact key
    · intro i hi
      show b_X8_count_54 M (nI 2) _ (nI i) = _
      unfold b_X8_count_54
      rw [if_neg (by rw [show (30 : Int32) = nI 30 from rfl]; exact nI_ge hi (by omega)), if_pos (by decide), chk_of (by decide), i4, hY.2.2.2.1, nm_eq, bit_at hg (by omega), nI_add, nI_1]
      have : pc (i + 1) (S 4) = pc i (S 4) + S 4 / 2 ^ i % 2 := by
        unfold pc
        rw [List.range_succ, List.countP_append, List.countP_singleton, Nat.testBit_eq_decide_div_mod_eq]
        by_cases q : S 4 / 2 ^ i % 2 = 1
        · rw [q]
          rfl
        · have : S 4 / 2 ^ i % 2 = 0 := by omega
          rw [this]
          rfl
      rw [this]
    · show b_X8_count_54 M (nI 2) _ (nI 30) = _
      unfold b_X8_count_54
      rw [if_pos (by decide)]
  · rw [if_neg e]
    refine loopF_out (body := fun z => b_X8_count_54 M (nI q) z.1 z.2) (f := 99999) ?_
    show b_X8_count_54 M (nI q) z 0 = _
    unfold b_X8_count_54
    rw [if_neg (by decide), if_neg (by rw [show (2 : Int32) = nI 2 from rfl, nI_eq (by omega) (by omega)]; exact e)]
theorem c86 {M : Mem} {S : Nat → Nat} (hY : Sqm (M 239) S) (hV : VS S) (z : Int32) (q : Nat) (hq : q < 7) (hz : q = 5 → z = 0) : loopF (fun z => b_X8_count_86 M (nI q) z.1 z.2) FUEL (z, 0) = some (if q = 5 then nI (sumP S (S 3)) else z) := by
  have hn := hV.2.1
  by_cases e : q = 5
  · subst e
    rw [if_pos rfl, hz rfl]
    have key := loopF_for (body := fun z => b_X8_count_86 M (nI 5) z.1 z.2) 5 (fun i => (nI (sumP S (min i (S 3))), nI i)) (nI (sumP S (S 3))) FUEL (FUEL_lt (by omega)) ?_ ?_
    · rw [Nat.zero_min] at key
      exact key
    · intro i hi
      show b_X8_count_86 M (nI 5) _ (nI i) = _
      unfold b_X8_count_86
      rw [if_neg (by rw [show (5 : Int32) = nI 5 from rfl]; exact nI_ge hi (by omega)), if_pos (by decide), show (20 : Int32) + nI i = nI (20 + i) from nI_add 20 i, chk_of (inB_nI (by omega) (by omega)), nI_clamp (by omega), nm_eq, nI_1]
      by_cases hj : i < S 3
      · rw [(hY.2.2.2.2.1 i hj).2.2.2, nI_add]
        have e1 : min i (S 3) = i := by omega
        have e2 : min (i + 1) (S 3) = i + 1 := by omega
        rw [e1, e2]
        rfl
      · rw [hY.2.2.2.2.2 i (by omega) hi, Int32.add_zero]
        have e1 : min i (S 3) = S 3 := by omega
        have e2 : min (i + 1) (S 3) = S 3 := by omega
        rw [e1, e2]
    · show b_X8_count_86 M (nI 5) _ (nI 5) = _
      unfold b_X8_count_86
      rw [if_pos (by decide)]
      have e1 : min 5 (S 3) = S 3 := by omega
      rw [e1]
  · rw [if_neg e]
    refine loopF_out (body := fun z => b_X8_count_86 M (nI q) z.1 z.2) (f := 99999) ?_
    show b_X8_count_86 M (nI q) z 0 = _
    unfold b_X8_count_86
    rw [if_neg (by decide), if_neg (by rw [show (5 : Int32) = nI 5 from rfl, nI_eq (by omega) (by omega)]; exact e)]
theorem pc_30 {v : Nat} (hv : v < 2 ^ 30) : pc 32 v = pc 30 v := by
  unfold pc
  rw [show 32 = 30 + 2 from rfl, List.range_add, List.countP_append]
  have : ((List.range 2).map (fun x => 30 + x)).countP (fun i => v.testBit i) = 0 := by
    rw [List.countP_eq_zero]
    intro i hi
    obtain ⟨k, -, rfl⟩ := List.mem_map.mp hi
    rw [Nat.testBit_lt_two_pow (Nat.lt_of_lt_of_le hv (Nat.pow_le_pow_right (by omega) (by omega)))]
    decide
  rw [this]
  rfl
theorem ag_count {M : Mem} (h : Inv M) (a : Int32) : AgNN (m_X7_count M a) (m_X8_count M a) := by
  obtain ⟨S, hS⟩ := h.2.2.1
  have hV := hS.2.2.1
  have hn := hV.2.1
  have i3 : (3 : Int32).toNatClampNeg = 3 := rfl
  have i1 : (1 : Int32).toNatClampNeg = 1 := rfl
  unfold m_X7_count m_X8_count
  rcases gin M a 0 6 0 6 rfl rfl with ⟨p1, p2, p3⟩ | ⟨p1, p3⟩
  · obtain ⟨q, hq, rfl⟩ := inN_nI (x := a) (N := 7) ⟨p1, by omega⟩
    rw [p3, Option.bind_some, if_neg n10, c19 M q hq, Option.bind_some, c54 hS.2.1 hV _ q hq (fun e => by rw [if_neg (by omega)]), Option.bind_some, c86 hS.2.1 hV _ q hq (fun e => by rw [if_neg (by omega), if_neg (by omega)]), Option.bind_some]
    have hqq : q = 0 ∨ q = 1 ∨ q = 2 ∨ q = 3 ∨ q = 4 ∨ q = 5 ∨ q = 6 := by omega
    rcases hqq with rfl | rfl | rfl | rfl | rfl | rfl | rfl
    · rw [if_pos (by decide), xrows h.1]
      exact ⟨_, rfl, rfl⟩
    · rw [if_neg (by decide), if_pos (by decide), if_pos (by decide), chk_of (by decide), i3, hS.1.2.2.2.1, hS.2.1.2.2.1]
      exact ⟨_, rfl, rfl⟩
    · rw [if_neg (by decide), if_neg (by decide), if_pos (by decide), hS.1.2.2.1, bitCount M (by have := hV.2.2.2.2.1; omega), pc_30 hV.2.2.2.2.1]
      exact ⟨_, rfl, rfl⟩
    · rw [if_neg (by decide), if_neg (by decide), if_neg (by decide), if_pos (by decide), if_neg (by decide), if_pos (by decide), chk_of (by decide), i1, hS.1.2.1, hS.2.1.2.1]
      exact ⟨_, rfl, rfl⟩
    · obtain ⟨n, p, A, hXA, hYA, -⟩ := acts_split h.2.2.2.1
      rw [if_neg (by decide), if_neg (by decide), if_neg (by decide), if_neg (by decide), if_pos (by decide), if_neg (by decide), if_neg (by decide), if_pos (by decide), hXA.2.1, hYA.1]
      exact ⟨_, rfl, rfl⟩
    · rw [if_neg (by decide), if_neg (by decide), if_neg (by decide), if_neg (by decide), if_neg (by decide), if_pos (by decide), if_neg (by decide), if_neg (by decide), if_neg (by decide), if_neg (by decide), xall hS.1 hV]
      exact ⟨_, rfl, rfl⟩
    · obtain ⟨n, t1, t2, t3, -⟩ := h.2.1
      rw [if_neg (by decide), if_neg (by decide), if_neg (by decide), if_neg (by decide), if_neg (by decide), if_neg (by decide), if_pos (by decide), if_neg (by decide), if_neg (by decide), if_neg (by decide), if_pos (by decide), t2, t3]
      exact ⟨_, rfl, rfl⟩
  · have hne : ∀ k, k < 7 → a ≠ nI k := fun k hk e => p1 (by rw [e, nI_toInt (by omega)]; omega)
    have h0 : ¬ a = 0 := hne 0 (by omega)
    have h1 : ¬ a = 1 := hne 1 (by omega)
    have h2 : ¬ a = 2 := hne 2 (by omega)
    have h3 : ¬ a = 3 := hne 3 (by omega)
    have h4 : ¬ a = 4 := hne 4 (by omega)
    have h5 : ¬ a = 5 := hne 5 (by omega)
    have h6 : ¬ a = 6 := hne 6 (by omega)
    rw [p3, if_neg h0, if_neg h1, if_neg h2, if_neg h3, if_neg h4, if_neg h5, if_neg h6]
    exact ⟨-1000001, rfl, rfl⟩
