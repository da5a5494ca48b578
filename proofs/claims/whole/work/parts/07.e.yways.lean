/-! ## the ways of a throw, the reference's -/
def cY (c : Nat) : Int32 := if c < 30 then nI c else -1000000
def vI (c sp i : Nat) : Int32 := nI c / 6 - nI sp + nI i
def uI (c sp j : Nat) : Int32 := nI c % 6 - nI sp + nI j
def ad (sp i : Nat) : Nat := (i - sp) + (sp - i)
def rowQ (c sp i n : Nat) : List Nat := (List.range n).flatMap (fun j => List.replicate (sp + 1 - (ad sp j + ad sp i)) (celN c (j + 2 - sp) (i + 2 - sp)))
def wayQ (c sp n : Nat) : List Nat := (List.range n).flatMap (fun i => rowQ c sp i (2 * sp + 1))
theorem rowQ_succ (c sp i n : Nat) : rowQ c sp i (n + 1) = rowQ c sp i n ++ List.replicate (sp + 1 - (ad sp n + ad sp i)) (celN c (n + 2 - sp) (i + 2 - sp)) := by
  unfold rowQ
  rw [List.range_succ, List.flatMap_append]
  simp
theorem wayQ_succ (c sp n : Nat) : wayQ c sp (n + 1) = wayQ c sp n ++ rowQ c sp n (2 * sp + 1) := by
  unfold wayQ
  rw [List.range_succ, List.flatMap_append]
  simp
theorem wayQ_all : ((List.range 30).all fun c => (List.range 3).all fun sp => decide (wayQ c sp (2 * sp + 1) = wayL c sp)) = true := by decide +kernel
theorem wayQ_eq {c sp : Nat} (hc : c < 30) (hs : sp < 3) : wayQ c sp (2 * sp + 1) = wayL c sp := of_decide_eq_true (all_r (all_r wayQ_all hc) hs)
theorem wayQ_len : ((List.range 30).all fun c => (List.range 3).all fun sp => (List.range (2 * sp + 1)).all fun i => (List.range (2 * sp + 1)).all fun j => decide ((wayQ c sp i).length + (rowQ c sp i j).length + (sp + 1 - (ad sp j + ad sp i)) ≤ 19)) = true := by decide +kernel
theorem yv_tab : ((List.range 30).all fun c => (List.range 3).all fun sp => (List.range 6).all fun i =>
    (decide (vI c sp i + 1 = vI c sp (i + 1)) && decide ((nI c / 6 + nI sp < vI c sp i) ↔ 2 * sp + 1 ≤ i)) && ((decide (uI c sp i + 1 = uI c sp (i + 1)) && decide ((nI c % 6 + nI sp < uI c sp i) ↔ 2 * sp + 1 ≤ i)) &&
    ((decide (nI c % 6 ≤ uI c sp i → uI c sp i - nI c % 6 = nI (ad sp i)) && decide (¬ nI c % 6 ≤ uI c sp i → nI c % 6 - uI c sp i = nI (ad sp i))) && (decide (nI c / 6 ≤ vI c sp i → vI c sp i - nI c / 6 = nI (ad sp i)) && decide (¬ nI c / 6 ≤ vI c sp i → nI c / 6 - vI c sp i = nI (ad sp i)))))) = true := by decide +kernel
theorem yv {c sp i : Nat} (hc : c < 30) (hs : sp < 3) (hi : i < 6) : (vI c sp i + 1 = vI c sp (i + 1) ∧ ((nI c / 6 + nI sp < vI c sp i) ↔ 2 * sp + 1 ≤ i)) ∧ (uI c sp i + 1 = uI c sp (i + 1) ∧ ((nI c % 6 + nI sp < uI c sp i) ↔ 2 * sp + 1 ≤ i)) ∧ ((nI c % 6 ≤ uI c sp i → uI c sp i - nI c % 6 = nI (ad sp i)) ∧ (¬ nI c % 6 ≤ uI c sp i → nI c % 6 - uI c sp i = nI (ad sp i))) ∧ ((nI c / 6 ≤ vI c sp i → vI c sp i - nI c / 6 = nI (ad sp i)) ∧ (¬ nI c / 6 ≤ vI c sp i → nI c / 6 - vI c sp i = nI (ad sp i))) := by
  have h1 := all_r (all_r (all_r yv_tab hc) hs) hi
  simp only [Bool.and_eq_true, decide_eq_true_eq] at h1
  exact h1
theorem ycel_tab : ((List.range 30).all fun c => (List.range 3).all fun sp => (List.range (2 * sp + 1)).all fun i => (List.range (2 * sp + 1)).all fun j =>
    decide (((0 : Int) ≤ (uI c sp j).toInt ∧ (uI c sp j).toInt ≤ 5) ∧ ((0 : Int) ≤ (vI c sp i).toInt ∧ (vI c sp i).toInt ≤ 4) → celN c (j + 2 - sp) (i + 2 - sp) < 30 ∧ (6 : Int32) * vI c sp i + uI c sp j = nI (celN c (j + 2 - sp) (i + 2 - sp))) &&
    decide (¬ (((0 : Int) ≤ (uI c sp j).toInt ∧ (uI c sp j).toInt ≤ 5) ∧ ((0 : Int) ≤ (vI c sp i).toInt ∧ (vI c sp i).toInt ≤ 4)) → celN c (j + 2 - sp) (i + 2 - sp) = 30)) = true := by decide +kernel
theorem ycel {c sp i j : Nat} (hc : c < 30) (hs : sp < 3) (hi : i < 2 * sp + 1) (hj : j < 2 * sp + 1) : (((0 : Int) ≤ (uI c sp j).toInt ∧ (uI c sp j).toInt ≤ 5) ∧ ((0 : Int) ≤ (vI c sp i).toInt ∧ (vI c sp i).toInt ≤ 4) → celN c (j + 2 - sp) (i + 2 - sp) < 30 ∧ (6 : Int32) * vI c sp i + uI c sp j = nI (celN c (j + 2 - sp) (i + 2 - sp))) ∧ (¬ (((0 : Int) ≤ (uI c sp j).toInt ∧ (uI c sp j).toInt ≤ 5) ∧ ((0 : Int) ≤ (vI c sp i).toInt ∧ (vI c sp i).toInt ≤ 4)) → celN c (j + 2 - sp) (i + 2 - sp) = 30) := by
  have h1 := all_r (all_r (all_r (all_r ycel_tab hc) hs) hi) hj
  rw [Bool.and_eq_true] at h1
  exact ⟨of_decide_eq_true h1.1, of_decide_eq_true h1.2⟩
def PY (M0 M : Mem) (l : List Nat) : Prop := M 234 24 = nI l.length ∧ (∀ i, i < l.length → M 247 i = cY (l.getD i 30)) ∧ (∀ a, a ≠ 234 → a ≠ 247 → M a = M0 a) ∧ ∀ j, j ≠ 24 → M 234 j = M0 234 j
theorem ypush {M0 M : Mem} {l : List Nat} (h : PY M0 M l) (hl : l.length < 19) (w : Nat) {x2 x3 x4 x5 x6 x8 : Int32} : ∃ M', j_X8_laysWays_141 M x2 x3 x4 x5 x6 x8 (cY w) (M 234 24) = some (.inl (x8 + 1, M')) ∧ PY M0 M' (l ++ [w]) := by
  obtain ⟨h1, h2, h3, h4⟩ := h
  unfold j_X8_laysWays_141
  rw [h1, chk_of (inB_nI hl (by omega)), nm_eq, nm_eq]
  refine ⟨_, rfl, ?_, ?_, ?_, ?_⟩
  · rw [mset_self, upd_at, if_pos rfl, mset_ne _ _ _ (by decide), h1, nI_1, List.length_append]
    rfl
  · intro i hi
    rw [mset_ne _ _ _ (by decide), mset_self, upd_at, nI_clamp (by omega)]
    rw [List.length_append] at hi
    simp only [List.length_cons, List.length_nil] at hi
    by_cases e : i = l.length
    · rw [if_pos e, getD_snoc, if_pos e]
    · rw [if_neg e, h2 i (by omega), getD_snoc, if_neg e]
  · intro a a1 a2
    rw [mset_ne _ _ _ a1, mset_ne _ _ _ a2, h3 a a1 a2]
  · intro j hj
    rw [mset_self, upd_at, if_neg hj, mset_ne _ _ _ (by decide), h4 j hj]
theorem PY.nil (M0 : Mem) : PY M0 (mset M0 234 24 0) [] := ⟨by rw [mset_self, upd_at, if_pos rfl]; rfl, fun i h => absurd h (by simp), fun a a1 _ => mset_ne _ _ _ a1, fun j hj => by rw [mset_self, upd_at, if_neg hj]⟩
theorem ythrow {M0 : Mem} {c sp : Nat} (hc : c < 30) (hs : sp < 3) : ∃ M', m_X8_laysWays M0 (nI c) (nI sp) = some M' ∧ PY M0 M' (wayL c sp) := by
  unfold m_X8_laysWays
  rw [nm_eq, nm_eq, nm_eq, nm_eq]
  have ev0 : ∀ c, c < 30 → ∀ sp, sp < 3 → nI c / 6 - nI sp = vI c sp 0 ∧ nI c % 6 - nI sp = uI c sp 0 := by decide +kernel
  have key := loopF_rel (body := fun z => b_X8_laysWays_22 z.2 (nI sp) (nI c % 6) (nI c / 6) z.1) (2 * sp + 1) (fun i z => z.1 = vI c sp i ∧ PY M0 z.2 (wayQ c sp i)) (fun M' => PY M0 M' (wayL c sp)) ?_ ?_ (fuel := FUEL) (FUEL_lt (by omega)) (s := (nI c / 6 - nI sp, mset M0 234 24 0)) ⟨(ev0 c hc sp hs).1, PY.nil M0⟩
  · obtain ⟨r, h1, h2⟩ := key
    exact ⟨r, by rw [h1]; rfl, h2⟩
  · rintro i ⟨x, M⟩ hi ⟨rfl, hM⟩
    show ∃ s', b_X8_laysWays_22 M (nI sp) (nI c % 6) (nI c / 6) (vI c sp i) = _ ∧ _
    unfold b_X8_laysWays_22
    obtain ⟨⟨f1, f2⟩, -, -, f7, f8⟩ := yv hc hs (i := i) (by omega)
    rw [if_neg (fun q => by have := f2.mp q; omega), nm_eq]
    have k2 := loopF_rel (body := fun z => b_X8_laysWays_36 z.2 (nI sp) (nI c % 6) (nI c / 6) (vI c sp i) z.1) (2 * sp + 1) (fun j z => z.1 = uI c sp j ∧ PY M0 z.2 (wayQ c sp i ++ rowQ c sp i j)) (fun M' => PY M0 M' (wayQ c sp (i + 1))) ?_ ?_ (fuel := FUEL) (FUEL_lt (by omega)) (s := (nI c % 6 - nI sp, M)) ⟨(ev0 c hc sp hs).2, by simpa [rowQ] using hM⟩
    · obtain ⟨r, h1, h2⟩ := k2
      exact ⟨(vI c sp (i + 1), r), by rw [h1, Option.bind_some, f1], rfl, h2⟩
    · rintro j ⟨x, M2⟩ hj ⟨rfl, hM2⟩
      show ∃ s', b_X8_laysWays_36 M2 (nI sp) (nI c % 6) (nI c / 6) (vI c sp i) (uI c sp j) = _ ∧ _
      obtain ⟨-, ⟨g3, g4⟩, ⟨g5, g6⟩, -⟩ := yv hc hs (i := j) (by omega)
      have hl := of_decide_eq_true (all_r (all_r (all_r (all_r wayQ_len hc) hs) hi) hj)
      have k3 := loopF_rel (body := fun z => b_X8_laysWays_88 z.2 (nI sp) (nI c % 6) (nI c / 6) (vI c sp i) (uI c sp j) z.1) (sp + 1 - (ad sp j + ad sp i)) (fun k z => z.1 = nI (ad sp j + ad sp i + k) ∧ PY M0 z.2 (wayQ c sp i ++ rowQ c sp i j ++ List.replicate k (celN c (j + 2 - sp) (i + 2 - sp)))) (fun M' => PY M0 M' (wayQ c sp i ++ rowQ c sp i (j + 1))) ?_ ?_ (fuel := FUEL) (FUEL_lt (by omega)) (s := (nI (ad sp j + ad sp i), M2)) ⟨rfl, by simpa using hM2⟩
      · obtain ⟨r, h1, h2⟩ := k3
        refine ⟨(uI c sp (j + 1), r), ?_, rfl, h2⟩
        have e81 : j_X8_laysWays_81 M2 (nI sp) (nI c % 6) (nI c / 6) (vI c sp i) (uI c sp j) (nI (ad sp i)) (nI (ad sp j)) = some (.inl (uI c sp (j + 1), r)) := by
          unfold j_X8_laysWays_81
          rw [nI_add, nm_eq, h1, Option.bind_some, g3]
        have e61 : j_X8_laysWays_61 M2 (nI sp) (nI c % 6) (nI c / 6) (vI c sp i) (uI c sp j) (nI (ad sp j)) = some (.inl (uI c sp (j + 1), r)) := by
          unfold j_X8_laysWays_61
          by_cases q : nI c / 6 ≤ vI c sp i
          · rw [if_pos q, f7 q, e81]
          · rw [if_neg q, f8 q, e81]
        unfold b_X8_laysWays_36
        rw [if_neg (fun q => by have := g4.mp q; omega)]
        by_cases q : nI c % 6 ≤ uI c sp j
        · rw [if_pos q, g5 q, e61]
        · rw [if_neg q, g6 q, e61]
      · rintro k ⟨x, M3⟩ hk ⟨rfl, hM3⟩
        show ∃ s', b_X8_laysWays_88 M3 (nI sp) (nI c % 6) (nI c / 6) (vI c sp i) (uI c sp j) (nI (ad sp j + ad sp i + k)) = _ ∧ _
        unfold b_X8_laysWays_88
        rw [if_neg (nI_nlt (by omega) (by omega)), m_inI M3 (uI c sp j) 0 5 0 5 rfl rfl, Option.bind_some]
        obtain ⟨t1, t2⟩ := ycel hc hs hi hj
        obtain ⟨M4, p1, p2⟩ := ypush hM3 (by simp only [List.length_append, List.length_replicate]; omega) (celN c (j + 2 - sp) (i + 2 - sp)) (x2 := nI sp) (x3 := nI c % 6) (x4 := nI c / 6) (x5 := vI c sp i) (x6 := uI c sp j) (x8 := nI (ad sp j + ad sp i + k))
        rw [nI_1] at p1
        refine ⟨(nI (ad sp j + ad sp i + k + 1), M4), ?_, rfl, ?_⟩
        · by_cases q1 : (0 : Int) ≤ (uI c sp j).toInt ∧ (uI c sp j).toInt ≤ 5
          · rw [if_pos q1, if_neg (by decide), m_inI M3 (vI c sp i) 0 4 0 4 rfl rfl, Option.bind_some]
            by_cases q2 : (0 : Int) ≤ (vI c sp i).toInt ∧ (vI c sp i).toInt ≤ 4
            · obtain ⟨t3, t4⟩ := t1 ⟨q1, q2⟩
              rw [if_pos q2, if_neg (by decide), t4]
              rw [show cY (celN c (j + 2 - sp) (i + 2 - sp)) = nI (celN c (j + 2 - sp) (i + 2 - sp)) from if_pos t3] at p1
              exact p1
            · have t3 := t2 (fun z => q2 z.2)
              rw [if_neg q2, if_pos rfl]
              rw [t3] at p1
              exact p1
          · have t3 := t2 (fun z => q1 z.1)
            rw [if_neg q1, if_pos rfl]
            rw [t3] at p1
            exact p1
        · rw [List.replicate_succ', ← List.append_assoc]
          exact p2
      · rintro ⟨x, M3⟩ ⟨rfl, hM3⟩
        show ∃ r, b_X8_laysWays_88 M3 (nI sp) (nI c % 6) (nI c / 6) (vI c sp i) (uI c sp j) (nI (ad sp j + ad sp i + (sp + 1 - (ad sp j + ad sp i)))) = _ ∧ _
        unfold b_X8_laysWays_88
        have ha : ad sp j ≤ 4 ∧ ad sp i ≤ 4 := by unfold ad; omega
        rw [if_pos (nI_lt (by omega) (by omega))]
        refine ⟨M3, rfl, ?_⟩
        rw [rowQ_succ, ← List.append_assoc]
        exact hM3
    · rintro ⟨x, M2⟩ ⟨rfl, hM2⟩
      show ∃ r, b_X8_laysWays_36 M2 (nI sp) (nI c % 6) (nI c / 6) (vI c sp i) (uI c sp (2 * sp + 1)) = _ ∧ _
      unfold b_X8_laysWays_36
      obtain ⟨-, ⟨g3, g4⟩, -⟩ := yv hc hs (i := 2 * sp + 1) (by omega)
      rw [if_pos (g4.mpr (Nat.le_refl _))]
      exact ⟨M2, rfl, by rw [wayQ_succ]; exact hM2⟩
  · rintro ⟨x, M⟩ ⟨rfl, hM⟩
    show ∃ r, b_X8_laysWays_22 M (nI sp) (nI c % 6) (nI c / 6) (vI c sp (2 * sp + 1)) = _ ∧ _
    unfold b_X8_laysWays_22
    obtain ⟨⟨f1, f2⟩, -⟩ := yv hc hs (i := 2 * sp + 1) (by omega)
    rw [if_pos (f2.mpr (Nat.le_refl _))]
    exact ⟨M, rfl, by rw [← wayQ_eq hc hs]; exact hM⟩
theorem way_ok {c sp : Nat} (hc : c < 30) (hs : sp < 3) : (wayL c sp).length ≤ 19 ∧ 1 ≤ (wayL c sp).length ∧ ∀ i, i < (wayL c sp).length → (wayL c sp).getD i 30 ≤ 30 := by
  have h1 := all_r (all_r wayL_facts hc) hs
  simp only [Bool.and_eq_true, decide_eq_true_eq, List.all_eq_true] at h1
  refine ⟨h1.1, h1.2.1, fun i hi => h1.2.2 _ ?_⟩
  rw [List.getD_eq_getElem?_getD, List.getElem?_eq_getElem hi]
  exact List.getElem_mem hi
/-- by how many ways child j picks, as the reference counts -/
theorem yways {M : Mem} {l : List Nat} {S w : Nat → Nat} {h : Nat} (h1 : M 234 24 = nI l.length) (h2 : ∀ i, i < l.length → M 247 i = cY (l.getD i 30)) (hl : l.length ≤ 19) (hle : ∀ i, i < l.length → l.getD i 30 ≤ 30) (hY : Sqm (M 239) S) (hV : VS S) (hL : Lay M S w h) {j : Nat} (hj : j < 5) : m_X8_waysOf M (nI j) = some (nI (picksN S w h j l)) := by
  unfold m_X8_waysOf
  have key := loopF_for (body := fun z => b_X8_waysOf_4 M (nI j) z.1 z.2) l.length (fun i => (nI (cnt (fun c => pick S w h c == j + 1) l i), nI i)) (nI (picksN S w h j l)) FUEL (FUEL_lt (by omega)) ?_ ?_
  · have e0 : ((0 : Int32), (0 : Int32)) = (nI (cnt (fun c => pick S w h c == j + 1) l 0), nI 0) := by simp only [cnt, List.take_zero, List.countP_nil]; rfl
    rw [e0, key]
    rfl
  · intro i hi
    show b_X8_waysOf_4 M (nI j) _ (nI i) = _
    unfold b_X8_waysOf_4
    have hp := pick_le (S := S) (w := w) h (l.getD i 30)
    have hn := hV.2.1
    have hi30 := hle i hi
    rw [h1, if_neg (nI_ge hi (by omega)), chk_of (inB_nI (by omega) (by omega)), chk_of (inB_nI (by omega) (by omega)), nI_clamp (by omega), h2 i hi, cnt_succ hi]
    unfold cY
    by_cases hc : l.getD i 30 < 30
    · rw [if_pos hc, if_neg, ypicker hY hV hL hc, Option.bind_some]
      · by_cases e : pick S w h (l.getD i 30) = j + 1
        · rw [if_pos ((pkY_eq (by omega) (by omega)).mpr e), nm_eq, nI_1, nI_1, if_pos (by simpa using e)]
        · rw [if_neg (fun z => e ((pkY_eq (by omega) (by omega)).mp z)), nm_eq, nI_1, if_neg (by simpa using e)]
          rw [show nI (cnt (fun c => pick S w h c == j + 1) l i) + (0 : Int32) = nI (cnt (fun c => pick S w h c == j + 1) l i) from Int32.add_zero _]
          rfl
      · intro q
        have := congrArg Int32.toInt q
        rw [nI_toInt (by omega), show (-1000000 : Int32).toInt = -1000000 from rfl] at this
        omega
    · have e30 : l.getD i 30 = 30 := by omega
      have e : pick S w h (l.getD i 30) = 0 := by
        unfold pick
        rw [if_neg (fun z => hc z.1)]
      rw [if_neg hc, if_pos rfl, nm_eq, nI_1, if_neg (by rw [e]; simp)]
      rw [show nI (cnt (fun c => pick S w h c == j + 1) l i) + (0 : Int32) = nI (cnt (fun c => pick S w h c == j + 1) l i) from Int32.add_zero _]
      rfl
  · show b_X8_waysOf_4 M (nI j) _ (nI l.length) = _
    unfold b_X8_waysOf_4
    rw [h1, if_pos (nI_le (Nat.le_refl _) (by omega))]
    rfl
