/-! ## the ways of a throw -/
def absd (k : Nat) : Nat := (k - 2) + (2 - k)
def wyN (sp dx dy : Nat) : Nat := sp + 1 - absd dx - absd dy
def celN (c dx dy : Nat) : Nat := if 2 ≤ c % 6 + dx ∧ c % 6 + dx < 8 ∧ 2 ≤ c / 6 + dy ∧ c / 6 + dy < 7 then 6 * (c / 6 + dy - 2) + (c % 6 + dx - 2) else 30
def cellL (c sp dy dx : Nat) : List Nat := List.replicate (wyN sp dx dy) (celN c dx dy)
def rowP (c sp dy n : Nat) : List Nat := (List.range n).flatMap (cellL c sp dy)
def wayP (c sp n : Nat) : List Nat := (List.range n).flatMap (fun dy => rowP c sp dy 5)
def wayL (c sp : Nat) : List Nat := wayP c sp 5
def sI (k : Nat) : Int32 := nI k - 2
theorem rowP_succ (c sp dy n : Nat) : rowP c sp dy (n + 1) = rowP c sp dy n ++ cellL c sp dy n := by
  unfold rowP
  rw [List.range_succ, List.flatMap_append]
  simp
theorem wayP_succ (c sp n : Nat) : wayP c sp (n + 1) = wayP c sp n ++ rowP c sp n 5 := by
  unfold wayP
  rw [List.range_succ, List.flatMap_append]
  simp
theorem sI_1 : ∀ k, k < 6 → sI k + 1 = sI (k + 1) := by decide +kernel
theorem sI_end : ∀ k, k < 6 → (2 < sI k ↔ 5 ≤ k) := by decide +kernel
theorem xcel_tab : ((List.range 30).all fun c => (List.range 5).all fun dx => (List.range 5).all fun dy => decide (m_X3_cellAt (fun _ _ => 0) ((nI c % 6) + sI dx) ((nI c / 6) + sI dy) = some (cX (celN c dx dy))) && decide (celN c dx dy ≤ 30)) = true := by decide +kernel
theorem xcel (M : Mem) {c dx dy : Nat} (hc : c < 30) (hx : dx < 5) (hy : dy < 5) : m_X3_cellAt M ((nI c % 6) + sI dx) ((nI c / 6) + sI dy) = some (cX (celN c dx dy)) := by
  have h1 := all_r (all_r (all_r xcel_tab hc) hx) hy
  rw [Bool.and_eq_true] at h1
  exact of_decide_eq_true h1.1
theorem celN_le {c dx dy : Nat} (hc : c < 30) (hx : dx < 5) (hy : dy < 5) : celN c dx dy ≤ 30 := by
  have h1 := all_r (all_r (all_r xcel_tab hc) hx) hy
  rw [Bool.and_eq_true] at h1
  exact of_decide_eq_true h1.2
theorem xwy_tab : ((List.range 3).all fun sp => (List.range 5).all fun dx => (List.range 5).all fun dy => (List.range 5).all fun i => decide ((((((if 2 < nI sp then 2 else nI sp) + 1) - (if 0 ≤ sI dx then sI dx else 0 - sI dx)) - (if 0 ≤ sI dy then sI dy else 0 - sI dy)) ≤ nI i) ↔ wyN sp dx dy ≤ i) && decide (wyN sp dx dy ≤ 3)) = true := by decide +kernel
theorem xwy {sp dx dy i : Nat} (hs : sp < 3) (hx : dx < 5) (hy : dy < 5) (hi : i < 5) : ((((if 2 < nI sp then 2 else nI sp) + 1) - (if 0 ≤ sI dx then sI dx else 0 - sI dx)) - (if 0 ≤ sI dy then sI dy else 0 - sI dy)) ≤ nI i ↔ wyN sp dx dy ≤ i := by
  have h1 := all_r (all_r (all_r (all_r xwy_tab hs) hx) hy) hi
  rw [Bool.and_eq_true] at h1
  exact of_decide_eq_true h1.1
theorem wyN_le {sp dx dy : Nat} (hs : sp < 3) (hx : dx < 5) (hy : dy < 5) : wyN sp dx dy ≤ 3 := by
  have h1 := all_r (all_r (all_r (all_r xwy_tab hs) hx) hy) (k := 0) (by omega)
  rw [Bool.and_eq_true] at h1
  exact of_decide_eq_true h1.2
theorem way_len : ((List.range 30).all fun c => (List.range 3).all fun sp => (List.range 5).all fun dy => (List.range 5).all fun dx => decide ((wayP c sp dy).length + (rowP c sp dy dx).length + wyN sp dx dy ≤ 19)) = true := by decide +kernel
theorem wayL_facts : ((List.range 30).all fun c => (List.range 3).all fun sp => decide ((wayL c sp).length ≤ 19) && (decide (1 ≤ (wayL c sp).length) && (wayL c sp).all (fun w => decide (w ≤ 30)))) = true := by decide +kernel
theorem getD_snoc (l : List Nat) (w i d : Nat) : (l ++ [w]).getD i d = if i = l.length then w else l.getD i d := by
  rw [List.getD_eq_getElem?_getD, List.getD_eq_getElem?_getD]
  by_cases h : i < l.length
  · rw [if_neg (by omega), List.getElem?_append_left h]
  · rw [List.getElem?_append_right (by omega)]
    by_cases e : i = l.length
    · rw [if_pos e, e, Nat.sub_self]
      rfl
    · rw [if_neg e, List.getElem?_eq_none (by simp; omega), List.getElem?_eq_none (by omega)]
def PX (M0 M : Mem) (l : List Nat) : Prop := M 196 1 = nI l.length ∧ (∀ i, i < l.length → M 197 i = cX (l.getD i 30)) ∧ ∀ a, a ≠ 196 → a ≠ 197 → M a = M0 a
theorem xadd {M0 M : Mem} {l : List Nat} (h : PX M0 M l) (hl : l.length < 20) (w : Nat) : ∃ M', m_X3_add M (cX w) = some M' ∧ PX M0 M' (l ++ [w]) := by
  obtain ⟨h1, h2, h3⟩ := h
  unfold m_X3_add
  rw [h1, if_neg (nI_pos (by omega)), if_neg (by rw [show (20 : Int32) = nI 20 from rfl]; exact nI_ge hl (by omega)), chk_of (inB_nI hl (by omega)), nm_eq, nm_eq]
  refine ⟨_, rfl, ?_, ?_, ?_⟩
  · rw [mset_self, upd_at, if_pos rfl, mset_ne _ _ _ (by decide), h1, nI_1, List.length_append]
    rfl
  · intro i hi
    rw [mset_ne _ _ _ (by decide), mset_self, upd_at, nI_clamp (by omega)]
    rw [List.length_append] at hi
    simp only [List.length_cons, List.length_nil] at hi
    by_cases e : i = l.length
    · rw [if_pos e, getD_snoc, if_pos e]
    · rw [if_neg e, h2 i (by omega), getD_snoc, if_neg e]
  · intro a a1 a2
    rw [mset_ne _ _ _ a1, mset_ne _ _ _ a2, h3 a a1 a2]
theorem PX.nil (M0 : Mem) : PX M0 (mset M0 196 1 0) [] := ⟨by rw [mset_self, upd_at, if_pos rfl]; rfl, fun i h => absurd h (by simp), fun a a1 _ => mset_ne _ _ _ a1⟩
theorem xthrow {M0 : Mem} {c sp : Nat} (hc : c < 30) (hs : sp < 3) : ∃ M', m_X3_throwAt M0 (nI c) (nI sp) = some M' ∧ PX M0 M' (wayL c sp) := by
  unfold m_X3_throwAt
  rw [nm_eq]
  have key := loopF_rel (body := fun z => b_X3_throwAt_8 z.2 (nI c) (nI sp) z.1) 5 (fun dy z => z.1 = sI dy ∧ PX M0 z.2 (wayP c sp dy)) (fun M' => PX M0 M' (wayL c sp)) ?_ ?_ (fuel := FUEL) (FUEL_lt (by omega)) (s := ((-2), mset M0 196 1 0)) ⟨rfl, PX.nil M0⟩
  · obtain ⟨r, h1, h2⟩ := key
    exact ⟨r, by rw [h1]; rfl, h2⟩
  · rintro dy ⟨x, M⟩ hdy ⟨rfl, hM⟩
    show ∃ s', b_X3_throwAt_8 M (nI c) (nI sp) (sI dy) = _ ∧ _
    unfold b_X3_throwAt_8
    rw [if_neg (fun q => by have := (sI_end dy (by omega)).mp q; omega)]
    have k2 := loopF_rel (body := fun z => b_X3_throwAt_17 z.2 (nI c) (nI sp) (sI dy) z.1) 5 (fun dx z => z.1 = sI dx ∧ PX M0 z.2 (wayP c sp dy ++ rowP c sp dy dx)) (fun M' => PX M0 M' (wayP c sp (dy + 1))) ?_ ?_ (fuel := FUEL) (FUEL_lt (by omega)) (s := ((-2), M)) ⟨rfl, by simpa [rowP] using hM⟩
    · obtain ⟨r, h1, h2⟩ := k2
      exact ⟨(sI (dy + 1), r), by rw [h1, Option.bind_some, sI_1 dy (by omega)], rfl, h2⟩
    · rintro dx ⟨x, M2⟩ hdx ⟨rfl, hM2⟩
      show ∃ s', b_X3_throwAt_17 M2 (nI c) (nI sp) (sI dy) (sI dx) = _ ∧ _
      unfold b_X3_throwAt_17
      rw [if_neg (fun q => by have := (sI_end dx (by omega)).mp q; omega), nm_eq]
      generalize hy : ((((if 2 < nI sp then 2 else nI sp) + 1) - (if 0 ≤ sI dx then sI dx else 0 - sI dx)) - (if 0 ≤ sI dy then sI dy else 0 - sI dy)) = y
      have hw := wyN_le hs hdx hdy
      have hl := of_decide_eq_true (all_r (all_r (all_r (all_r way_len hc) hs) hdy) hdx)
      have k3 := loopF_rel (body := fun z => b_X3_throwAt_46 z.2 (nI c) (nI sp) (sI dy) (sI dx) y z.1) (wyN sp dx dy) (fun i z => z.1 = nI i ∧ PX M0 z.2 (wayP c sp dy ++ rowP c sp dy dx ++ List.replicate i (celN c dx dy))) (fun M' => PX M0 M' (wayP c sp dy ++ rowP c sp dy (dx + 1))) ?_ ?_ (fuel := FUEL) (FUEL_lt (by omega)) (s := (0, M2)) ⟨rfl, by simpa using hM2⟩
      · obtain ⟨r, h1, h2⟩ := k3
        exact ⟨(sI (dx + 1), r), by rw [h1, Option.bind_some, sI_1 dx (by omega)], rfl, h2⟩
      · rintro i ⟨x, M3⟩ hi ⟨rfl, hM3⟩
        show ∃ s', b_X3_throwAt_46 M3 (nI c) (nI sp) (sI dy) (sI dx) y (nI i) = _ ∧ _
        unfold b_X3_throwAt_46
        rw [if_neg (fun q => by rw [← hy] at q; have := (xwy hs hdx hdy (by omega)).mp q; omega), xcel M3 hc hdx hdy, Option.bind_some]
        obtain ⟨M4, h1, h2⟩ := xadd hM3 (by simp only [List.length_append, List.length_replicate]; omega) (celN c dx dy)
        refine ⟨(nI (i + 1), M4), by rw [h1, Option.bind_some, nI_1], rfl, ?_⟩
        rw [List.replicate_succ', ← List.append_assoc]
        exact h2
      · rintro ⟨x, M3⟩ ⟨rfl, hM3⟩
        show ∃ r, b_X3_throwAt_46 M3 (nI c) (nI sp) (sI dy) (sI dx) y (nI (wyN sp dx dy)) = _ ∧ _
        unfold b_X3_throwAt_46
        rw [if_pos (by rw [← hy]; exact (xwy hs hdx hdy (by omega)).mpr (Nat.le_refl _))]
        refine ⟨M3, rfl, ?_⟩
        rw [rowP_succ, ← List.append_assoc]
        exact hM3
    · rintro ⟨x, M2⟩ ⟨rfl, hM2⟩
      show ∃ r, b_X3_throwAt_17 M2 (nI c) (nI sp) (sI dy) (sI 5) = _ ∧ _
      unfold b_X3_throwAt_17
      rw [if_pos (by decide)]
      exact ⟨M2, rfl, by rw [wayP_succ]; exact hM2⟩
  · rintro ⟨x, M⟩ ⟨rfl, hM⟩
    show ∃ r, b_X3_throwAt_8 M (nI c) (nI sp) (sI 5) = _ ∧ _
    unfold b_X3_throwAt_8
    rw [if_pos (by decide)]
    exact ⟨M, rfl, hM⟩
theorem xlandAt {M0 M : Mem} {l : List Nat} (h : PX M0 M l) (hl : l.length ≤ 20) {i : Nat} (hi : i < l.length) : m_X3_landAt M (nI i) = some (cX (l.getD i 30)) := by
  obtain ⟨h1, h2, h3⟩ := h
  unfold m_X3_landAt
  rw [if_neg (nI_pos (by omega)), h1, if_neg (nI_ge hi (by omega)), if_neg (by rw [show (20 : Int32) = nI 20 from rfl]; exact nI_ge (by omega) (by omega)), chk_of (inB_nI (by omega) (by omega)), nI_clamp (by omega), h2 i hi]
/-- how many of the first i cells of a list are such -/
def cnt (p : Nat → Bool) (l : List Nat) (i : Nat) : Nat := (l.take i).countP p
theorem cnt_succ {p : Nat → Bool} {l : List Nat} {i : Nat} (h : i < l.length) : cnt p l (i + 1) = cnt p l i + (if p (l.getD i 30) = true then 1 else 0) := by
  unfold cnt
  rw [List.take_succ, List.countP_append, List.getElem?_eq_getElem h, List.getD_eq_getElem?_getD, List.getElem?_eq_getElem h]
  simp [List.countP_cons]
theorem cnt_le (p : Nat → Bool) (l : List Nat) (i : Nat) : cnt p l i ≤ i := by
  unfold cnt
  exact Nat.le_trans List.countP_le_length (by simp; omega)
theorem pkX_eq {p j : Nat} (hp : p < 2 ^ 30) (hj : j < 2 ^ 30) : pkX p = nI j ↔ p = j + 1 := by
  unfold pkX
  by_cases h : p = 0
  · rw [if_pos h]
    constructor
    · intro q
      have := congrArg Int32.toInt q
      rw [nI_toInt (by omega), show (-1 : Int32).toInt = -1 from rfl] at this
      omega
    · omega
  · rw [if_neg h, nI_eq (by omega) (by omega)]
    omega
theorem pkY_eq {p j : Nat} (hp : p < 2 ^ 30) (hj : j < 2 ^ 30) : pkY p = nI j ↔ p = j + 1 := by
  unfold pkY
  by_cases h : p = 0
  · rw [if_pos h]
    constructor
    · intro q
      have := congrArg Int32.toInt q
      rw [nI_toInt (by omega), show (-1000000 : Int32).toInt = -1000000 from rfl] at this
      omega
    · omega
  · rw [if_neg h, nI_eq (by omega) (by omega)]
    omega
theorem pick_le {S w : Nat → Nat} (h c : Nat) : pick S w h c ≤ S 3 := by
  unfold pick
  by_cases hc : c < 30 ∧ dry S c = true
  · rw [if_pos hc]
    have key : ∀ n, (bst (PW S w h c) n).1 ≤ n := by
      intro n
      induction n with
      | zero => exact Nat.le_refl _
      | succ n ih =>
        unfold bst
        by_cases q : (bst (PW S w h c) n).2 < PW S w h c n
        · rw [if_pos q]
          exact Nat.le_refl _
        · rw [if_neg q]
          omega
    exact key _
  · rw [if_neg hc]
    exact Nat.zero_le _
/-- by how many ways child j picks -/
def picksN (S w : Nat → Nat) (h j : Nat) (l : List Nat) : Nat := cnt (fun c => pick S w h c == j + 1) l l.length
theorem picksN_le (S w : Nat → Nat) (h j : Nat) (l : List Nat) : picksN S w h j l ≤ l.length := cnt_le _ _ _
theorem xcount {M0 M : Mem} {l : List Nat} {q : Nat} {S : Nat → Nat} (hP : PX M0 M l) (hl : l.length ≤ 20) (hq : kd q = 5) (hX : Sqx M q S) (hV : VS S) {j : Nat} (hj : j < 5) : m_X3_countPickedBy M q (nI j) = some (nI (picksN S (wh S) (S 1) j l)) := by
  unfold m_X3_countPickedBy
  have key := loopF_for (body := fun z => b_X3_countPickedBy_5 M q (nI j) z.1 z.2) l.length (fun i => (nI (cnt (fun c => pick S (wh S) (S 1) c == j + 1) l i), nI i)) (nI (picksN S (wh S) (S 1) j l)) FUEL (FUEL_lt (by omega)) ?_ ?_
  · have e0 : ((0 : Int32), (0 : Int32)) = (nI (cnt (fun c => pick S (wh S) (S 1) c == j + 1) l 0), nI 0) := by simp only [cnt, List.take_zero, List.countP_nil]; rfl
    rw [e0, key]
    rfl
  · intro i hi
    show b_X3_countPickedBy_5 M q (nI j) _ (nI i) = _
    unfold b_X3_countPickedBy_5
    have hp := pick_le (S := S) (w := wh S) (S 1) (l.getD i 30)
    have hn := hV.2.1
    rw [hP.1, if_neg (nI_ge hi (by omega)), xlandAt hP hl hi, Option.bind_some, xpicker hq hX hV, Option.bind_some]
    rw [cnt_succ hi]
    by_cases e : pick S (wh S) (S 1) (l.getD i 30) = j + 1
    · rw [if_pos ((pkX_eq (by omega) (by omega)).mpr e), nI_1, nI_1, if_pos (by simpa using e)]
    · rw [if_neg (fun z => e ((pkX_eq (by omega) (by omega)).mp z)), nI_1, if_neg (by simpa using e)]
      rfl
  · show b_X3_countPickedBy_5 M q (nI j) _ (nI l.length) = _
    unfold b_X3_countPickedBy_5
    rw [hP.1, if_pos (nI_le (Nat.le_refl _) (by omega))]
    rfl
