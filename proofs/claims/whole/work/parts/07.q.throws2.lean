/-! throwsFor agrees -/
/-- what the reference answers of a row of k cells, found at n -/
def dg (x : Int32) (k n : Nat) : Int32 := if x = -1 then nI k else if x < nI k then (if nI k - 1 - x = 0 then nI n % 30 else if nI k - 1 - x = 1 then (nI n / 30) % 30 else nI n / 900) else -1000000
theorem y_none {M : Mem} {x : Int32} {k : Nat} (h : m_X8_rowOf M (nI k) = some (gR none)) (hk : k ≤ 3) : b_X8_throwsFor_68 M x (nI k) = some (.inl (nI (k + 1))) := by
  unfold b_X8_throwsFor_68
  rw [if_neg (by rw [show (4 : Int32) = nI 4 from rfl]; exact nI_ge (by omega) (by omega)), h, Option.bind_some]
  show (if (-1000000 : Int32) = -1000000 then _ else _) = _
  rw [if_pos rfl, nI_1]
theorem y_found {M : Mem} {x : Int32} {k n : Nat} (h : m_X8_rowOf M (nI k) = some (gR (some n))) (hk : k ≤ 3) (hn : n < 27000) : b_X8_throwsFor_68 M x (nI k) = some (.inr (.inr (dg x k n, M))) := by
  unfold b_X8_throwsFor_68 dg
  have hne : ¬ nI n = -1000000 := by
    intro q
    have := congrArg Int32.toInt q
    rw [nI_toInt (by omega), show (-1000000 : Int32).toInt = -1000000 from rfl] at this
    omega
  rw [if_neg (by rw [show (4 : Int32) = nI 4 from rfl]; exact nI_ge (by omega) (by omega)), h, Option.bind_some]
  have eg : gR (some n) = nI n := rfl
  rw [eg, if_neg hne, nm_eq]
  by_cases c1 : x = -1
  · rw [if_pos c1, if_pos c1]
  · rw [if_neg c1, if_neg c1]
    by_cases c2 : x < nI k
    · rw [if_pos c2, if_pos c2]
      by_cases c3 : nI k - 1 - x = 0
      · rw [if_pos c3, if_pos c3]
      · rw [if_neg c3, if_neg c3]
        by_cases c4 : nI k - 1 - x = 1
        · rw [if_pos c4, if_pos c4]
        · rw [if_neg c4, if_neg c4]
    · rw [if_neg c2, if_neg c2]
def XT (y4 : Int32) (M : Mem) (x2 : Int32) : Option (Int32 × Mem) := if y4 = (-1000000) then (some ((y4, M))) else (if x2 = (-1) then (some ((y4, M))) else (if x2 < 0 then (some (((-1000000), M))) else (if y4 ≤ x2 then (some (((-1000000), M))) else (if 3 ≤ x2 then (some (((-1000000), M))) else (chk (inB x2 3) (some ((M 201 x2.toNatClampNeg, M))))))))
theorem XT_k {M : Mem} {x : Int32} {k n : Nat} (hk : k ≤ 3) (hx : -1 ≤ x) (h : ∀ j, j < k → M 201 j = dg (nI j) k n) : XT (nI k) M x = some (dg x k n, M) := by
  unfold XT
  have hne : ¬ nI k = -1000000 := by
    intro q
    have := congrArg Int32.toInt q
    rw [nI_toInt (by omega), show (-1000000 : Int32).toInt = -1000000 from rfl] at this
    omega
  rw [if_neg hne]
  by_cases c1 : x = -1
  · rw [if_pos c1]
    unfold dg
    rw [if_pos c1]
  · rw [if_neg c1]
    have hx0 : ¬ x < 0 := by
      intro q
      have h1 := i32_le.mp hx
      have h2 := i32_lt.mp q
      rw [show (-1 : Int32).toInt = -1 from rfl] at h1
      rw [show (0 : Int32).toInt = 0 from rfl] at h2
      exact c1 (by rw [i32_eq, show (-1 : Int32).toInt = -1 from rfl]; omega)
    rw [if_neg hx0]
    obtain ⟨j, hj, rfl⟩ := nI_of hx0
    by_cases c2 : j < k
    · rw [if_neg (nI_ge c2 (by omega)), if_neg (by rw [show (3 : Int32) = nI 3 from rfl]; exact nI_ge (by omega) (by omega)), chk_of (inB_nI (by omega) (by omega)), nI_clamp (by omega), h j c2]
    · rw [if_pos (nI_le (by omega) (by omega))]
      unfold dg
      rw [if_neg c1, if_neg (nI_nlt (by omega) (by omega))]
def ZS (M M' : Mem) : Prop := (∀ a, a ≠ 247 → a ≠ 234 → a ≠ 248 → M' a = M a) ∧ ∀ j, j ≠ 24 → M' 234 j = M 234 j
theorem ZS.eqI {M M' : Mem} (h : ZS M M') : EqI M M' := ⟨fun a ha => h.1 a (fun q => ha (by unfold scr; omega)) (fun q => ha (by unfold scr; omega)) (fun q => ha (by unfold scr; omega)), congrFun (h.1 2 (by decide) (by decide) (by decide)) 1, h.2 0 (by decide), h.2 5 (by decide), h.2 6 (by decide), h.2 10 (by decide), h.2 14 (by decide)⟩
theorem ysets {M : Mem} {S : Nat → Nat} {s : Nat} (x2 : Int32) (hV : VS S) (hK : PKS M S) (hs : s < 3) : ∃ M', loopF (fun z => b_X8_throwsFor_42 z.2 (nI s) x2 z.1) FUEL (0, M) = some M' ∧ ZS M M' ∧ ySets M' (fun c => srvL S c s) := by
  have key := loopF_rel (body := fun z => b_X8_throwsFor_42 z.2 (nI s) x2 z.1) 30 (fun i z => z.1 = nI i ∧ ZS M z.2 ∧ ∀ k, k < i → z.2 248 k = nI (srvL S k s)) (fun M' => ZS M M' ∧ ySets M' (fun c => srvL S c s)) ?_ ?_ (fuel := FUEL) (FUEL_lt (by omega)) (s := (0, M)) ⟨rfl, ⟨fun _ _ _ _ => rfl, fun _ _ => rfl⟩, fun k hk => absurd hk (by omega)⟩
  · exact key
  · rintro i ⟨x, M2⟩ hi ⟨rfl, h1, h2⟩
    dsimp only at h1 h2
    show ∃ s', b_X8_throwsFor_42 M2 (nI s) x2 (nI i) = _ ∧ _
    unfold b_X8_throwsFor_42
    obtain ⟨M3, y1, y2⟩ := yserved (M := M2) (c := i) hV (fun c hc => by rw [h1.1 246 (by decide) (by decide) (by decide)]; exact hK c hc) hi hs
    rw [if_neg (by rw [show (30 : Int32) = nI 30 from rfl]; exact nI_ge hi (by omega)), y1, Option.bind_some, chk_of (inB_nI hi (by omega)), nm_eq, nI_clamp (by omega), nI_1]
    refine ⟨_, rfl, rfl, ⟨fun a a1 a2 a3 => ?_, fun j hj => ?_⟩, fun k hk => ?_⟩
    · dsimp only
      rw [mset_ne _ _ _ a3, y2.1 a a1 a2, h1.1 a a1 a2 a3]
    · dsimp only
      rw [mset_ne _ _ _ (by decide), y2.2 j hj, h1.2 j hj]
    · dsimp only
      rw [mset_self, upd_at]
      by_cases e : k = i
      · rw [if_pos e, e]
      · rw [if_neg e, y2.1 248 (by decide) (by decide), h2 k (by omega)]
  · rintro ⟨x, M2⟩ ⟨rfl, h1, h2⟩
    show ∃ r, b_X8_throwsFor_42 M2 (nI s) x2 (nI 30) = _ ∧ _
    unfold b_X8_throwsFor_42
    rw [if_pos (by decide)]
    exact ⟨M2, rfl, h1, fun k hk => ⟨h2 k hk, srv_lt hV.2.1 _ _⟩⟩
theorem ythrows_end {M : Mem} {x : Int32} (h : ∀ k, k ≤ 3 → m_X8_rowOf M (nI k) = some (gR none)) : loopF (fun z => b_X8_throwsFor_68 M x z) FUEL 0 = some (.inl ()) := by
  show loopF (fun z => b_X8_throwsFor_68 M x z) (99995 + 1 + 1 + 1 + 1 + 1) (nI 0) = _
  rw [loopF_step (body := fun z => b_X8_throwsFor_68 M x z) (y_none (h 0 (by omega)) (by omega)), loopF_step (body := fun z => b_X8_throwsFor_68 M x z) (y_none (h 1 (by omega)) (by omega)), loopF_step (body := fun z => b_X8_throwsFor_68 M x z) (y_none (h 2 (by omega)) (by omega)), loopF_step (body := fun z => b_X8_throwsFor_68 M x z) (y_none (h 3 (by omega)) (by omega))]
  refine loopF_out (body := fun z => b_X8_throwsFor_68 M x z) ?_
  show b_X8_throwsFor_68 M x (nI 4) = _
  unfold b_X8_throwsFor_68
  rw [if_pos (by decide)]
theorem ythrows_at {M : Mem} {x : Int32} {k n : Nat} (hk : k ≤ 3) (hn : n < 27000) (h : ∀ j, j < k → m_X8_rowOf M (nI j) = some (gR none)) (h2 : m_X8_rowOf M (nI k) = some (gR (some n))) : loopF (fun z => b_X8_throwsFor_68 M x z) FUEL 0 = some (.inr (dg x k n, M)) := by
  have key : ∀ d j f, j + d = k → d < f → loopF (fun z => b_X8_throwsFor_68 M x z) f (nI j) = some (.inr (dg x k n, M)) := by
    intro d
    induction d with
    | zero =>
      intro j f h3 h4
      obtain ⟨g, rfl⟩ : ∃ g, f = g + 1 := ⟨f - 1, by omega⟩
      have : j = k := by omega
      subst this
      exact loopF_out (body := fun z => b_X8_throwsFor_68 M x z) (y_found h2 hk hn)
    | succ d ih =>
      intro j f h3 h4
      obtain ⟨g, rfl⟩ : ∃ g, f = g + 1 := ⟨f - 1, by omega⟩
      rw [loopF_step (body := fun z => b_X8_throwsFor_68 M x z) (y_none (h j (by omega)) (by omega))]
      exact ih (j + 1) g (by omega) (by omega)
  exact key k 0 FUEL (by omega) (FUEL_lt (by omega))
/-- both sides' answer -/
theorem throws_core {M1 M8 : Mem} {P : Nat → Nat} {S : Nat → Nat} {x : Int32} (hx : -1 ≤ x) (hP : PLS M1 P) (hQ : ySets M8 P) (hY : Sqm (M8 239) S) (hV : VS S) : ∃ r M3, (m_X7_fewestThrows M1 (nI (2 ^ S 3 - 1))).bind (fun r3 => XT r3.1 r3.2 x) = some (r, M3) ∧ (∀ a, a ≠ 201 → M3 a = M1 a) ∧ (loopF (fun z => b_X8_throwsFor_68 M8 x z) FUEL 0).bind (fun z11 => sumC z11 (fun z12 => some (((-1000000 : Int32), M8))) (fun z => some z)) = some (r, M8) := by
  have hn := hV.2.1
  have h2n : 2 ^ S 3 ≤ 2 ^ 5 := Nat.pow_le_pow_right (by omega) hn
  have yr : ∀ k, k ≤ 3 → m_X8_rowOf M8 (nI k) = some (gR (fnd (q3 P k (2 ^ S 3 - 1)) (30 ^ k) 0)) := fun k hk => y_row hQ hY hV hk
  generalize hA : 2 ^ S 3 - 1 = all at *
  have hall5 : all < 2 ^ 5 := by omega
  have y0 := yr 0 (by omega)
  have y1 := yr 1 (by omega)
  have y2 := yr 2 (by omega)
  have y3 := yr 3 (by omega)
  have c0 : all = 0 → fnd (q3 P 0 all) (30 ^ 0) 0 = some 0 := by
    intro e
    refine fnd_is (Nat.le_refl _) (by decide) ?_ fun d h1 h2 => absurd h2 (by omega)
    unfold q3
    rw [e, if_pos rfl, if_pos (by decide), if_pos (by decide)]
    rfl
  have c0' : all ≠ 0 → fnd (q3 P 0 all) (30 ^ 0) 0 = none := by
    intro e
    refine fnd_no fun d h1 h2 => ?_
    unfold q3
    rw [if_pos rfl, if_pos (by decide), if_pos (by decide)]
    exact decide_eq_false fun q => e q.symm
  unfold m_X7_fewestThrows
  by_cases ha : all = 0
  · rw [c0 ha] at y0
    rw [if_pos (by rw [ha]; rfl), Option.bind_some]
    have hxt := XT_k (M := M1) (x := x) (k := 0) (n := 0) (by omega) hx (fun j hj => absurd hj (by omega))
    refine ⟨_, M1, hxt, fun _ _ => rfl, ?_⟩
    rw [ythrows_at (k := 0) (n := 0) (by omega) (by omega) (fun j hj => absurd hj (by omega)) y0]
    rfl
  · rw [c0' ha] at y0
    rw [if_neg (nI_ne0 (by omega) (by omega))]
    have x1 := x_one hP (pl := 0) (a := 0) (al := 0) (all := all) (by omega) (by omega) (by omega) hall5
    have x1' : m_X7_chooseOne M1 0 0 0 (nI all) = _ := x1
    have e1 : fnd (q3 P 1 all) (30 ^ 1) 0 = f1F P all 0 0 := row1 P all
    rw [e1] at y1
    rw [x1', Option.bind_some]
    cases h1 : f1F P all 0 0 with
    | some c =>
      rw [h1] at y1
      show ∃ r M3, (if (1 : Int32) = 0 then _ else _ : Option (Int32 × Mem)).bind _ = _ ∧ _
      rw [if_neg n10, Option.bind_some]
      have hc := fnd_some h1
      have hxt := XT_k (M := mset M1 201 0 (nI c)) (x := x) (k := 1) (n := c) (by omega) hx (fun j hj => by
        have : j = 0 := by omega
        subst this
        rw [mset_self, upd_at, if_pos rfl]
        unfold dg
        rw [if_neg (by decide), if_pos (by decide), if_pos (by decide), show (30 : Int32) = nI 30 from rfl, nI_rem (by omega) (by omega) (by omega), Nat.mod_eq_of_lt (by omega)])
      refine ⟨_, _, hxt, fun a ha => mset_ne _ _ _ ha, ?_⟩
      rw [ythrows_at (k := 1) (n := c) (by omega) (by omega) (fun j hj => by
        have : j = 0 := by omega
        subst this
        exact y0) y1]
      rfl
    | none =>
      rw [h1] at y1
      show ∃ r M3, (if (0 : Int32) = 0 then _ else _ : Option (Int32 × Mem)).bind _ = _ ∧ _
      rw [if_pos rfl]
      have x2 := x_two hP (pl := 0) (a := 0) (al := 0) (all := all) (by omega) (by omega) (by omega) hall5
      have x2' : m_X7_chooseTwo M1 0 0 0 (nI all) = _ := x2
      have r2 := row2 h1
      show ∃ r M3, ((m_X7_chooseTwo M1 0 0 0 (nI all)).bind _ : Option (Int32 × Mem)).bind _ = _ ∧ _
      rw [x2', Option.bind_some]
      have y2' : m_X8_rowOf M8 (nI 2) = some (gR (fnd (q3 P 2 all) 900 0)) := y2
      cases h2 : fnd (q3 P 2 all) 900 0 with
      | some m =>
        rw [h2] at y2' r2
        obtain ⟨m1, m2, m3⟩ := r2
        rw [m2]
        show ∃ r M3, (if (1 : Int32) = 0 then _ else _ : Option (Int32 × Mem)).bind _ = _ ∧ _
        rw [if_neg n10, Option.bind_some]
        have hxt := XT_k (M := mset (mset M1 201 (0 + 1) (nI ((f1F P all (0 ||| P (m / 30)) (m / 30 + 1)).getD 0))) 201 0 (nI (m / 30))) (x := x) (k := 2) (n := m) (by omega) hx (fun j hj => by
          rw [m3]
          have hj2 : j = 0 ∨ j = 1 := by omega
          rcases hj2 with rfl | rfl
          · rw [mset_self, upd_at, if_pos rfl]
            unfold dg
            rw [if_neg (by decide), if_pos (by decide), if_neg (by decide), if_pos (by decide), show (30 : Int32) = nI 30 from rfl, pk_div (by omega) (by omega) (by omega), nI_rem (by omega) (by omega) (by omega), Nat.mod_eq_of_lt (by omega)]
          · rw [mset_self, upd_at, if_neg (by decide), mset_self, upd_at, if_pos rfl]
            unfold dg
            rw [if_neg (by decide), if_pos (by decide), if_pos (by decide), show (30 : Int32) = nI 30 from rfl, nI_rem (by omega) (by omega) (by omega)]
            rfl)
        refine ⟨_, _, hxt, fun a ha => by rw [mset_ne _ _ _ ha, mset_ne _ _ _ ha], ?_⟩
        rw [ythrows_at (k := 2) (n := m) (by omega) (by omega) (fun j hj => by
          have hj2 : j = 0 ∨ j = 1 := by omega
          rcases hj2 with rfl | rfl
          · exact y0
          · exact y1) y2']
        rfl
      | none =>
        rw [h2] at y2' r2
        have r2' : f2F P all 0 0 = none := r2
        rw [r2']
        show ∃ r M3, (if (0 : Int32) = 0 then _ else _ : Option (Int32 × Mem)).bind _ = _ ∧ _
        rw [if_pos rfl]
        have x3 := x_three hP (all := all) hall5
        have r3 := row3 h1 r2'
        show ∃ r M3, ((m_X7_chooseThree M1 (nI all)).bind _ : Option (Int32 × Mem)).bind _ = _ ∧ _
        rw [x3, Option.bind_some]
        have y3' : m_X8_rowOf M8 (nI 3) = some (gR (fnd (q3 P 3 all) 27000 0)) := y3
        cases h3 : fnd (q3 P 3 all) 27000 0 with
        | some m =>
          rw [h3] at y3' r3
          obtain ⟨m1, m2, m3, m4⟩ := r3
          rw [m2]
          show ∃ r M3, (if (1 : Int32) = 0 then _ else _ : Option (Int32 × Mem)).bind _ = _ ∧ _
          rw [if_neg n10, Option.bind_some]
          dsimp only [fR]
          rw [m3]
          dsimp only [Option.getD_some]
          rw [m4]
          dsimp only [Option.getD_some]
          have hxt := XT_k (M := mset (mset (mset M1 201 2 (nI (m % 30))) 201 1 (nI (m / 30 % 30))) 201 0 (nI (m / 900))) (x := x) (k := 3) (n := m) (by omega) hx (fun j hj => by
            have hj2 : j = 0 ∨ j = 1 ∨ j = 2 := by omega
            rcases hj2 with rfl | rfl | rfl
            · rw [mset_self, upd_at, if_pos rfl]
              unfold dg
              rw [if_neg (by decide), if_pos (by decide), if_neg (by decide), if_neg (by decide), show (900 : Int32) = nI 900 from rfl, pk_div (by omega) (by omega) (by omega)]
            · rw [mset_self, upd_at, if_neg (by decide), mset_self, upd_at, if_pos rfl]
              unfold dg
              rw [if_neg (by decide), if_pos (by decide), if_neg (by decide), if_pos (by decide), show (30 : Int32) = nI 30 from rfl, pk_div (by omega) (by omega) (by omega), nI_rem (by omega) (by omega) (by omega)]
            · rw [mset_self, upd_at, if_neg (by decide), mset_self, upd_at, if_neg (by decide), mset_self, upd_at, if_pos rfl]
              unfold dg
              rw [if_neg (by decide), if_pos (by decide), if_pos (by decide), show (30 : Int32) = nI 30 from rfl, nI_rem (by omega) (by omega) (by omega)])
          refine ⟨_, _, hxt, fun a ha => by rw [mset_ne _ _ _ ha, mset_ne _ _ _ ha, mset_ne _ _ _ ha], ?_⟩
          rw [ythrows_at (k := 3) (n := m) (by omega) (by omega) (fun j hj => by
            have hj2 : j = 0 ∨ j = 1 ∨ j = 2 := by omega
            rcases hj2 with rfl | rfl | rfl
            · exact y0
            · exact y1
            · exact y2') y3']
          rfl
        | none =>
          rw [h3] at y3' r3
          have r3' : f3F P all = none := r3
          rw [r3']
          show ∃ r M3, (if (0 : Int32) = 0 then _ else _ : Option (Int32 × Mem)).bind _ = _ ∧ _
          rw [if_pos rfl, Option.bind_some]
          refine ⟨-1000000, M1, rfl, fun _ _ => rfl, ?_⟩
          rw [ythrows_end (fun k hk => by
            have hj2 : k = 0 ∨ k = 1 ∨ k = 2 ∨ k = 3 := by omega
            rcases hj2 with rfl | rfl | rfl | rfl
            · exact y0
            · exact y1
            · exact y2'
            · exact y3')]
          rfl
theorem ag_throwsFor {M : Mem} (h : Inv M) (a b : Int32) : AgWW (m_X7_throwsFor M a b) (fun M1 => m_X8_throwsFor M1 a b) := by
  obtain ⟨S, hS⟩ := h.2.2.1
  have hV := hS.2.2.1
  have hn := hV.2.1
  have i0 : (0 : Int32).toNatClampNeg = 0 := rfl
  unfold m_X7_throwsFor m_X8_throwsFor
  rw [hS.1.1]
  by_cases h0 : nI (S 0) = 0
  · rw [if_pos h0]
    refine ww_same h (r := -1000002) rfl ?_
    rw [chk_of (by decide), i0, hS.2.1.1, if_pos h0]
  · rw [if_neg h0]
    rcases gspread M M a with ⟨s, hs, rfl, g1, g2⟩ | ⟨g1, g2⟩
    · rw [g1, Option.bind_some, if_neg n10]
      by_cases hx : -1 ≤ b
      · rw [if_pos hx]
        obtain ⟨M1, p1, p2, p3⟩ := xpleased hS.1 hV hs
        have e1 : EqI M M1 := eqI_of (fun a _ h2 h3 h4 => p2 a h2 h3 (by omega))
        have hS1 := e1.sq hS
        rw [p1, Option.bind_some, hS1.1.2.2.2.1]
        have h2n : 2 ^ S 3 ≤ 2 ^ 5 := Nat.pow_le_pow_right (by omega) hn
        have hall : (1 <<< (nI (S 3) &&& 31)) - 1 = nI (2 ^ S 3 - 1) := by
          rw [sl_1 _ (by omega), show (1 : Int32) = nI 1 from rfl, pk_sub (Nat.two_pow_pos _)]
        rw [hall]
        -- the reference, from any memory that tells the same
        have ref : ∀ M3, EqI M1 M3 → ∃ M8, (∀ R, (loopF (fun z => b_X8_throwsFor_68 M8 b z) FUEL 0).bind (fun z11 => sumC z11 (fun z12 => some (((-1000000 : Int32), M8))) (fun z => some z)) = R → m_X8_throwsFor M3 (nI s) b = R) ∧ EqI M3 M8 ∧ ySets M8 (fun c => srvL S c s) ∧ Sqm (M8 239) S := by
          intro M3 e3
          have hS3 := e3.sq hS1
          obtain ⟨M4, l1, l2, l3, l4⟩ := ylays hS3.2.1 hV
          have hS4 := l2.sq hS3
          obtain ⟨M5, k1, k2, k3⟩ := ylaysPicks hS4.2.1 hV l4
          have hS5 := (eqI_246 k2).sq hS4
          obtain ⟨M8, z1, z2, z3⟩ := ysets b hV k3 hs
          have g2' : m_X8_in M3 (nI s).toInt64 0 2 = some 1 := by
            rcases gspread M M3 (nI s) with ⟨_, -, -, -, z⟩ | ⟨z, -⟩
            · exact z
            · rw [g1] at z; exact absurd z (by decide)
          refine ⟨M8, fun R hR => ?_, l2.trans ((eqI_246 k2).trans z2.eqI), z3, (z2.eqI.sq hS5).2.1⟩
          unfold m_X8_throwsFor
          rw [chk_of (by decide), i0, hS3.2.1.1, if_neg h0, g2', Option.bind_some, if_neg n10, if_pos hx, l1, Option.bind_some, k1, Option.bind_some, z1, Option.bind_some]
          exact hR
        have hP : PLS M1 (fun c => srvL S c s) := fun k hk => ⟨p3 k hk, srv_lt hn _ _⟩
        obtain ⟨M8a, -, -, q3a, q4a⟩ := ref M1 (EqI.refl _)
        obtain ⟨r, M3, c1, c2, -⟩ := throws_core hx hP q3a q4a hV
        have e3 : EqI M1 M3 := eqI_of (fun a _ _ _ h4 => c2 a (by omega))
        obtain ⟨M8, q1, q2, q3, q4⟩ := ref M3 e3
        obtain ⟨r', M3', c1', c2', c3'⟩ := throws_core hx hP q3 q4 hV
        rw [c1] at c1'
        have hr := Option.some.inj c1'
        have hr1 : r = r' := congrArg Prod.fst hr
        have hr2 : M3 = M3' := congrArg Prod.snd hr
        refine ww_q h (r := r) (M1 := M3) (M2 := M8) c1 (e1.trans e3) (q1 _ ?_) q2
        rw [hr1]
        exact c3'
      · rw [if_neg hx]
        refine ww_same h (r := -1000001) rfl ?_
        rw [chk_of (by decide), i0, hS.2.1.1, if_neg h0, g2, Option.bind_some, if_neg n10, if_neg hx]
    · rw [g1]
      refine ww_same h (r := -1000001) rfl ?_
      rw [chk_of (by decide), i0, hS.2.1.1, if_neg h0, g2]; rfl
