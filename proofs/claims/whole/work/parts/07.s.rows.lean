/-! ## rows -/
theorem kd_row : ∀ r, r < 8 → kdB (204 + 2 * r) 4 = true := by decide +kernel
theorem al_row : ∀ r, r < 8 → alen (204 + 2 * r + 1) = 40 := by decide +kernel
theorem grow (M M' : Mem) (x : Int32) : (∃ r, r < 8 ∧ x = nI r ∧ m_X7_rowAt M x = some (some (204 + 2 * r)) ∧ m_X8_in M' x.toInt64 0 7 = some 1) ∨ (m_X7_rowAt M x = some none ∧ m_X8_in M' x.toInt64 0 7 = some 0) := by
  rcases gin M' x 0 7 0 7 rfl rfl with ⟨h1, h2, h3⟩ | ⟨h1, h3⟩
  · left
    obtain ⟨r, hr, rfl⟩ := inN_nI (x := x) (N := 8) ⟨h1, by omega⟩
    refine ⟨r, hr, rfl, ?_, h3⟩
    unfold m_X7_rowAt
    rw [if_neg (nI_pos (by omega)), if_neg (by rw [show (8 : Int32) = nI 8 from rfl]; exact nI_ge hr (by omega)), chk_of (inB_nI hr (by omega)), nI_clamp (by omega)]
  · right
    refine ⟨?_, h3⟩
    unfold m_X7_rowAt
    by_cases q1 : x < 0
    · rw [if_pos q1]
    · rw [if_neg q1, if_pos]
      have a : ¬ x.toInt < (0 : Int32).toInt := fun q => q1 (i32_lt.mpr q)
      rw [i32_le]
      rw [show (0 : Int32).toInt = 0 from rfl] at a
      rw [show (8 : Int32).toInt = 8 from rfl]
      omega
/-- nothing but scratch, the rows, and what status tells has changed -/
def EqR (M M' : Mem) : Prop := (∀ a, ¬ scr a → a ≠ 0 → ¬ (204 ≤ a ∧ a < 220) → ¬ (235 ≤ a ∧ a ≤ 237) → M' a = M a) ∧ M' 2 1 = M 2 1 ∧ M' 0 13 = M 0 13 ∧ M' 234 5 = M 234 5 ∧ M' 234 6 = M 234 6 ∧ M' 234 10 = M 234 10 ∧ M' 234 14 = M 234 14
theorem EqR.refl (M : Mem) : EqR M M := ⟨fun _ _ _ _ _ => rfl, rfl, rfl, rfl, rfl, rfl, rfl⟩
theorem EqR.trans {A B C : Mem} (h1 : EqR A B) (h2 : EqR B C) : EqR A C := by
  obtain ⟨a1, a2, a3, a4, a5, a6, a7⟩ := h1
  obtain ⟨b1, b2, b3, b4, b5, b6, b7⟩ := h2
  exact ⟨fun a h i j k => (b1 a h i j k).trans (a1 a h i j k), b2.trans a2, b3.trans a3, b4.trans a4, b5.trans a5, b6.trans a6, b7.trans a7⟩
theorem EqI.r {A B : Mem} (h : EqI A B) : EqR A B := by
  obtain ⟨a1, a2, a3, a4, a5, a6, a7⟩ := h
  exact ⟨fun a h _ _ _ => a1 a h, a2, congrFun (a1 0 (by unfold scr; omega)) _, a4, a5, a6, a7⟩
theorem eqR_set (M : Mem) {q : Nat} (j : Nat) (v : Int32) (h : (q = 0 ∧ j = 14) ∨ (q = 234 ∧ j = 0) ∨ (204 ≤ q ∧ q < 220) ∨ (235 ≤ q ∧ q ≤ 237)) : EqR M (mset M q j v) := by
  have k : ∀ a i, ¬ (a = q ∧ i = j) → mset M q j v a i = M a i := by
    intro a i hne
    by_cases e : a = q
    · rw [e, mset_self, upd_at, if_neg (fun z => hne ⟨e, z⟩)]
    · rw [mset_ne _ _ _ e]
  exact ⟨fun a h1 h2 h3 h4 => mset_ne _ _ _ (by rcases h with ⟨h, -⟩ | ⟨h, -⟩ | h | h <;> first | omega | (intro z; subst z; subst h; exact h1 (by unfold scr; omega))), k _ _ (by omega), k _ _ (by omega), k _ _ (by omega), k _ _ (by omega), k _ _ (by omega), k _ _ (by omega)⟩
theorem inv_R {M M' : Mem} (h : Inv M) (e : EqR M M') (hR : RowsI M') (hs : M' 0 14 = M' 234 0) : Inv M' := by
  obtain ⟨h1, h2, ⟨S, h3⟩, h4, h5, h6, h7⟩ := h
  obtain ⟨s, e2, e3, e4, e5, e6, e7⟩ := e
  exact ⟨hR, h2.eq e2 e4 (s _ (by unfold scr; omega) (by omega) (by omega) (by omega)) (s _ (by unfold scr; omega) (by omega) (by omega) (by omega)),
    ⟨S, h3.eq (fun a ha hb => s a (by unfold scr; omega) (by omega) (by omega) (by omega)) (s _ (by unfold scr; omega) (by omega) (by omega) (by omega))⟩,
    h4.eq (s _ (by unfold scr; omega) (by omega) (by omega) (by omega)) e6 (s _ (by unfold scr; omega) (by omega) (by omega) (by omega)) (fun a ha hb => s a (by unfold scr; omega) (by omega) (by omega) (by omega)) (s _ (by unfold scr; omega) (by omega) (by omega) (by omega)),
    h5.eq (fun a ha hb => s a (by unfold scr; omega) (by omega) (by omega) (by omega)) (s _ (by unfold scr; omega) (by omega) (by omega) (by omega)) (s _ (by unfold scr; omega) (by omega) (by omega) (by omega)),
    h6.eq (s _ (by unfold scr; omega) (by omega) (by omega) (by omega)) e7 (s _ (by unfold scr; omega) (by omega) (by omega) (by omega)) (s _ (by unfold scr; omega) (by omega) (by omega) (by omega)),
    hs, by rw [e3, e5]; exact h7.2⟩
theorem RowsI.set {M : Mem} (h : RowsI M) {q : Nat} (j : Nat) (v : Int32) (hq : q = 0 ∨ q = 234) : RowsI (mset M q j v) := h.eq (fun r hr => mset_ne _ _ _ (by omega)) (mset_ne _ _ _ (by omega)) (mset_ne _ _ _ (by omega)) (mset_ne _ _ _ (by omega))
/-- a finding -/
theorem ag_found {M : Mem} (h : Inv M) {x : Option (Int32 × Mem)} {y : Mem → Option (Int32 × Mem)} (v : Int32) (hx : x = (m_X7_found M v).bind fun r => some ((r.1, r.2))) (hy : y (mset M 0 14 v) = (m_X8_finds (mset M 0 14 v) v).bind fun r => some ((r.1, r.2))) : AgWW x y := by
  refine ⟨(-1000010) - v, mset M 0 14 v, mset (mset M 0 14 v) 234 0 v, by rw [hx]; rfl, by rw [hy]; rfl, ?_⟩
  refine inv_R h ((eqR_set M 14 v (by omega)).trans (eqR_set _ 0 v (by omega))) ((h.1.set 14 v (by omega)).set 0 v (by omega)) ?_
  rw [mset_ne _ _ _ (by decide), mset_self, upd_at, if_pos rfl, mset_self, upd_at, if_pos rfl]
theorem lane_m (M : Mem) : ¬ ((0 : Int32) ≤ -1) := by decide
theorem mset_at0 (M : Mem) (v : Int32) {a : Nat} (h : a ≠ 0) : mset M 0 14 v a = M a := mset_ne _ _ _ h
theorem ag_drop {M : Mem} (h : Inv M) (a : Int32) : AgWW (m_X7_drop M a) (fun M1 => m_X8_drop M1 a) := by
  unfold m_X7_drop m_X8_drop
  rcases grow M M a with ⟨r, hr, rfl, h1, h2⟩ | ⟨h1, h2⟩
  · rw [h1, Option.bind_some]
    show AgWW (chk _ _) _
    have yin : ∀ M', m_X8_in M' (nI r).toInt64 0 7 = some 1 := fun M' => by
      rcases grow M M' (nI r) with ⟨_, -, -, -, z⟩ | ⟨z, -⟩
      · exact z
      · rw [h1] at z; exact absurd z (by simp)
    rw [chk_of (kd_row r hr)]
    unfold m_X4_isMissing
    rcases h.1 r hr with ⟨r1, r2⟩ | ⟨n, t, n1, n2, n3, n4, n5, n6, n7⟩
    · rw [r1, if_pos rfl, Option.bind_some, if_neg n10]
      refine ag_found h 1 rfl ?_
      rw [yin, Option.bind_some, if_neg n10, chk_of (inB_nI hr (by omega)), nI_clamp (by omega), mset_at0 _ _ (by decide), r2, if_neg (by decide)]
    · have hne : ¬ nI n = -1 := by
        intro q
        have := congrArg Int32.toInt q
        rw [nI_toInt (by omega), show (-1 : Int32).toInt = -1 from rfl] at this
        omega
      rw [n3, if_neg hne, Option.bind_some, if_pos rfl, nm_eq, nm_eq]
      refine ⟨nI n, _, mset (mset (mset (mset M (204 + 2 * r) 2 (-1)) 0 14 0) 235 r (-1)) 234 0 0, rfl, ?_, ?_⟩
      · dsimp only
        rw [yin, Option.bind_some, if_neg n10, chk_of (inB_nI hr (by omega)), nI_clamp (by omega), mset_at0 _ _ (by decide), mset_ne _ _ _ (by omega), n6, if_pos (nI_pos' (by omega)), chk_of (inB_nI hr (by omega)), nm_eq, chk_of (inB_nI hr (by omega)), mset_ne _ _ _ (by decide), mset_at0 _ _ (by decide), mset_ne _ _ _ (by omega), n4]
        rfl
      · refine inv_R h (((eqR_set M _ _ (by omega)).trans (eqR_set _ _ _ (by omega))).trans ((eqR_set _ _ _ (by omega)).trans (eqR_set _ _ _ (by omega)))) ?_ ?_
        · refine RowsI.set ?_ _ _ (by omega)
          intro r' hr'
          by_cases e : r' = r
          · left
            subst e
            rw [mset_ne _ _ _ (by omega), mset_ne _ _ _ (by omega), mset_self, upd_at, if_pos rfl, mset_self, upd_at, if_pos rfl]
            exact ⟨rfl, rfl⟩
          · rcases h.1 r' hr' with ⟨k1, k2⟩ | ⟨n', t', k⟩
            · left
              rw [mset_ne _ _ _ (by omega), mset_ne _ _ _ (by omega), mset_ne _ _ _ (by omega), mset_self, upd_at, if_neg e, mset_ne _ _ _ (by omega), mset_ne _ _ _ (by omega)]
              exact ⟨k1, k2⟩
            · right
              refine ⟨n', t', ?_⟩
              have f1 : ∀ q, 204 ≤ q → q ≠ 235 → q ≠ 204 + 2 * r → mset (mset (mset M (204 + 2 * r) 2 (-1)) 0 14 0) 235 r (-1) q = M q := fun q _ _ _ => by rw [mset_ne _ _ _ (by omega), mset_ne _ _ _ (by omega), mset_ne _ _ _ (by omega)]
              rw [f1 (204 + 2 * r') (by omega) (by omega) (by omega), f1 (204 + 2 * r' + 1) (by omega) (by omega) (by omega), f1 236 (by omega) (by omega) (by omega), f1 237 (by omega) (by omega) (by omega), mset_self, upd_at, if_neg e, mset_ne _ _ _ (by omega), mset_ne _ _ _ (by omega)]
              exact k
        · rw [mset_ne _ _ _ (by decide), mset_ne _ _ _ (by decide), mset_self, upd_at, if_pos rfl, mset_self, upd_at, if_pos rfl]
  · refine ww_same h (r := -1000001) (by rw [h1]; rfl) (by rw [h2]; rfl)
theorem yzero {M : Mem} {r : Nat} (hr : r < 8) (x3 : Int32) : ∃ M', loopF (fun z => b_X8_row_60 z.2 (nI r) x3 z.1) FUEL (0, M) = some M' ∧ (∀ a, a ≠ 237 → M' a = M a) ∧ (∀ k, k < 40 → M' 237 (40 * r + k) = 0) ∧ ∀ e, (e < 40 * r ∨ 40 * r + 40 ≤ e) → M' 237 e = M 237 e := by
  have key := loopF_rel (body := fun z => b_X8_row_60 z.2 (nI r) x3 z.1) 40 (fun i z => z.1 = nI i ∧ (∀ a, a ≠ 237 → z.2 a = M a) ∧ (∀ k, k < i → z.2 237 (40 * r + k) = 0) ∧ ∀ e, (e < 40 * r ∨ 40 * r + 40 ≤ e) → z.2 237 e = M 237 e) (fun M' => (∀ a, a ≠ 237 → M' a = M a) ∧ (∀ k, k < 40 → M' 237 (40 * r + k) = 0) ∧ ∀ e, (e < 40 * r ∨ 40 * r + 40 ≤ e) → M' 237 e = M 237 e) ?_ ?_ (fuel := FUEL) (FUEL_lt (by omega)) (s := (0, M)) ⟨rfl, fun _ _ => rfl, fun k hk => absurd hk (by omega), fun _ _ => rfl⟩
  · exact key
  · rintro i ⟨x, M2⟩ hi ⟨rfl, h1, h2, h3⟩
    dsimp only at h1 h2 h3
    show ∃ s', b_X8_row_60 M2 (nI r) x3 (nI i) = _ ∧ _
    unfold b_X8_row_60
    rw [if_neg (by rw [show (40 : Int32) = nI 40 from rfl]; exact nI_ge hi (by omega)), show (40 : Int32) = nI 40 from rfl, pk_mul, nI_add, chk_of (inB_nI (by omega) (by omega)), nm_eq, nI_clamp (by omega), nI_1]
    refine ⟨_, rfl, rfl, fun a ha => ?_, fun k hk => ?_, fun e he => ?_⟩
    · dsimp only
      rw [mset_ne _ _ _ ha, h1 a ha]
    · dsimp only
      rw [mset_self, upd_at]
      by_cases e : k = i
      · rw [if_pos (by rw [e])]
      · rw [if_neg (by omega), h2 k (by omega)]
    · dsimp only
      rw [mset_self, upd_at, if_neg (by omega), h3 e he]
  · rintro ⟨x, M2⟩ ⟨rfl, h1, h2, h3⟩
    show ∃ r', b_X8_row_60 M2 (nI r) x3 (nI 40) = _ ∧ _
    unfold b_X8_row_60
    rw [if_pos (by decide)]
    exact ⟨M2, rfl, h1, h2, h3⟩
theorem ag_row {M : Mem} (h : Inv M) (a b c : Int32) : AgWW (m_X7_row M a b c) (fun M1 => m_X8_row M1 a b c) := by
  unfold m_X7_row m_X8_row
  rcases grow M M a with ⟨r, hr, rfl, h1, h2⟩ | ⟨h1, h2⟩
  · rw [h1, Option.bind_some]
    show AgWW (chk _ _) _
    have yin : ∀ M', m_X8_in M' (nI r).toInt64 0 7 = some 1 := fun M' => by
      rcases grow M M' (nI r) with ⟨_, -, -, -, z⟩ | ⟨z, -⟩
      · exact z
      · rw [h1] at z; exact absurd z (by simp)
    rw [chk_of (kd_row r hr)]
    have z0 : (0 : Int32).toInt = 0 := rfl
    have z2 : (2 : Int32).toInt = 2 := rfl
    rcases gin M b 0 2 0 2 rfl rfl with ⟨p1, p2, p3⟩ | ⟨p1, p3⟩
    · obtain ⟨t, ht, rfl⟩ := inN_nI (x := b) (N := 3) ⟨p1, by omega⟩
      have yin2 : ∀ M', m_X8_in M' (nI t).toInt64 0 2 = some 1 := fun M' => by
        rcases gin M' (nI t) 0 2 0 2 rfl rfl with ⟨-, -, z⟩ | ⟨z, -⟩
        · exact z
        · exact absurd ⟨p1, p2⟩ z
      rw [if_neg (nI_pos (by omega)), if_neg (by rw [show (2 : Int32) = nI 2 from rfl]; exact nI_nlt (by omega) (by omega))]
      by_cases c1 : c ≤ 40
      · rw [if_pos c1]
        by_cases c2 : 0 ≤ c
        · rw [if_pos c2]
          obtain ⟨n, hn, rfl⟩ := inN_nI (x := c) (N := 41) (by
            have a1 := i32_le.mp c1
            have a2 := i32_le.mp c2
            rw [show (40 : Int32).toInt = 40 from rfl] at a1
            rw [z0] at a2
            exact ⟨a2, by omega⟩)
          unfold m_X4_begin
          rw [nm_eq, nm_eq]
          obtain ⟨M1, f1, f2, f3, -⟩ := xfill (M := mset (mset M (204 + 2 * r) 1 (nI t)) (204 + 2 * r) 2 (nI n)) (T := 204 + 2 * r + 1) 0 (al_row r hr) (by omega)
          rw [f1, Option.bind_some, Option.bind_some]
          obtain ⟨M2, y1, y2, y3, y4⟩ := yzero (M := mset (mset (mset M1 0 14 0) 235 r (nI t)) 236 r (nI n)) hr (nI n)
          refine ⟨nI n, mset M1 0 14 0, mset M2 234 0 0, rfl, ?_, ?_⟩
          · dsimp only
            rw [yin, Option.bind_some, if_neg n10, yin2, Option.bind_some, if_neg n10, if_pos c1, if_pos c2, chk_of (inB_nI hr (by omega)), nm_eq, chk_of (inB_nI hr (by omega)), nm_eq, nI_clamp (by omega), y1, Option.bind_some]
            rfl
          · have e1 : EqR M M1 := by
              refine EqR.trans ((eqR_set M 1 (nI t) (q := 204 + 2 * r) (by omega)).trans (eqR_set _ 2 (nI n) (q := 204 + 2 * r) (by omega))) ?_
              exact ⟨fun a g1 g2 g3 g4 => f2 a (by omega), congrFun (f2 2 (by omega)) _, congrFun (f2 0 (by omega)) _, congrFun (f2 234 (by omega)) _, congrFun (f2 234 (by omega)) _, congrFun (f2 234 (by omega)) _, congrFun (f2 234 (by omega)) _⟩
            have e2 : EqR M1 (mset (mset (mset M1 0 14 0) 235 r (nI t)) 236 r (nI n)) := ((eqR_set M1 _ _ (by omega)).trans (eqR_set _ _ _ (by omega))).trans (eqR_set _ _ _ (by omega))
            have e3 : EqR (mset (mset (mset M1 0 14 0) 235 r (nI t)) 236 r (nI n)) M2 := ⟨fun a g1 g2 g3 g4 => y2 a (by omega), congrFun (y2 2 (by omega)) _, congrFun (y2 0 (by omega)) _, congrFun (y2 234 (by omega)) _, congrFun (y2 234 (by omega)) _, congrFun (y2 234 (by omega)) _, congrFun (y2 234 (by omega)) _⟩
            refine inv_R h (((e1.trans e2).trans e3).trans (eqR_set _ _ _ (by omega))) (RowsI.set ?_ _ _ (by omega)) ?_
            · intro r' hr'
              have g235 : M2 235 r' = if r' = r then nI t else M 235 r' := by
                rw [y2 235 (by decide), mset_ne _ _ _ (by decide), mset_self, upd_at]
                by_cases e : r' = r
                · rw [if_pos e, if_pos e]
                · rw [if_neg e, if_neg e, mset_ne _ _ _ (by decide), f2 235 (by omega), mset_ne _ _ _ (by omega), mset_ne _ _ _ (by omega)]
              have g236 : M2 236 r' = if r' = r then nI n else M 236 r' := by
                rw [y2 236 (by decide), mset_self, upd_at]
                by_cases e : r' = r
                · rw [if_pos e, if_pos e]
                · rw [if_neg e, if_neg e, mset_ne _ _ _ (by decide), mset_ne _ _ _ (by decide), f2 236 (by omega), mset_ne _ _ _ (by omega), mset_ne _ _ _ (by omega)]
              have g237 : ∀ k, k < 40 → r' ≠ r → M2 237 (40 * r' + k) = M 237 (40 * r' + k) := by
                intro k hk e
                rw [y4 _ (by omega), mset_ne _ _ _ (by decide), mset_ne _ _ _ (by decide), mset_ne _ _ _ (by decide), f2 237 (by omega), mset_ne _ _ _ (by omega), mset_ne _ _ _ (by omega)]
              have gr : ∀ q, 204 ≤ q → q < 220 → q ≠ 204 + 2 * r → q ≠ 204 + 2 * r + 1 → M2 q = M q := by
                intro q q1 q2 q3 q4
                rw [y2 q (by omega), mset_ne _ _ _ (by omega), mset_ne _ _ _ (by omega), mset_ne _ _ _ (by omega), f2 q q4, mset_ne _ _ _ q3, mset_ne _ _ _ q3]
              by_cases e : r' = r
              · subst e
                right
                have gx : M2 (204 + 2 * r') = upd (upd (M (204 + 2 * r')) 1 (nI t)) 2 (nI n) := by
                  rw [y2 _ (by omega), mset_ne _ _ _ (by omega), mset_ne _ _ _ (by omega), mset_ne _ _ _ (by omega), f2 _ (by omega), mset_self, mset_self]
                refine ⟨n, t, by omega, ht, ?_, by rw [g236, if_pos rfl], ?_, by rw [g235, if_pos rfl], fun k hk => ?_⟩
                · rw [gx, upd_at, if_pos rfl]
                · rw [gx, upd_at, if_neg (by decide), upd_at, if_pos rfl]
                · rw [y3 k hk, y2 _ (by omega), mset_ne _ _ _ (by omega), mset_ne _ _ _ (by omega), mset_ne _ _ _ (by omega), f3 k hk]
              · rw [gr (204 + 2 * r') (by omega) (by omega) (by omega) (by omega), g235, if_neg e]
                rcases h.1 r' hr' with k | ⟨n', t', k1, k2, k3, k4, k5, k6, k7⟩
                · exact Or.inl k
                · right
                  refine ⟨n', t', k1, k2, k3, by rw [g236, if_neg e]; exact k4, k5, k6, fun k hk => ?_⟩
                  rw [gr (204 + 2 * r' + 1) (by omega) (by omega) (by omega) (by omega), g237 k hk e]
                  exact k7 k hk
            · rw [mset_ne _ _ _ (by decide), y2 0 (by decide), mset_ne _ _ _ (by decide), mset_ne _ _ _ (by decide), mset_self, upd_at, if_pos rfl, mset_self, upd_at, if_pos rfl]
        · rw [if_neg c2]
          refine ag_found h 4 rfl ?_
          rw [yin, Option.bind_some, if_neg n10, yin2, Option.bind_some, if_neg n10, if_pos c1, if_neg c2]
      · rw [if_neg c1]
        refine ww_same h (r := -1000001) rfl ?_
        rw [yin, Option.bind_some, if_neg n10, yin2, Option.bind_some, if_neg n10, if_neg c1]
    · refine ww_same h (r := -1000001) ?_ ?_
      · by_cases q1 : b < 0
        · rw [if_pos q1]
        · rw [if_neg q1]
          by_cases q2 : 2 < b
          · rw [if_pos q2]
          · exfalso
            apply p1
            have u : ¬ b.toInt < (0 : Int32).toInt := fun q => q1 (i32_lt.mpr q)
            have v : ¬ (2 : Int32).toInt < b.toInt := fun q => q2 (i32_lt.mpr q)
            omega
      · rw [yin, Option.bind_some, if_neg n10, p3]; rfl
  · refine ww_same h (r := -1000001) (by rw [h1]; rfl) (by rw [h2]; rfl)
theorem xholds {M : Mem} {a n : Nat} (h : M a 2 = nI n) (hn : n ≤ 40) (x y : Int32) : m_X4_holds M a x y = some (if 0 ≤ x.toInt ∧ 0 ≤ y.toInt ∧ x.toInt + y.toInt ≤ n then 1 else 0) := by
  unfold m_X4_holds
  have z0 : (0 : Int32).toInt = 0 := rfl
  by_cases q1 : x < 0
  · have := i32_lt.mp q1
    rw [if_pos q1, if_neg (by omega)]
  · have u : ¬ x.toInt < (0 : Int32).toInt := fun q => q1 (i32_lt.mpr q)
    rw [if_neg q1]
    by_cases q2 : y < 0
    · have := i32_lt.mp q2
      rw [if_pos q2, if_neg (by omega)]
    · have v : ¬ y.toInt < (0 : Int32).toInt := fun q => q2 (i32_lt.mpr q)
      rw [if_neg q2, h]
      have hy := Int32.toInt_lt y
      have hs : (nI n - y).toInt = (n : Int) - y.toInt := by
        rw [Int32.toInt_sub, nI_toInt (by omega)]
        exact Int.bmod_eq_of_le (by omega) (by omega)
      by_cases q3 : nI n - y < x
      · have := i32_lt.mp q3
        rw [if_pos q3, if_neg (by omega)]
      · have w : ¬ (nI n - y).toInt < x.toInt := fun q => q3 (i32_lt.mpr q)
        rw [if_neg q3, if_pos (by omega)]
/-- where one item changes on both sides -/
theorem rows_set {M : Mem} (h : RowsI M) {r i : Nat} (hr : r < 8) (hi : i < 40) (v : Int32) : RowsI (mset (mset M (204 + 2 * r + 1) i v) 237 (40 * r + i) v) := by
  intro r' hr'
  rw [mset_ne _ _ _ (by omega : 204 + 2 * r' ≠ 237), mset_ne _ _ _ (by omega : 204 + 2 * r' ≠ 204 + 2 * r + 1), mset_ne _ _ _ (by omega : 235 ≠ 237), mset_ne _ _ _ (by omega : 235 ≠ 204 + 2 * r + 1), mset_ne _ _ _ (by omega : 236 ≠ 237), mset_ne _ _ _ (by omega : 236 ≠ 204 + 2 * r + 1)]
  rcases h r' hr' with k | ⟨n', t', k1, k2, k3, k4, k5, k6, k7⟩
  · exact Or.inl k
  · right
    refine ⟨n', t', k1, k2, k3, k4, k5, k6, fun k hk => ?_⟩
    rw [mset_ne _ _ _ (by omega : 204 + 2 * r' + 1 ≠ 237), mset_self, upd_at, mset_ne _ _ _ (by omega : 237 ≠ 204 + 2 * r + 1)]
    by_cases e : r' = r
    · subst e
      rw [mset_self, upd_at]
      by_cases e2 : k = i
      · rw [if_pos e2, if_pos (by omega)]
      · rw [if_neg e2, if_neg (by omega)]
        exact k7 k hk
    · rw [mset_ne _ _ _ (by omega), if_neg (by omega)]
      exact k7 k hk
theorem mset_comm (M : Mem) {q q' : Nat} (j j' : Nat) (v v' : Int32) (h : q ≠ q') : mset (mset M q j v) q' j' v' = mset (mset M q' j' v') q j v := by
  funext a
  by_cases e1 : a = q
  · subst e1
    rw [mset_ne _ _ _ h, mset_self, mset_self, mset_ne _ _ _ h]
  · by_cases e2 : a = q'
    · subst e2
      rw [mset_self, mset_ne _ _ _ e1, mset_ne _ _ _ e1, mset_self]
    · rw [mset_ne _ _ _ e2, mset_ne _ _ _ e1, mset_ne _ _ _ e1, mset_ne _ _ _ e2]
theorem ag_set {M : Mem} (h : Inv M) (a b c : Int32) : AgWW (m_X7_set M a b c) (fun M1 => m_X8_set M1 a b c) := by
  unfold m_X7_set m_X8_set
  rcases grow M M a with ⟨r, hr, rfl, h1, h2⟩ | ⟨h1, h2⟩
  · rw [h1, Option.bind_some]
    show AgWW (chk _ _) _
    have yin : ∀ M', m_X8_in M' (nI r).toInt64 0 7 = some 1 := fun M' => by
      rcases grow M M' (nI r) with ⟨_, -, -, -, z⟩ | ⟨z, -⟩
      · exact z
      · rw [h1] at z; exact absurd z (by simp)
    rw [chk_of (kd_row r hr)]
    unfold m_X4_isMissing
    rcases h.1 r hr with ⟨r1, r2⟩ | ⟨n, t, k1, k2, k3, k4, k5, k6, k7⟩
    · rw [r1, if_pos rfl, Option.bind_some, if_neg n10]
      refine ag_found h 1 rfl ?_
      rw [yin, Option.bind_some, if_neg n10, chk_of (inB_nI hr (by omega)), nI_clamp (by omega), mset_at0 _ _ (by decide), r2, if_neg (by decide)]
    · have hne : ¬ nI n = -1 := by
        intro q
        have := congrArg Int32.toInt q
        rw [nI_toInt (by omega), show (-1 : Int32).toInt = -1 from rfl] at this
        omega
      have hs1 : (nI n - 1).toInt = (n : Int) - 1 := by
        have : ∀ n, n ≤ 40 → (nI n - 1).toInt = (n : Int) - 1 := by decide +kernel
        exact this _ k1
      rw [k3, if_neg hne, Option.bind_some, if_pos rfl, xholds k3 k1, show (1 : Int32).toInt = 1 from rfl, Option.bind_some]
      by_cases hb : 0 ≤ b.toInt ∧ b.toInt < n
      · obtain ⟨i, hi, rfl⟩ := inN_nI (x := b) (N := n) ⟨hb.1, hb.2⟩
        rw [if_pos (show (0 : Int) ≤ (nI i).toInt ∧ (0 : Int) ≤ 1 ∧ (nI i).toInt + 1 ≤ n by omega), if_neg n10]
        have main : ∀ v, ∃ r1 M1 M2, ((j_X4_put_26 M (204 + 2 * r) (nI i) v).bind fun r6 => (m_X7_nothingFound r6.2 r6.1).bind fun r7 => some ((r7.1, r7.2))) = some (r1, M1) ∧ j_X8_set_94 M1 (nI r) (nI i) v ((40 * nI r) + nI i) = some (r1, M2) ∧ Inv M2 ∧ ∀ q, 220 ≤ q → M1 q = M q := by
          intro v
          unfold j_X4_put_26 j_X8_set_94
          rw [if_neg (nI_pos (by omega)), if_neg (by rw [show (40 : Int32) = nI 40 from rfl]; exact nI_ge (by omega) (by omega)), chk_of (inB_nI (by omega) (by omega)), nm_eq, nI_clamp (by omega), Option.bind_some]
          refine ⟨v, mset (mset M (204 + 2 * r + 1) i v) 0 14 0, mset (mset (mset (mset M (204 + 2 * r + 1) i v) 0 14 0) 237 (40 * r + i) v) 234 0 0, rfl, ?_, ?_, fun q hq => by rw [mset_ne _ _ _ (by omega), mset_ne _ _ _ (by omega)]⟩
          · rw [show (40 : Int32) = nI 40 from rfl, pk_mul, nI_add, chk_of (inB_nI (by omega) (by omega)), nm_eq, chk_of (inB_nI (by omega) (by omega)), nI_clamp (by omega), mset_self, upd_at, if_pos rfl]
            rfl
          · refine inv_R h (((eqR_set M _ _ (by omega)).trans (eqR_set _ _ _ (by omega))).trans ((eqR_set _ _ _ (by omega)).trans (eqR_set _ _ _ (by omega)))) (RowsI.set ?_ _ _ (by omega)) ?_
            · have hc : mset (mset (mset M (204 + 2 * r + 1) i v) 0 14 0) 237 (40 * r + i) v = mset (mset (mset M (204 + 2 * r + 1) i v) 237 (40 * r + i) v) 0 14 0 := mset_comm _ _ _ _ _ (by decide)
              rw [hc]
              exact RowsI.set (rows_set h.1 hr (by omega) v) _ _ (by omega)
            · rw [mset_ne _ _ _ (by decide), mset_ne _ _ _ (by decide), mset_self, upd_at, if_pos rfl, mset_self, upd_at, if_pos rfl]
        have yy : ∀ M1 : Mem, (∀ q, 220 ≤ q → M1 q = M q) → ∀ R, (if nI t = 0 then j_X8_set_94 M1 (nI r) (nI i) c.toInt8.toInt32 ((40 * nI r) + nI i) else if nI t = 1 then j_X8_set_94 M1 (nI r) (nI i) c.toInt16.toInt32 ((40 * nI r) + nI i) else j_X8_set_94 M1 (nI r) (nI i) c ((40 * nI r) + nI i)) = R → m_X8_set M1 (nI r) (nI i) c = R := by
          intro M1 hM R hR
          unfold m_X8_set
          have hin : m_X8_in M1 (nI i).toInt64 0 ((nI n - 1).toInt64) = some 1 := by
            rw [m_inI M1 _ _ _ 0 ((n : Int) - 1) rfl (by rw [Int32.toInt_toInt64]; exact hs1), if_pos (by omega)]
          rw [yin, Option.bind_some, if_neg n10, chk_of (inB_nI hr (by omega)), nI_clamp (by omega), hM 235 (by decide), hM 236 (by decide), k6, k4, if_pos (nI_pos' (by omega)), chk_of (inB_nI hr (by omega)), hin, Option.bind_some, if_neg n10, chk_of (inB_nI hr (by omega)), chk_of (inB_nI hr (by omega))]
          exact hR
        unfold m_X4_put
        rw [k5]
        by_cases t0 : nI t = 0
        · rw [if_pos t0]
          obtain ⟨r1, M1, M2, m1, m2, m3, m4⟩ := main c.toInt8.toInt32
          exact ⟨r1, M1, M2, m1, yy M1 m4 _ (by rw [if_pos t0]; exact m2), m3⟩
        · rw [if_neg t0]
          by_cases t1 : nI t = 1
          · rw [if_pos t1]
            obtain ⟨r1, M1, M2, m1, m2, m3, m4⟩ := main c.toInt16.toInt32
            exact ⟨r1, M1, M2, m1, yy M1 m4 _ (by rw [if_neg t0, if_pos t1]; exact m2), m3⟩
          · rw [if_neg t1]
            obtain ⟨r1, M1, M2, m1, m2, m3, m4⟩ := main c
            exact ⟨r1, M1, M2, m1, yy M1 m4 _ (by rw [if_neg t0, if_neg t1]; exact m2), m3⟩
      · rw [if_neg (show ¬ ((0 : Int) ≤ b.toInt ∧ (0 : Int) ≤ 1 ∧ b.toInt + 1 ≤ n) by omega), if_pos rfl]
        refine ag_found h 2 rfl ?_
        have hin : m_X8_in (mset M 0 14 2) b.toInt64 0 ((nI n - 1).toInt64) = some 0 := by
          rw [m_inI _ _ _ _ 0 ((n : Int) - 1) rfl (by rw [Int32.toInt_toInt64]; exact hs1), if_neg (by omega)]
        rw [yin, Option.bind_some, if_neg n10, chk_of (inB_nI hr (by omega)), nI_clamp (by omega), mset_at0 _ _ (by decide), mset_at0 _ _ (by decide), k6, k4, if_pos (nI_pos' (by omega)), chk_of (inB_nI hr (by omega)), hin, Option.bind_some, if_pos rfl]
  · refine ww_same h (r := -1000001) (by rw [h1]; rfl) (by rw [h2]; rfl)
