/-! ## what holds between calls: the class's cells and the reference's tell the same -/
def scr (a : Nat) : Prop := a = 2 ∨ a = 234 ∨ (11 ≤ a ∧ a ≤ 24) ∨ (196 ≤ a ∧ a ≤ 201) ∨ a = 240 ∨ 245 ≤ a
/-- nothing but scratch has changed -/
def EqI (M M' : Mem) : Prop := (∀ a, ¬ scr a → M' a = M a) ∧ M' 2 1 = M 2 1 ∧ M' 234 0 = M 234 0 ∧ M' 234 5 = M 234 5 ∧ M' 234 6 = M 234 6 ∧ M' 234 10 = M 234 10 ∧ M' 234 14 = M 234 14
theorem EqI.refl (M : Mem) : EqI M M := ⟨fun _ _ => rfl, rfl, rfl, rfl, rfl, rfl, rfl⟩
theorem EqI.trans {A B C : Mem} (h1 : EqI A B) (h2 : EqI B C) : EqI A C := by
  obtain ⟨a1, a2, a3, a4, a5, a6, a7⟩ := h1
  obtain ⟨b1, b2, b3, b4, b5, b6, b7⟩ := h2
  exact ⟨fun a h => (b1 a h).trans (a1 a h), b2.trans a2, b3.trans a3, b4.trans a4, b5.trans a5, b6.trans a6, b7.trans a7⟩
def RowsI (M : Mem) : Prop := ∀ r, r < 8 → (M (204 + 2 * r) 2 = -1 ∧ M 235 r = -1) ∨ ∃ n t, n ≤ 40 ∧ t < 3 ∧ M (204 + 2 * r) 2 = nI n ∧ M 236 r = nI n ∧ M (204 + 2 * r) 1 = nI t ∧ M 235 r = nI t ∧ ∀ k, k < 40 → M (204 + 2 * r + 1) k = M 237 (40 * r + k)
def TapeI (M : Mem) : Prop := ∃ n, n ≤ 300 ∧ M 2 1 = nI n ∧ M 234 5 = nI n ∧ ∀ k, k < n → M 3 k = M 238 k ∧ ∃ b, b < 256 ∧ M 3 k = nI b
def SqI (M : Mem) (S : Nat → Nat) : Prop := Sqx M 4 S ∧ Sqm (M 239) S ∧ VS S ∧ ∀ j, j < 5 → M (6 + j) 0 = nI j
def ActsI (M : Mem) : Prop := ∃ (n : Nat) (p : Nat → Nat) (A : Nat → Nat → Nat), n ≤ 24 ∧ M 26 1 = nI n ∧ M 234 10 = nI n ∧ (∀ i, i < 24 → M 27 i = nI (p i) ∧ p i < 24) ∧ (∀ i j, i < 24 → j < 24 → p i = p j → i = j) ∧ ∀ i, i < n → Sqx M (28 + 7 * p i) (A i) ∧ Sqm (fun k => M 241 (39 * i + k)) (A i) ∧ VS (A i)
def ImgI (M : Mem) : Prop := ∀ k, k < 2 → (M (220 + 7 * k) 1 = 0 ∧ M 243 k = 0) ∨ ∃ A : Nat → Nat, M 243 k = 1 ∧ A 0 = 1 ∧ Sqx M (220 + 7 * k) A ∧ Sqm (fun j => M 242 (39 * k + j)) A ∧ VS A
def TraceI (M : Mem) : Prop := ∃ n, n ≤ 16 ∧ M 202 1 = nI n ∧ M 234 14 = nI n ∧ ∀ k, k < n → M 203 k = M 244 k
def StatI (M : Mem) : Prop := M 0 14 = M 234 0 ∧ M 0 13 = M 234 6
def Inv (M : Mem) : Prop := RowsI M ∧ TapeI M ∧ (∃ S, SqI M S) ∧ ActsI M ∧ ImgI M ∧ TraceI M ∧ StatI M
theorem Sqx.eq {M M' : Mem} {q : Nat} {S : Nat → Nat} (h : Sqx M q S) (hV : VS S) (hq : M' q = M q) (hc : ∀ j, j < 5 → M' (q + 1 + 1 + j) = M (q + 1 + 1 + j)) : Sqx M' q S := by
  obtain ⟨h1, h2, h3, h4, h5⟩ := h
  refine ⟨by rw [hq]; exact h1, by rw [hq]; exact h2, by rw [hq]; exact h3, by rw [hq]; exact h4, fun j hj => ?_⟩
  rw [hc j (by have := hV.2.1; omega)]
  exact h5 j hj
theorem RowsI.eq {M M' : Mem} (h : RowsI M) (h1 : ∀ r, r < 16 → M' (204 + r) = M (204 + r)) (h2 : M' 235 = M 235) (h3 : M' 236 = M 236) (h4 : M' 237 = M 237) : RowsI M' := by
  intro r hr
  have a1 := h1 (2 * r) (by omega)
  have a2 := h1 (2 * r + 1) (by omega)
  have e : 204 + (2 * r + 1) = 204 + 2 * r + 1 := by omega
  rw [e] at a2
  rw [a1, a2, h2, h3, h4]
  exact h r hr
theorem TapeI.eq {M M' : Mem} (h : TapeI M) (h1 : M' 2 1 = M 2 1) (h2 : M' 234 5 = M 234 5) (h3 : M' 3 = M 3) (h4 : M' 238 = M 238) : TapeI M' := by
  obtain ⟨n, a1, a2, a3, a4⟩ := h
  exact ⟨n, a1, by rw [h1]; exact a2, by rw [h2]; exact a3, by rw [h3, h4]; exact a4⟩
theorem SqI.eq {M M' : Mem} {S : Nat → Nat} (h : SqI M S) (h1 : ∀ a, 4 ≤ a → a ≤ 10 → M' a = M a) (h2 : M' 239 = M 239) : SqI M' S := by
  obtain ⟨a1, a2, a3, a4⟩ := h
  refine ⟨a1.eq a3 (h1 4 (by omega) (by omega)) (fun j hj => h1 _ (by omega) (by omega)), by rw [h2]; exact a2, a3, fun j hj => ?_⟩
  rw [h1 (6 + j) (by omega) (by omega)]
  exact a4 j hj
theorem ActsI.eq {M M' : Mem} (h : ActsI M) (h1 : M' 26 = M 26) (h2 : M' 234 10 = M 234 10) (h3 : M' 27 = M 27) (h4 : ∀ a, 28 ≤ a → a ≤ 195 → M' a = M a) (h5 : M' 241 = M 241) : ActsI M' := by
  obtain ⟨n, p, A, a1, a2, a3, a4, a5, a6⟩ := h
  refine ⟨n, p, A, a1, by rw [h1]; exact a2, by rw [h2]; exact a3, by rw [h3]; exact a4, a5, fun i hi => ?_⟩
  obtain ⟨b1, b2, b3⟩ := a6 i hi
  have hp := (a4 i (by omega)).2
  refine ⟨b1.eq b3 (h4 _ (by omega) (by omega)) (fun j hj => h4 _ (by omega) (by omega)), by rw [h5]; exact b2, b3⟩
theorem ImgI.eq {M M' : Mem} (h : ImgI M) (h1 : ∀ a, 220 ≤ a → a ≤ 233 → M' a = M a) (h2 : M' 242 = M 242) (h3 : M' 243 = M 243) : ImgI M' := by
  intro k hk
  rw [h1 (220 + 7 * k) (by omega) (by omega), h2, h3]
  rcases h k hk with a | ⟨A, a1, a2, a3, a4, a5⟩
  · exact Or.inl a
  · exact Or.inr ⟨A, a1, a2, a3.eq a5 (h1 _ (by omega) (by omega)) (fun j hj => h1 _ (by omega) (by omega)), a4, a5⟩
theorem TraceI.eq {M M' : Mem} (h : TraceI M) (h1 : M' 202 = M 202) (h2 : M' 234 14 = M 234 14) (h3 : M' 203 = M 203) (h4 : M' 244 = M 244) : TraceI M' := by
  obtain ⟨n, a1, a2, a3, a4⟩ := h
  exact ⟨n, a1, by rw [h1]; exact a2, by rw [h2]; exact a3, by rw [h3, h4]; exact a4⟩
theorem StatI.eq {M M' : Mem} (h : StatI M) (h1 : M' 0 = M 0) (h2 : M' 234 0 = M 234 0) (h3 : M' 234 6 = M 234 6) : StatI M' := by
  unfold StatI
  rw [h1, h2, h3]
  exact h
theorem ns {a : Nat} (h1 : a ≠ 2) (h2 : a < 196 ∨ (202 ≤ a ∧ a ≠ 234)) (h3 : a < 11 ∨ 24 < a) (h4 : a ≠ 240 ∧ a < 245) : ¬ scr a := by
  unfold scr
  omega
theorem EqI.sq {M M' : Mem} (h : EqI M M') {S : Nat → Nat} (hS : SqI M S) : SqI M' S := hS.eq (fun a ha hb => h.1 a (by unfold scr; omega)) (h.1 _ (by unfold scr; omega))
theorem Inv.eq {M M' : Mem} (h : Inv M) (e : EqI M M') : Inv M' := by
  obtain ⟨h1, h2, ⟨S, h3⟩, h4, h5, h6, h7⟩ := h
  have s := e.1
  obtain ⟨-, e2, e3, e4, e5, e6, e7⟩ := e
  exact ⟨h1.eq (fun r hr => s _ (by unfold scr; omega)) (s _ (by unfold scr; omega)) (s _ (by unfold scr; omega)) (s _ (by unfold scr; omega)),
    h2.eq e2 e4 (s _ (by unfold scr; omega)) (s _ (by unfold scr; omega)),
    ⟨S, h3.eq (fun a ha hb => s a (by unfold scr; omega)) (s _ (by unfold scr; omega))⟩,
    h4.eq (s _ (by unfold scr; omega)) e6 (s _ (by unfold scr; omega)) (fun a ha hb => s a (by unfold scr; omega)) (s _ (by unfold scr; omega)),
    h5.eq (fun a ha hb => s a (by unfold scr; omega)) (s _ (by unfold scr; omega)) (s _ (by unfold scr; omega)),
    h6.eq (s _ (by unfold scr; omega)) e7 (s _ (by unfold scr; omega)) (s _ (by unfold scr; omega)),
    h7.eq (s _ (by unfold scr; omega)) e3 e5⟩
theorem PX.eqI {M0 M : Mem} {l : List Nat} (h : PX M0 M l) : EqI M0 M := by
  have s := h.2.2
  exact ⟨fun a ha => s a (fun q => ha (by unfold scr; omega)) (fun q => ha (by unfold scr; omega)), congrFun (s 2 (by decide) (by decide)) 1, congrFun (s 234 (by decide) (by decide)) _, congrFun (s 234 (by decide) (by decide)) _, congrFun (s 234 (by decide) (by decide)) _, congrFun (s 234 (by decide) (by decide)) _, congrFun (s 234 (by decide) (by decide)) _⟩
theorem PY.eqI {M0 M : Mem} {l : List Nat} (h : PY M0 M l) : EqI M0 M := by
  obtain ⟨-, -, s, t⟩ := h
  exact ⟨fun a ha => s a (fun q => ha (by unfold scr; omega)) (fun q => ha (by unfold scr; omega)), congrFun (s 2 (by decide) (by decide)) 1, t 0 (by decide), t 5 (by decide), t 6 (by decide), t 10 (by decide), t 14 (by decide)⟩
/-! ## the guards -/
theorem gchild {M : Mem} {S : Nat → Nat} (h : SqI M S) (x : Int32) : (∃ j, j < S 3 ∧ x = nI j ∧ m_X5_at M 4 x = some (some (6 + j)) ∧ kdB (6 + j) 2 = true ∧ m_X8_isChild M x = some 1) ∨ (m_X5_at M 4 x = some none ∧ m_X8_isChild M x = some 0) := by
  obtain ⟨hX, hY, hV, -⟩ := h
  have hn := hV.2.1
  have e3 : (3 : Int32).toNatClampNeg = 3 := rfl
  have hs : (nI (S 3) - 1).toInt = (S 3 : Int) - 1 := by
    have : ∀ n, n ≤ 5 → (nI n - 1).toInt = (n : Int) - 1 := by decide +kernel
    exact this _ hn
  have hy : m_X8_isChild M x = some (if (0 : Int) ≤ x.toInt ∧ x.toInt ≤ (S 3 : Int) - 1 then 1 else 0) := by
    unfold m_X8_isChild
    rw [chk_of (by decide), e3, hY.2.2.1, m_inI M x 0 _ 0 ((S 3 : Int) - 1) rfl (by rw [Int32.toInt_toInt64]; exact hs), Option.bind_some]
    by_cases q : (0 : Int) ≤ x.toInt ∧ x.toInt ≤ (S 3 : Int) - 1
    · rw [if_pos q]; rfl
    · rw [if_neg q]; rfl
  by_cases hx : inN x (S 3)
  · left
    obtain ⟨j, hj, rfl⟩ := inN_nI hx
    have ha := xat hX hV hj
    rw [show 4 + 1 + 1 + j = 6 + j by omega] at ha
    have hk := kdB_of (kd_ch (q := 4) (by decide) j (by omega))
    rw [show 4 + 1 + 1 + j = 6 + j by omega] at hk
    refine ⟨j, hj, rfl, ha, hk, ?_⟩
    rw [hy, if_pos]
    unfold inN at hx
    omega
  · right
    refine ⟨xat_none hX hV hx, ?_⟩
    rw [hy, if_neg]
    unfold inN at hx
    omega
theorem gcell (M M' : Mem) (x : Int32) : (∃ c, c < 30 ∧ x = nI c ∧ m_X7_isCell M x = some 1 ∧ m_X8_isCell M' x = some 1) ∨ (m_X7_isCell M x = some 0 ∧ m_X8_isCell M' x = some 0) := by
  rcases xisCell M x with ⟨h1, h2⟩ | ⟨h1, h2⟩
  · rcases yisCell M' x with ⟨-, h4⟩ | ⟨h3, -⟩
    · obtain ⟨c, hc, e⟩ := inN_nI h1
      exact Or.inl ⟨c, hc, e, h2, h4⟩
    · exact absurd h1 h3
  · rcases yisCell M' x with ⟨h3, -⟩ | ⟨-, h4⟩
    · exact absurd h3 h1
    · exact Or.inr ⟨h2, h4⟩
theorem gin (M : Mem) (x : Int32) (lo hi : Int64) (l h : Int) (hl : lo.toInt = l) (hh : hi.toInt = h) : (l ≤ x.toInt ∧ x.toInt ≤ h ∧ m_X8_in M x.toInt64 lo hi = some 1) ∨ (¬ (l ≤ x.toInt ∧ x.toInt ≤ h) ∧ m_X8_in M x.toInt64 lo hi = some 0) := by
  rw [m_inI M x lo hi l h hl hh]
  by_cases q : l ≤ x.toInt ∧ x.toInt ≤ h
  · left
    rw [if_pos q]
    exact ⟨q.1, q.2, rfl⟩
  · right
    rw [if_neg q]
    exact ⟨q, rfl⟩
theorem gspread (M M' : Mem) (x : Int32) : (∃ c, c < 3 ∧ x = nI c ∧ m_X7_isSpread M x = some 1 ∧ m_X8_in M' x.toInt64 0 2 = some 1) ∨ (m_X7_isSpread M x = some 0 ∧ m_X8_in M' x.toInt64 0 2 = some 0) := by
  have z0 : (0 : Int32).toInt = 0 := rfl
  have z2 : (2 : Int32).toInt = 2 := rfl
  rcases gin M' x 0 2 0 2 rfl rfl with ⟨h1, h2, h3⟩ | ⟨h1, h3⟩
  · left
    obtain ⟨c, hc, e⟩ := inN_nI (x := x) (N := 3) ⟨h1, by omega⟩
    refine ⟨c, hc, e, ?_, h3⟩
    unfold m_X7_isSpread
    rw [if_neg (fun q => by have := i32_lt.mp q; omega), if_neg (fun q => by have := i32_lt.mp q; omega)]
  · right
    refine ⟨?_, h3⟩
    unfold m_X7_isSpread
    by_cases q1 : x < 0
    · rw [if_pos q1]
    · rw [if_neg q1]
      by_cases q2 : 2 < x
      · rw [if_pos q2]
      · exfalso
        apply h1
        have a : ¬ x.toInt < (0 : Int32).toInt := fun q => q1 (i32_lt.mpr q)
        have b : ¬ (2 : Int32).toInt < x.toInt := fun q => q2 (i32_lt.mpr q)
        omega
theorem geither (M M' : Mem) (x : Int32) : ((x = 0 ∨ x = 1) ∧ m_X7_isEither M x = some 1 ∧ m_X8_in M' x.toInt64 0 1 = some 1) ∨ (m_X7_isEither M x = some 0 ∧ m_X8_in M' x.toInt64 0 1 = some 0) := by
  rcases gin M' x 0 1 0 1 rfl rfl with ⟨h1, h2, h3⟩ | ⟨h1, h3⟩
  · left
    obtain ⟨c, hc, e⟩ := inN_nI (x := x) (N := 2) ⟨h1, by omega⟩
    have hcc : c = 0 ∨ c = 1 := by omega
    rcases hcc with rfl | rfl
    · exact ⟨Or.inl e, by rw [e]; rfl, h3⟩
    · exact ⟨Or.inr e, by rw [e]; rfl, h3⟩
  · right
    refine ⟨?_, h3⟩
    unfold m_X7_isEither
    rw [if_neg (fun q => h1 (by rw [q]; decide)), if_neg (fun q => h1 (by rw [q]; decide))]
theorem gthrow (M M' : Mem) (x y : Int32) : (∃ c s, c < 30 ∧ s < 3 ∧ x = nI c ∧ y = nI s ∧ m_X7_isCell M x = some 1 ∧ m_X7_isSpread M y = some 1 ∧ m_X8_isThrow M' x y = some 1) ∨ (m_X8_isThrow M' x y = some 0 ∧ (m_X7_isCell M x = some 0 ∨ (m_X7_isCell M x = some 1 ∧ m_X7_isSpread M y = some 0))) := by
  unfold m_X8_isThrow
  rcases gcell M M' x with ⟨c, h1, h2, h3, h4⟩ | ⟨h3, h4⟩
  · rw [h4, Option.bind_some, if_neg (by decide)]
    rcases gspread M M' y with ⟨s, g1, g2, g3, g4⟩ | ⟨g3, g4⟩
    · left
      refine ⟨c, s, h1, g1, h2, g2, h3, g3, ?_⟩
      rw [g4, Option.bind_some, if_neg (by decide)]
    · right
      rw [g4, Option.bind_some, if_pos rfl]
      exact ⟨rfl, Or.inr ⟨h3, g3⟩⟩
  · right
    rw [h4, Option.bind_some, if_pos rfl]
    exact ⟨rfl, Or.inl h3⟩
/-- lays: where they stand, and the heat, laid aside -/
theorem ylays {M : Mem} {S : Nat → Nat} (hY : Sqm (M 239) S) (hV : VS S) : ∃ M', m_X8_lays M = some M' ∧ EqI M M' ∧ (∀ a, a ≠ 234 → a ≠ 245 → M' a = M a) ∧ Lay M' S (wh S) (S 1) := by
  have e1 : (1 : Int32).toNatClampNeg = 1 := rfl
  unfold m_X8_lays
  rw [chk_of (by decide), nm_eq, e1, hY.2.1]
  have key := loopF_rel (body := fun z => b_X8_lays_12 z.2 z.1) 5 (fun i z => z.1 = nI i ∧ (∀ a, a ≠ 234 → a ≠ 245 → z.2 a = M a) ∧ (∀ j, j ≠ 21 → z.2 234 j = M 234 j) ∧ z.2 234 21 = nI (S 1) ∧ ∀ j, j < i → z.2 245 j = M 239 (15 + j)) (fun M' => (∀ a, a ≠ 234 → a ≠ 245 → M' a = M a) ∧ (∀ j, j ≠ 21 → M' 234 j = M 234 j) ∧ M' 234 21 = nI (S 1) ∧ ∀ j, j < 5 → M' 245 j = M 239 (15 + j)) ?_ ?_ (fuel := FUEL) (FUEL_lt (by omega)) (s := (0, mset M 234 21 (nI (S 1)))) ⟨rfl, fun a a1 a2 => mset_ne _ _ _ a1, fun j hj => by show mset M 234 21 (nI (S 1)) 234 j = _; rw [mset_self, upd_at, if_neg hj], by show mset M 234 21 (nI (S 1)) 234 21 = _; rw [mset_self, upd_at, if_pos rfl], fun j hj => absurd hj (by omega)⟩
  · obtain ⟨r, h1, h2, h3, h4, h5⟩ := key
    refine ⟨r, by rw [h1]; rfl, ⟨fun a ha => h2 a (fun q => ha (by unfold scr; omega)) (fun q => ha (by unfold scr; omega)), congrFun (h2 2 (by decide) (by decide)) 1, h3 0 (by decide), h3 5 (by decide), h3 6 (by decide), h3 10 (by decide), h3 14 (by decide)⟩, h2, h4, hV.2.2.2.1, fun j hj => ?_⟩
    have hn := hV.2.1
    rw [h5 j (by omega), (hY.2.2.2.2.1 j hj).2.2.1]
    exact ⟨rfl, (hV.2.2.2.2.2 j hj).2.2.1⟩
  · rintro i ⟨x, M2⟩ hi ⟨rfl, h1, h2, h3, h4⟩
    dsimp only at h1 h2 h3 h4
    show ∃ s', b_X8_lays_12 M2 (nI i) = _ ∧ _
    unfold b_X8_lays_12
    rw [if_neg (by rw [show (5 : Int32) = nI 5 from rfl]; exact nI_ge hi (by omega)), show (15 : Int32) + nI i = nI (15 + i) from nI_add 15 i, chk_of (inB_nI (by omega) (by omega)), chk_of (inB_nI (by omega) (by omega)), nm_eq, nI_clamp (by omega), nI_clamp (by omega), nI_1]
    refine ⟨_, rfl, rfl, ?_, ?_, ?_, ?_⟩
    · intro a a1 a2
      try dsimp only
      rw [mset_ne _ _ _ a2, h1 a a1 a2]
    · intro j hj
      try dsimp only
      rw [mset_ne _ _ _ (by decide), h2 j hj]
    · try dsimp only
      rw [mset_ne _ _ _ (by decide), h3]
    · intro j hj
      try dsimp only
      rw [mset_self, upd_at]
      by_cases q : j = i
      · rw [if_pos q, q, h1 239 (by decide) (by decide)]
      · rw [if_neg q, h4 j (by omega)]
  · rintro ⟨x, M2⟩ ⟨rfl, h1, h2, h3, h4⟩
    show ∃ r, b_X8_lays_12 M2 (nI 5) = _ ∧ _
    unfold b_X8_lays_12
    rw [if_pos (by decide)]
    exact ⟨M2, rfl, h1, h2, h3, h4⟩
