/-! ## square -/
theorem DV.vs {S : Nat → Nat} (h : DV S) : VS S := by
  obtain ⟨a0, a1, a2, a3, a4⟩ := h
  refine ⟨by omega, a2, fun z => by omega, a1, a3, fun j hj => ?_⟩
  obtain ⟨b1, b2, b3, b4⟩ := a4 j hj
  exact ⟨b1, b2, b3, by omega⟩
theorem tape_t {M : Mem} (h : TapeI M) : ∃ t n, TPx M t n ∧ TPy M t n := by
  obtain ⟨n, h1, h2, h3, h4⟩ := h
  have e : ∀ k, k < n → M 3 k = nI (M 3 k).toInt.toNat ∧ (M 3 k).toInt.toNat < 256 := by
    intro k hk
    obtain ⟨-, b, hb, e⟩ := h4 k hk
    rw [e, nI_toInt (by omega)]
    exact ⟨rfl, by omega⟩
  exact ⟨fun k => (M 3 k).toInt.toNat, n, ⟨h1, h2, e⟩, h1, h3, fun k hk => ⟨by rw [← (h4 k hk).1]; exact (e k hk).1, (e k hk).2⟩⟩
theorem ag_square {M : Mem} (h : Inv M) : AgWW (m_X7_square M) (fun M1 => m_X8_square M1) := by
  obtain ⟨t, n, hTx, hTy⟩ := tape_t h.2.1
  obtain ⟨S0, hS0⟩ := h.2.2.1
  obtain ⟨m, p, A, hXA, hYA, hVA⟩ := acts_split h.2.2.2.1
  unfold m_X7_square m_X8_square m_X5_clear
  rw [nm_eq, nm_eq, nm_eq, nm_eq, Option.bind_some]
  generalize hM1 : mset (mset (mset (mset M 11 1 0) 11 2 0) 11 3 0) 11 4 0 = M1
  have g1 : ∀ a, a ≠ 11 → M1 a = M a := fun a ha => by rw [← hM1, mset_ne _ _ _ ha, mset_ne _ _ _ ha, mset_ne _ _ _ ha, mset_ne _ _ _ ha]
  have hD0 : DX M1 S00 := by
    refine ⟨?_, ?_, ?_, fun j hj => absurd (show j < 0 from hj) (by omega)⟩
    · rw [← hM1, mset_self, upd_at, if_neg (by decide), mset_self, upd_at, if_neg (by decide), mset_self, upd_at, if_pos rfl]; rfl
    · rw [← hM1, mset_self, upd_at, if_neg (by decide), mset_self, upd_at, if_pos rfl]; rfl
    · rw [← hM1, mset_self, upd_at, if_pos rfl]; rfl
  have hx := xread (M := M1) (hTx.keep (by rw [g1 2 (by decide)]) (g1 3 (by decide))) hD0
  cases hp : pRead t n with
  | inl f =>
    rw [hp] at hx
    obtain ⟨M2, x1, ⟨x2, x2'⟩, x3, x4⟩ := hx
    rw [x1, Option.bind_some, nm_eq, nm_eq, if_pos rfl, nm_eq]
    dsimp only
    have e6 : mset M2 2 1 0 2 6 = nI f.1 := by rw [mset_self, upd_at, if_neg (by decide)]; exact x3
    rw [e6]
    generalize hMx : mset (mset M2 2 1 0) 0 13 (nI f.1) = Mx
    have e2 : Mx 2 2 = nI f.2 := by rw [← hMx, mset_ne _ _ _ (by decide), mset_self, upd_at, if_neg (by decide)]; exact x4
    have gx : ∀ a, a ≠ 0 → a ≠ 2 → ¬ (11 ≤ a ∧ a ≤ 17) → Mx a = M a := fun a a1 a2 a3 => by rw [← hMx, mset_ne _ _ _ a1, mset_ne _ _ _ a2, x2 a a2 a3, g1 a (by omega)]
    have gx0 : ∀ j, j ≠ 13 → Mx 0 j = M 0 j := fun j hj => by rw [← hMx, mset_self, upd_at, if_neg hj, mset_ne _ _ _ (by decide), x2 0 (by decide) (by omega), g1 0 (by decide)]
    have gx13 : Mx 0 13 = nI f.1 := by rw [← hMx, mset_self, upd_at, if_pos rfl]
    have gx21 : Mx 2 1 = 0 := by rw [← hMx, mset_ne _ _ _ (by decide), mset_self, upd_at, if_pos rfl]
    have hy := yread (M := Mx) (hTy.keep (by rw [gx 234 (by decide) (by decide) (by omega)]) (gx 238 (by decide) (by decide) (by omega)))
    rw [hp] at hy
    obtain ⟨M3, y1, ⟨y2, y2'⟩, y3, y4⟩ := hy
    refine ⟨(-1000100) - nI f.2, Mx, mset (mset M3 234 5 0) 234 6 (nI f.1), by rw [e2], ?_, ?_⟩
    · dsimp only
      rw [y1, Option.bind_some, nm_eq, nm_eq, if_pos rfl, nm_eq]
      dsimp only
      have e19 : mset M3 234 5 0 234 19 = nI f.1 := by rw [mset_self, upd_at, if_neg (by decide)]; exact y3
      have e17 : mset M3 234 5 0 234 17 = nI f.2 := by rw [mset_self, upd_at, if_neg (by decide)]; exact y4
      have e17' : mset (mset M3 234 5 0) 234 6 (nI f.1) 234 17 = nI f.2 := by rw [mset_self, upd_at, if_neg (by decide)]; exact e17
      rw [e19, e17']
    · have g : ∀ a, a ≠ 0 → a ≠ 2 → ¬ (11 ≤ a ∧ a ≤ 17) → a ≠ 234 → a ≠ 240 → mset (mset M3 234 5 0) 234 6 (nI f.1) a = M a := fun a a1 a2 a3 a4 a5 => by rw [mset_ne _ _ _ a4, mset_ne _ _ _ a4, y2 a a4 a5, gx a a1 a2 a3]
      have g0 : ∀ a, a ≠ 234 → a ≠ 240 → mset (mset M3 234 5 0) 234 6 (nI f.1) a = Mx a := fun a a4 a5 => by rw [mset_ne _ _ _ a4, mset_ne _ _ _ a4, y2 a a4 a5]
      have g234 : ∀ j, j ≠ 5 → j ≠ 6 → j < 15 ∨ 19 < j → mset (mset M3 234 5 0) 234 6 (nI f.1) 234 j = M 234 j := fun j h1 h2 h3 => by rw [mset_self, upd_at, if_neg h2, mset_self, upd_at, if_neg h1, y2' j h3, gx 234 (by decide) (by decide) (by omega)]
      obtain ⟨i1, i2, -, i4, i5, i6, i7, i8⟩ := h
      refine ⟨i1.eq (fun r hr => g _ (by omega) (by omega) (by omega) (by omega) (by omega)) (g _ (by omega) (by omega) (by omega) (by omega) (by omega)) (g _ (by omega) (by omega) (by omega) (by omega) (by omega)) (g _ (by omega) (by omega) (by omega) (by omega) (by omega)), ⟨0, by omega, ?_, ?_, fun k hk => absurd hk (by omega)⟩, ⟨S0, hS0.eq (fun a ha hb => g a (by omega) (by omega) (by omega) (by omega) (by omega)) (g _ (by omega) (by omega) (by omega) (by omega) (by omega))⟩, i4.eq (g _ (by omega) (by omega) (by omega) (by omega) (by omega)) (g234 _ (by omega) (by omega) (by omega)) (g _ (by omega) (by omega) (by omega) (by omega) (by omega)) (fun a ha hb => g a (by omega) (by omega) (by omega) (by omega) (by omega)) (g _ (by omega) (by omega) (by omega) (by omega) (by omega)), i5.eq (fun a ha hb => g a (by omega) (by omega) (by omega) (by omega) (by omega)) (g _ (by omega) (by omega) (by omega) (by omega) (by omega)) (g _ (by omega) (by omega) (by omega) (by omega) (by omega)), i6.eq (g _ (by omega) (by omega) (by omega) (by omega) (by omega)) (g234 _ (by omega) (by omega) (by omega)) (g _ (by omega) (by omega) (by omega) (by omega) (by omega)) (g _ (by omega) (by omega) (by omega) (by omega) (by omega)), ?_, ?_⟩
      · rw [g0 2 (by decide) (by decide), gx21]; rfl
      · rw [mset_self, upd_at, if_neg (by decide), mset_self, upd_at, if_pos rfl]; rfl
      · rw [g0 0 (by decide) (by decide), gx0 14 (by decide), g234 0 (by omega) (by omega) (by omega)]
        exact i7
      · rw [g0 0 (by decide) (by decide), gx13, mset_self, upd_at, if_pos rfl]
  | inr S =>
    rw [hp] at hx
    obtain ⟨hD, M2, x1, x2, x3, x4, x5⟩ := hx
    have hV := hD.vs
    rw [x1, Option.bind_some, nm_eq, nm_eq, if_neg n10, nm_eq]
    dsimp only
    have hsrc : Sqx (mset (mset M2 2 1 0) 11 1 1) 11 S := by
      obtain ⟨d1, d2, d3, d4⟩ := x3
      refine ⟨by rw [mset_self, upd_at, if_pos rfl, hD.1]; rfl, ?_, ?_, ?_, fun j hj => ?_⟩
      · rw [mset_self, upd_at, if_neg (by decide), mset_ne _ _ _ (by decide)]; exact d1
      · rw [mset_self, upd_at, if_neg (by decide), mset_ne _ _ _ (by decide)]; exact d2
      · rw [mset_self, upd_at, if_neg (by decide), mset_ne _ _ _ (by decide)]; exact d3
      · rw [mset_ne _ _ _ (by omega), mset_ne _ _ _ (by omega), show 11 + 1 + 1 + j = 13 + j by omega]
        exact d4 j hj
    obtain ⟨M3, t1, t2, t3, t4, t5⟩ := xtake (q := 4) (p := 11) (by decide) (by decide) (by omega) hsrc hV
    rw [t1, Option.bind_some, nm_eq]
    generalize hMx : mset M3 26 1 0 = Mx
    have gx : ∀ a, a ≠ 2 → ¬ (4 ≤ a ∧ a ≤ 17) → a ≠ 26 → Mx a = M a := fun a a1 a2 a3 => by rw [← hMx, mset_ne _ _ _ a3, t3 a (by omega), mset_ne _ _ _ (by omega), mset_ne _ _ _ a1, x4 a a1 (by omega), g1 a (by omega)]
    have g4 : ∀ a, 4 ≤ a → a ≤ 10 → Mx a = M3 a := fun a a1 a2 => by rw [← hMx, mset_ne _ _ _ (by omega)]
    have gx21 : Mx 2 1 = 0 := by rw [← hMx, mset_ne _ _ _ (by decide), t3 2 (by omega), mset_ne _ _ _ (by decide), mset_self, upd_at, if_pos rfl]
    have hX4 : Sqx Mx 4 S := t2.eq hV (g4 4 (by omega) (by omega)) (fun j hj => g4 _ (by omega) (by omega))
    have hy := yread (M := Mx) (hTy.keep (by rw [gx 234 (by decide) (by omega) (by decide)]) (gx 238 (by decide) (by omega) (by decide)))
    rw [hp] at hy
    obtain ⟨M4, c, y1, y2, y3, y4, y5, y6⟩ := hy
    obtain ⟨M5, c1, c2, c3, c4⟩ := loop_cp (body := fun z => b_X8_square_32 z.2 z.1) (M := mset M4 234 5 0) (ca := 240) (cb := 239) (oa := 0) (ob := 0) (by decide) (by
      intro M2 hM
      show b_X8_square_32 M2 (nI 39) = _
      unfold b_X8_square_32
      rw [if_pos (by decide)]) (by
      intro i M2 hi hM
      show b_X8_square_32 M2 (nI i) = _
      unfold b_X8_square_32
      rw [if_neg (by rw [show (39 : Int32) = nI 39 from rfl]; exact nI_ge hi (by omega)), chk_of (inB_nI hi (by omega)), chk_of (inB_nI hi (by omega)), nm_eq, nI_clamp (by omega), nI_1, Nat.zero_add])
    have c1' : loopF (fun z => b_X8_square_32 z.2 z.1) FUEL (0, mset M4 234 5 0) = some M5 := c1
    have i0 : (0 : Int32).toNatClampNeg = 0 := rfl
    have i3 : (3 : Int32).toNatClampNeg = 3 := rfl
    have e39 : ∀ k, k < 39 → M5 239 k = M4 240 k := fun k hk => by
      have := c3 k hk
      rw [Nat.zero_add] at this
      rw [this, mset_ne _ _ _ (by decide)]
    obtain ⟨w1, w2, w3, w4, w5⟩ := y3
    refine ⟨nI (S 3), Mx, mset (mset M5 239 0 1) 234 10 0, by rw [hX4.2.2.2.1], ?_, ?_⟩
    · dsimp only
      rw [y1, Option.bind_some, nm_eq, nm_eq, if_neg n10]
      dsimp only
      rw [c1', Option.bind_some, chk_of (by decide), i0, nm_eq, nm_eq, chk_of (by decide), i3, mset_ne _ _ _ (by decide), mset_self, upd_at, if_neg (by decide), e39 3 (by omega), w2]
    · generalize hMy : mset (mset M5 239 0 1) 234 10 0 = My
      have g0 : ∀ a, a ≠ 234 → a ≠ 239 → a ≠ 240 → My a = Mx a := fun a a1 a2 a3 => by rw [← hMy, mset_ne _ _ _ a1, mset_ne _ _ _ a2, c2 a a2, mset_ne _ _ _ a1, y5 a a1 a3]
      have g : ∀ a, a ≠ 2 → ¬ (4 ≤ a ∧ a ≤ 17) → a ≠ 26 → a ≠ 234 → a ≠ 239 → a ≠ 240 → My a = M a := fun a a1 a2 a3 a4 a5 a6 => by rw [g0 a a4 a5 a6, gx a a1 a2 a3]
      have g234 : ∀ j, j ≠ 5 → j ≠ 10 → j < 15 ∨ 19 < j → My 234 j = M 234 j := fun j h1 h2 h3 => by rw [← hMy, mset_self, upd_at, if_neg h2, mset_ne _ _ _ (by decide), c2 234 (by decide), mset_self, upd_at, if_neg h1, y6 j h3, gx 234 (by decide) (by omega) (by decide)]
      obtain ⟨i1, i2, -, i4, i5, i6, i7, i8⟩ := h
      refine ⟨i1.eq (fun r hr => g _ (by omega) (by omega) (by omega) (by omega) (by omega) (by omega)) (g _ (by omega) (by omega) (by omega) (by omega) (by omega) (by omega)) (g _ (by omega) (by omega) (by omega) (by omega) (by omega) (by omega)) (g _ (by omega) (by omega) (by omega) (by omega) (by omega) (by omega)), ⟨0, by omega, ?_, ?_, fun k hk => absurd hk (by omega)⟩, ⟨S, hX4.eq hV (g0 4 (by omega) (by omega) (by omega)) (fun j hj => g0 _ (by omega) (by omega) (by omega)), ?_, hV, fun j hj => ?_⟩, acts_join (n := 0) (p := p) (A := A) ⟨by omega, ?_, fun i hi => ?_, hXA.2.2.2.1, fun i hi => absurd hi (by omega)⟩ ⟨?_, fun i hi => absurd hi (by omega)⟩ (fun i hi => absurd hi (by omega)), i5.eq (fun a ha hb => g a (by omega) (by omega) (by omega) (by omega) (by omega) (by omega)) (g _ (by omega) (by omega) (by omega) (by omega) (by omega) (by omega)) (g _ (by omega) (by omega) (by omega) (by omega) (by omega) (by omega)), i6.eq (g _ (by omega) (by omega) (by omega) (by omega) (by omega) (by omega)) (g234 _ (by omega) (by omega) (by omega)) (g _ (by omega) (by omega) (by omega) (by omega) (by omega) (by omega)) (g _ (by omega) (by omega) (by omega) (by omega) (by omega) (by omega)), ?_, ?_⟩
      · rw [g0 2 (by decide) (by decide) (by decide), gx21]; rfl
      · rw [← hMy, mset_self, upd_at, if_neg (by decide), mset_ne _ _ _ (by decide), c2 234 (by decide), mset_self, upd_at, if_pos rfl]; rfl
      · have e : My 239 = upd (M5 239) 0 1 := by rw [← hMy, mset_ne _ _ _ (by decide), mset_self]
        have hn := hV.2.1
        rw [e]
        refine ⟨by rw [upd_at, if_pos rfl, hD.1]; rfl, by rw [upd_at, if_neg (by decide), e39 1 (by omega)]; exact w1, by rw [upd_at, if_neg (by decide), e39 3 (by omega)]; exact w2, by rw [upd_at, if_neg (by decide), e39 4 (by omega)]; exact w3, fun j hj => ?_, fun j h1 h2 => ?_⟩
        · rw [upd_at _ 0 _ (5 + j), if_neg (by omega), upd_at _ 0 _ (10 + j), if_neg (by omega), upd_at _ 0 _ (15 + j), if_neg (by omega), upd_at _ 0 _ (20 + j), if_neg (by omega), e39 (5 + j) (by omega), e39 (10 + j) (by omega), e39 (15 + j) (by omega), e39 (20 + j) (by omega)]
          exact w4 j hj
        · rw [upd_at, if_neg (by omega), e39 (20 + j) (by omega)]
          exact w5 j h2
      · have := t5 j hj
        rw [show 4 + 1 + 1 + j = 6 + j by omega] at this
        rw [g0 _ (by omega) (by omega) (by omega), g4 _ (by omega) (by omega), this, mset_ne _ _ _ (by omega), mset_ne _ _ _ (by omega), x4 _ (by omega) (by omega), g1 _ (by omega)]
        exact hS0.2.2.2 j hj
      · rw [g0 26 (by decide) (by decide) (by decide), ← hMx, mset_self, upd_at, if_pos rfl]; rfl
      · rw [g 27 (by decide) (by omega) (by decide) (by decide) (by decide) (by decide)]
        exact hXA.2.2.1 i hi
      · rw [← hMy, mset_self, upd_at, if_pos rfl]; rfl
      · rw [g 0 (by decide) (by omega) (by decide) (by decide) (by decide) (by decide), g234 0 (by omega) (by omega) (by omega)]
        exact i7
      · rw [g 0 (by decide) (by omega) (by decide) (by decide) (by decide) (by decide), g234 6 (by omega) (by omega) (by omega)]
        exact i8
