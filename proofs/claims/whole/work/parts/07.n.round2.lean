/-! rounds agree -/
def rI (r : Nat) : Int32 := if r = 0 then -1000000 else nI r
theorem xsettle {S : Nat → Nat} {l : List Nat} (hV : VS S) (hl : l.length ≤ 20) : ∀ (n r : Nat) (w : Nat → Nat) (M : Mem) (fuel : Nat), r + n = 21 → n ≤ 20 → n < fuel → (∀ j, j < S 3 → w j < 30) → Sqx M 18 (Sw S w) → PX M M l → ∃ z M', loopF (fun z => b_X7_settle_2 z.2 z.1) fuel (nI r, M) = some z ∧ sumC z (fun z10 => some (((-1000000), z10))) (fun z => some z) = some (rI (stl S l n r w).1, M') ∧ Sqx M' 18 (Sw S (stl S l n r w).2) ∧ TR M M' ∧ ∀ j, j < S 3 → (stl S l n r w).2 j < 30 := by
  intro n
  induction n with
  | zero =>
    intro r w M fuel hr hn20 hf hw hX hP
    obtain ⟨g, rfl⟩ : ∃ g, fuel = g + 1 := ⟨fuel - 1, by omega⟩
    have e : r = 21 := by omega
    subst e
    refine ⟨.inl M, M, loopF_out (body := fun z => b_X7_settle_2 z.2 z.1) (s := (nI 21, M)) ?_, rfl, hX, fun _ _ _ => rfl, hw⟩
    show b_X7_settle_2 M (nI 21) = _
    unfold b_X7_settle_2
    rw [if_pos (by decide)]
  | succ n ih =>
    intro r w M fuel hr hn20 hf hw hX hP
    obtain ⟨g, rfl⟩ : ∃ g, fuel = g + 1 := ⟨fuel - 1, by omega⟩
    obtain ⟨M1, h1, h2, h3⟩ := xsettle_round (nI r) hV hw hX hP hl
    have hb : b_X7_settle_2 M (nI r) = if (rd S l w (S 3)).1 = false then some (.inr (.inr (nI r, M1))) else some (.inl (nI (r + 1), M1)) := by
      unfold b_X7_settle_2
      rw [if_neg (by rw [show (20 : Int32) = nI 20 from rfl]; exact nI_nlt (by omega) (by omega)), h1, Option.bind_some, nI_1]
      cases hq : (rd S l w (S 3)).1 with
      | true => rfl
      | false => rfl
    have hw2 := rd_lt (l := l) hw (S 3)
    unfold stl
    by_cases c : (rd S l w (S 3)).1 = false
    · rw [if_pos c] at hb ⊢
      refine ⟨.inr (nI r, M1), M1, loopF_out (body := fun z => b_X7_settle_2 z.2 z.1) (s := (nI r, M)) hb, ?_, h2, h3, hw2⟩
      unfold rI
      rw [if_neg (show ¬ r = 0 from ?_)]
      · rfl
      · intro q
        subst q
        omega
    · rw [if_neg c] at hb ⊢
      obtain ⟨z, M', g1, g2, g3, g4, g5⟩ := ih (r + 1) _ M1 g (by omega) (by omega) (by omega) hw2 h2 ⟨by rw [h3 196 (by decide) (by decide)]; exact hP.1, by rw [h3 197 (by decide) (by decide)]; exact hP.2.1, fun _ _ _ => rfl⟩
      refine ⟨z, M', ?_, g2, g3, fun a ha hb => by rw [g4 a ha hb, h3 a ha hb], g5⟩
      rw [loopF_step (body := fun z => b_X7_settle_2 z.2 z.1) (s := (nI r, M)) (s' := (nI (r + 1), M1)) hb]
      exact g1
theorem ysettles {S : Nat → Nat} {l : List Nat} (hV : VS S) (hl : l.length ≤ 19) (hle : ∀ i, i < l.length → l.getD i 30 ≤ 30) : ∀ (n r : Nat) (w : Nat → Nat) (M : Mem) (fuel : Nat), r + n = 21 → n ≤ 20 → n < fuel → Lay M S w (S 1) → M 234 24 = nI l.length → (∀ i, i < l.length → M 247 i = cY (l.getD i 30)) → Sqm (M 239) S → ∃ z M', loopF (fun z => b_X8_settles_2 z.2 z.1) fuel (nI r, M) = some z ∧ sumC z (fun z9 => some (((-1000000), z9))) (fun z => some z) = some (rI (stl S l n r w).1, M') ∧ Lay M' S (stl S l n r w).2 (S 1) ∧ ∀ b, b ≠ 245 → M' b = M b := by
  intro n
  induction n with
  | zero =>
    intro r w M fuel hr hn20 hf hL k1 k2 k3
    obtain ⟨g, rfl⟩ : ∃ g, fuel = g + 1 := ⟨fuel - 1, by omega⟩
    have e : r = 21 := by omega
    subst e
    refine ⟨.inl M, M, loopF_out (body := fun z => b_X8_settles_2 z.2 z.1) (s := (nI 21, M)) ?_, rfl, hL, fun _ _ => rfl⟩
    show b_X8_settles_2 M (nI 21) = _
    unfold b_X8_settles_2
    rw [if_pos (by decide)]
  | succ n ih =>
    intro r w M fuel hr hn20 hf hL k1 k2 k3
    obtain ⟨g, rfl⟩ : ∃ g, fuel = g + 1 := ⟨fuel - 1, by omega⟩
    obtain ⟨M1, h1, h2, h3⟩ := ysettle_round (nI r) k1 k2 hl hle k3 hV hL
    have hb : b_X8_settles_2 M (nI r) = if (rd S l w (S 3)).1 = false then some (.inr (.inr (nI r, M1))) else some (.inl (nI (r + 1), M1)) := by
      unfold b_X8_settles_2
      rw [if_neg (by rw [show (20 : Int32) = nI 20 from rfl]; exact nI_nlt (by omega) (by omega)), h1, Option.bind_some, nI_1]
      cases hq : (rd S l w (S 3)).1 with
      | true => rfl
      | false => rfl
    unfold stl
    by_cases c : (rd S l w (S 3)).1 = false
    · rw [if_pos c] at hb ⊢
      refine ⟨.inr (nI r, M1), M1, loopF_out (body := fun z => b_X8_settles_2 z.2 z.1) (s := (nI r, M)) hb, ?_, h2, h3⟩
      unfold rI
      rw [if_neg (show ¬ r = 0 from ?_)]
      · rfl
      · intro q
        subst q
        omega
    · rw [if_neg c] at hb ⊢
      obtain ⟨z, M', g1, g2, g3, g4⟩ := ih (r + 1) _ M1 g (by omega) (by omega) (by omega) h2 (by rw [h3 234 (by decide)]; exact k1) (by rw [h3 247 (by decide)]; exact k2) (by rw [h3 239 (by decide)]; exact k3)
      refine ⟨z, M', ?_, g2, g3, fun a ha => by rw [g4 a ha, h3 a ha]⟩
      rw [loopF_step (body := fun z => b_X8_settles_2 z.2 z.1) (s := (nI r, M)) (s' := (nI (r + 1), M1)) hb]
      exact g1
theorem Sw_self (S : Nat → Nat) : Sw S (wh S) = S := by
  funext x
  unfold Sw wh
  by_cases q : 15 ≤ x ∧ x < 20
  · rw [if_pos q, show 15 + (x - 15) = x by omega]
  · rw [if_neg q]
theorem eqI_of {M M' : Mem} (h : ∀ a, ¬ (11 ≤ a ∧ a ≤ 24) → a ≠ 196 → a ≠ 197 → ¬ (198 ≤ a ∧ a ≤ 201) → M' a = M a) : EqI M M' := ⟨fun a ha => h a (fun q => ha (by unfold scr; omega)) (fun q => ha (by unfold scr; omega)) (fun q => ha (by unfold scr; omega)) (fun q => ha (by unfold scr; omega)), congrFun (h 2 (by omega) (by omega) (by omega) (by omega)) 1, congrFun (h 234 (by omega) (by omega) (by omega) (by omega)) _, congrFun (h 234 (by omega) (by omega) (by omega) (by omega)) _, congrFun (h 234 (by omega) (by omega) (by omega) (by omega)) _, congrFun (h 234 (by omega) (by omega) (by omega) (by omega)) _, congrFun (h 234 (by omega) (by omega) (by omega) (by omega)) _⟩
theorem rI_none {k : Nat} (hk : k < 2 ^ 30) : rI k = -1000000 ↔ k = 0 := by
  unfold rI
  by_cases h : k = 0
  · rw [if_pos h]
    exact ⟨fun _ => h, fun _ => rfl⟩
  · rw [if_neg h]
    refine ⟨fun q => ?_, fun q => absurd q h⟩
    have := congrArg Int32.toInt q
    rw [nI_toInt (by omega), show (-1000000 : Int32).toInt = -1000000 from rfl] at this
    omega
theorem stl_le (S : Nat → Nat) (l : List Nat) : ∀ n r w, (stl S l n r w).1 ≤ r + n := by
  intro n
  induction n with
  | zero => intro r w; exact Nat.zero_le _
  | succ n ih =>
    intro r w
    unfold stl
    by_cases c : (rd S l w (S 3)).1 = false
    · rw [if_pos c]
      dsimp only
      omega
    · rw [if_neg c]
      have := ih (r + 1) (rd S l w (S 3)).2
      omega
theorem ag_rounds {M : Mem} (h : Inv M) (a b c : Int32) : AgWW (m_X7_rounds M a b c) (fun M1 => m_X8_rounds M1 a b c) := by
  obtain ⟨S, hS⟩ := h.2.2.1
  have hV := hS.2.2.1
  have hn := hV.2.1
  have i0 : (0 : Int32).toNatClampNeg = 0 := rfl
  have i3 : (3 : Int32).toNatClampNeg = 3 := rfl
  unfold m_X7_rounds m_X8_rounds
  rw [hS.1.1]
  by_cases h0 : nI (S 0) = 0
  · rw [if_pos h0]
    refine ww_same h (r := -1000002) rfl ?_
    rw [chk_of (by decide), i0, hS.2.1.1, if_pos h0]
  · rw [if_neg h0]
    have hs1 : (nI (S 3) - 1).toInt = (S 3 : Int) - 1 := by
      have : ∀ n, n ≤ 5 → (nI n - 1).toInt = (n : Int) - 1 := by decide +kernel
      exact this _ hn
    rcases gthrow M M a b with ⟨c', s, hc, hs, rfl, rfl, g1, g2, g3⟩ | ⟨g3, g⟩
    · rw [g1, g2, Option.bind_some, Option.bind_some, if_neg n10, if_neg n10]
      -- the tail, both sides
      have run : ∃ r3 M3 M5 k w, m_X5_takeFrom M 18 4 = some r3 ∧ (∃ r4, m_X3_throwAt r3 (nI c') (nI s) = some r4 ∧ m_X7_settle r4 = some (rI k, M3)) ∧ EqI M M3 ∧ Sqx M3 18 (Sw S w) ∧ VS (Sw S w) ∧ k < 2 ^ 30 ∧ (∃ M2 M4, m_X8_lays M3 = some M2 ∧ m_X8_laysWays M2 (nI c') (nI s) = some M4 ∧ m_X8_settles M4 = some (rI k, M5)) ∧ EqI M3 M5 ∧ Lay M5 S w (S 1) := by
        obtain ⟨M1, t1, t2, t3, -, -⟩ := xtake (M := M) (q := 18) (p := 4) (by decide) (by decide) (by omega) hS.1 hV
        have e1 : EqI M M1 := eqI_of (fun a h1 _ _ _ => t3 a (by omega))
        obtain ⟨M2, x1, x2, hS2, hy⟩ := both (e1.sq hS) hc hs
        obtain ⟨o1, o2, o3⟩ := way_ok hc hs
        have hX2 : Sqx M2 18 (Sw S (wh S)) := by
          rw [Sw_self]
          exact t2.eq hV (x2.2.2 18 (by decide) (by decide)) (fun j hj => x2.2.2 _ (by omega) (by omega))
        have hw : ∀ j, j < S 3 → wh S j < 30 := fun j hj => (hV.2.2.2.2.2 j hj).2.2.1
        obtain ⟨z, M3, s1, s2, s3, s4, s5⟩ := xsettle hV (by omega) 20 1 (wh S) M2 FUEL (by omega) (by omega) (FUEL_lt (by omega)) hw hX2 ⟨x2.1, x2.2.1, fun _ _ _ => rfl⟩
        have e2 : EqI M2 M3 := eqI_of (fun a h1 _ _ h4 => s4 a (by omega) (by omega))
        obtain ⟨M4, M5, l1, l2, l3, hS5, hL, w1, w2⟩ := hy M3 e2
        obtain ⟨z', M6, u1, u2, u3, u4⟩ := ysettles hV o1 o3 20 1 (wh S) M5 FUEL (by omega) (by omega) (FUEL_lt (by omega)) hL w1 w2 hS5.2.1
        have hk := stl_le S (wayL c' s) 20 1 (wh S)
        refine ⟨M1, M3, M6, (stl S (wayL c' s) 20 1 (wh S)).1, (stl S (wayL c' s) 20 1 (wh S)).2, t1, ⟨M2, x1, ?_⟩, e1.trans (x2.eqI.trans e2), s3, hV.sw s5, by omega, ⟨M4, M5, l1, l2, ?_⟩, l3.trans (eqI_loc u4), u3⟩
        · unfold m_X7_settle
          have s1' : loopF (fun z => b_X7_settle_2 z.2 z.1) FUEL (1, M2) = some z := s1
          rw [s1', Option.bind_some]
          exact s2
        · unfold m_X8_settles
          have u1' : loopF (fun z => b_X8_settles_2 z.2 z.1) FUEL (1, M5) = some z' := u1
          rw [u1', Option.bind_some]
          exact u2
      obtain ⟨M1, M3, M5, k, w, t1, ⟨M2, t2, t3⟩, e3, hX3, hVw, hk, ⟨M4, M4', u1, u2, u3⟩, e5, hL⟩ := run
      have hS3 := e3.sq hS
      have k4 : m_X8_isThrow M3 (nI c') (nI s) = some 1 := by
        rcases gthrow M M3 (nI c') (nI s) with ⟨_, _, -, -, -, -, -, -, k4⟩ | ⟨-, k5⟩
        · exact k4
        · rcases k5 with k5 | ⟨-, k5⟩
          · rw [g1] at k5; exact absurd k5 (by decide)
          · rw [g2] at k5; exact absurd k5 (by decide)
      have ySt : ¬ M3 239 0 = 0 := by rw [hS3.2.1.1]; exact h0
      have hw3 : Sw S w 3 = S 3 := Sw_ne _ _ (by omega)
      by_cases hc1 : c = -1
      · rw [if_pos hc1]
        unfold j_X7_rounds_46
        have hnone : m_X5_at M3 18 c = some none := xat_none hX3 hVw (by rw [hc1]; unfold inN; rw [show (-1 : Int32).toInt = -1 from rfl]; omega)
        rw [t1, Option.bind_some, t2, Option.bind_some, t3, Option.bind_some, nm_eq]
        dsimp only
        rw [hnone, Option.bind_some]
        have yy : m_X8_in M3 c.toInt64 (-1) (((M3 239 3) - 1).toInt64) = some 1 := by
          have hcn : (-1 : Int) ≤ c.toInt ∧ c.toInt ≤ (S 3 : Int) - 1 := by
            rw [hc1, show (-1 : Int32).toInt = -1 from rfl]
            omega
          rw [hS3.2.1.2.2.1, m_inI M3 _ _ _ (-1) ((S 3 : Int) - 1) rfl (by rw [Int32.toInt_toInt64]; exact hs1), if_pos hcn]
        refine ww_q h (r := rI k) (M1 := M3) (M2 := M5) ?_ e3 ?_ e5
        · by_cases hk0 : rI k = -1000000
          · rw [if_pos hk0]
          · rw [if_neg hk0]; rfl
        · rw [chk_of (by decide), i0, if_neg ySt, k4, Option.bind_some, if_neg n10, chk_of (by decide), i3, yy, Option.bind_some, if_neg n10, u1, Option.bind_some, u2, Option.bind_some, u3, Option.bind_some, nm_eq, if_pos hc1]
      · rw [if_neg hc1]
        rcases gchild hS c with ⟨j, hj, rfl, h1, h2, h3⟩ | ⟨h1, h2⟩
        · rw [h1, Option.bind_some]
          show AgWW (chk _ _) _
          rw [chk_of h2]
          unfold j_X7_rounds_46
          have hat : m_X5_at M3 18 (nI j) = some (some (18 + 1 + 1 + j)) := xat hX3 hVw (by rw [hw3]; exact hj)
          rw [t1, Option.bind_some, t2, Option.bind_some, t3, Option.bind_some, nm_eq]
          dsimp only
          rw [hat, Option.bind_some]
          have hxj := (hX3.2.2.2.2 j (by rw [hw3]; exact hj)).2.2.1
          rw [Sw_at _ _ (by omega)] at hxj
          have hyj := (hL.2.2 j hj).1
          have yy : m_X8_in M3 (nI j).toInt64 (-1) (((M3 239 3) - 1).toInt64) = some 1 := by
            rw [hS3.2.1.2.2.1, m_inI M3 _ _ _ (-1) ((S 3 : Int) - 1) rfl (by rw [Int32.toInt_toInt64]; exact hs1), if_pos (by rw [nI_toInt (by omega)]; omega)]
          by_cases hk0 : rI k = -1000000
          · rw [if_pos hk0]
            refine ww_q h (r := rI k) (M1 := M3) (M2 := M5) rfl e3 ?_ e5
            rw [chk_of (by decide), i0, if_neg ySt, k4, Option.bind_some, if_neg n10, chk_of (by decide), i3, yy, Option.bind_some, if_neg n10, u1, Option.bind_some, u2, Option.bind_some, u3, Option.bind_some, nm_eq, if_neg hc1, if_pos hk0]
          · rw [if_neg hk0]
            show AgWW (chk (kdB (18 + 1 + 1 + j) 2) _) _
            rw [chk_of (kdB_of (kd_ch (q := 18) (by decide) j (by omega)))]
            refine ww_q h (r := nI (w j)) (M1 := M3) (M2 := M5) (by rw [hxj]) e3 ?_ e5
            rw [chk_of (by decide), i0, if_neg ySt, k4, Option.bind_some, if_neg n10, chk_of (by decide), i3, yy, Option.bind_some, if_neg n10, u1, Option.bind_some, u2, Option.bind_some, u3, Option.bind_some, nm_eq, if_neg hc1, if_neg hk0, chk_of (inB_nI (by omega) (by omega)), nI_clamp (by omega)]
            show some (M5 245 j, M5) = _
            rw [hyj]
        · rw [h1]
          have hcn : ¬ ((-1 : Int) ≤ c.toInt ∧ c.toInt ≤ (S 3 : Int) - 1) := by
            rintro ⟨q1, q2⟩
            have hne : c.toInt ≠ -1 := fun q => hc1 (by rw [i32_eq, q]; rfl)
            have hin : inN c (S 3) := by unfold inN; omega
            obtain ⟨j, hj, rfl⟩ := inN_nI hin
            rw [xat hS.1 hV hj] at h1
            exact absurd h1 (by simp)
          have yy : m_X8_in M c.toInt64 (-1) (((M 239 3) - 1).toInt64) = some 0 := by
            rw [hS.2.1.2.2.1, m_inI M _ _ _ (-1) ((S 3 : Int) - 1) rfl (by rw [Int32.toInt_toInt64]; exact hs1), if_neg hcn]
          refine ww_same h (r := -1000001) rfl ?_
          rw [chk_of (by decide), i0, hS.2.1.1, if_neg h0, g3, Option.bind_some, if_neg n10, chk_of (by decide), i3, yy]
          rfl
    · refine ww_same h (r := -1000001) ?_ ?_
      · rcases g with g | ⟨g, g'⟩
        · rw [g]; rfl
        · rw [g, Option.bind_some, if_neg n10, g']; rfl
      · rw [chk_of (by decide), i0, hS.2.1.1, if_neg h0, g3]; rfl
