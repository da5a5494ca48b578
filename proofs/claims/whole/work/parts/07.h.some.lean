theorem xs_loop (M : Mem) (x5 : Int32) {n L m : Nat} (hn : n ≤ 6) : loopF (fun z => b_X7_some_92 M (nI n) x5 (nI L) (nI m) z.1 z.2.1 z.2.2) FUEL (1, 1, 0) = some (nI (L ^ n), nI (m ^ n)) := by
  have key := loopF_for (body := fun z => b_X7_some_92 M (nI n) x5 (nI L) (nI m) z.1 z.2.1 z.2.2) n (fun i => (nI (L ^ i), nI (m ^ i), nI i)) (nI (L ^ n), nI (m ^ n)) FUEL (FUEL_lt (by omega)) ?_ ?_
  · exact key
  · intro i hi
    show b_X7_some_92 M (nI n) x5 (nI L) (nI m) (nI (L ^ i)) (nI (m ^ i)) (nI i) = _
    unfold b_X7_some_92
    rw [if_neg (nI_ge hi (by omega)), nm_eq, nm_eq, pk_mul, pk_mul, nI_1]
    rfl
  · show b_X7_some_92 M (nI n) x5 (nI L) (nI m) (nI (L ^ n)) (nI (m ^ n)) (nI n) = _
    unfold b_X7_some_92
    rw [if_pos (nI_le (Nat.le_refl _) (by omega))]
theorem ys_loop (M : Mem) (x1 x5 : Int32) {n L m k : Nat} (hn : n ≤ 6) (h1 : M 234 24 = nI L) (h2 : m_X8_waysOf M x1 = some (nI k)) (hm : k ≤ L) (e : m = L - k) : loopF (fun z => b_X8_some_62 M x1 (nI n) x5 z.1 z.2.1 z.2.2) FUEL (1, 1, 0) = some (nI (m ^ n), nI (L ^ n)) := by
  have key := loopF_for (body := fun z => b_X8_some_62 M x1 (nI n) x5 z.1 z.2.1 z.2.2) n (fun i => (nI (m ^ i), nI (L ^ i), nI i)) (nI (m ^ n), nI (L ^ n)) FUEL (FUEL_lt (by omega)) ?_ ?_
  · exact key
  · intro i hi
    show b_X8_some_62 M x1 (nI n) x5 (nI (m ^ i)) (nI (L ^ i)) (nI i) = _
    unfold b_X8_some_62
    rw [if_neg (nI_ge hi (by omega)), h2, Option.bind_some, h1, nm_eq, nm_eq, pk_sub hm, ← e, pk_mul, pk_mul, nI_1]
    rfl
  · show b_X8_some_62 M x1 (nI n) x5 (nI (m ^ n)) (nI (L ^ n)) (nI n) = _
    unfold b_X8_some_62
    rw [if_pos (nI_le (Nat.le_refl _) (by omega))]
theorem pow_le6 {L n : Nat} (hL : L ≤ 19) (hn : n ≤ 6) : L ^ n < 2 ^ 27 := by
  have h1 : L ^ n ≤ 19 ^ n := Nat.pow_le_pow_left hL n
  have h2 : 19 ^ n ≤ 19 ^ 6 := Nat.pow_le_pow_right (by decide) hn
  have h3 : 19 ^ 6 < 2 ^ 27 := by decide
  omega
theorem ag_some {M : Mem} (h : Inv M) (a b c d x : Int32) : AgWW (m_X7_some M a b c d x) (fun M1 => m_X8_some M1 a b c d x) := by
  obtain ⟨S, hS⟩ := h.2.2.1
  have hV := hS.2.2.1
  have hn := hV.2.1
  unfold m_X7_some m_X8_some
  rcases gchild hS a with ⟨j, hj, rfl, h1, h2, h3⟩ | ⟨h1, h2⟩
  · rw [h1, Option.bind_some]
    show AgWW (chk _ _) _
    rw [chk_of h2]
    rcases gthrow M M b c with ⟨c, s, hc, hs, rfl, rfl, g1, g2, g3⟩ | ⟨g3, g⟩
    · rw [g1, g2, Option.bind_some, Option.bind_some, if_neg n10, if_neg n10]
      have z0 : (0 : Int32).toInt = 0 := rfl
      have z6 : (6 : Int32).toInt = 6 := rfl
      rcases gin M d 0 6 0 6 rfl rfl with ⟨p1, p2, p3⟩ | ⟨p1, p3⟩
      · obtain ⟨n, hn6, rfl⟩ := inN_nI (x := d) (N := 7) ⟨p1, by omega⟩
        rw [if_neg (nI_pos (by omega)), if_neg (by rw [show (6 : Int32) = nI 6 from rfl]; exact nI_nlt (by omega) (by omega))]
        rcases geither M M x with ⟨e, f1, f2⟩ | ⟨f1, f2⟩
        · obtain ⟨M1, x1, x2, hS1, hy⟩ := both hS hc hs
          obtain ⟨M2, M3, l1, l2, l3, hS3, hL, w1, w2⟩ := hy M1 (EqI.refl _)
          obtain ⟨o1, o2, o3⟩ := way_ok hc hs
          have hp := picksN_le S (wh S) (S 1) j (wayL c s)
          have q1 := pow_le6 (L := (wayL c s).length) (n := n) o1 (by omega)
          have q2 : ((wayL c s).length - picksN S (wh S) (S 1) j (wayL c s)) ^ n ≤ (wayL c s).length ^ n := Nat.pow_le_pow_left (by omega) n
          have q3 : 0 < (wayL c s).length ^ n := Nat.pow_pos (by omega)
          have q4 : (wayL c s).length ^ n - ((wayL c s).length - picksN S (wh S) (S 1) j (wayL c s)) ^ n < 2 ^ 31 := by omega
          rw [f1, Option.bind_some, if_neg n10, x1, Option.bind_some, nm_eq, xcount x2 (by omega) (by decide) hS1.1 hV (by omega), Option.bind_some, x2.1, nm_eq, pk_sub hp, xs_loop _ _ (by omega), Option.bind_some]
          dsimp only
          rw [pk_sub q2, xfrac _ q4 q3 q1, Option.bind_some]
          refine ww_q h rfl x2.eqI (M2 := M3) ?_ l3
          rcases gchild hS1 (nI j) with ⟨j', -, -, -, -, k3⟩ | ⟨k1, -⟩
          · rcases gthrow M M1 (nI c) (nI s) with ⟨_, _, -, -, -, -, -, -, k4⟩ | ⟨-, k5⟩
            · rcases geither M M1 x with ⟨-, -, k6⟩ | ⟨k6, -⟩
              · rcases gin M1 (nI n) 0 6 0 6 rfl rfl with ⟨-, -, k7⟩ | ⟨k7, -⟩
                · rw [k3, Option.bind_some, if_neg n10, k4, Option.bind_some, if_neg n10, k7, Option.bind_some, if_neg n10, k6, Option.bind_some, if_neg n10, l1, Option.bind_some, l2, Option.bind_some, ys_loop M3 (nI j) x (by omega) w1 (yways w1 w2 o1 o3 hS3.2.1 hV hL (by omega)) hp rfl, Option.bind_some]
                  dsimp only
                  rw [pk_sub q2, yfrac _ q4 q3 q1, Option.bind_some]
                · exact absurd ⟨p1, p2⟩ k7
              · rw [f1] at k6; exact absurd k6 (by decide)
            · rcases k5 with k5 | ⟨-, k5⟩
              · rw [g1] at k5; exact absurd k5 (by decide)
              · rw [g2] at k5; exact absurd k5 (by decide)
          · rw [xat hS1.1 hV hj] at k1; exact absurd k1 (by simp)
        · refine ww_same h (r := -1000001) ?_ ?_
          · rw [f1]; rfl
          · rw [h3, Option.bind_some, if_neg n10, g3, Option.bind_some, if_neg n10, p3, Option.bind_some, if_neg n10, f2]; rfl
      · refine ww_same h (r := -1000001) ?_ ?_
        · by_cases q1 : d < 0
          · rw [if_pos q1]
          · rw [if_neg q1]
            by_cases q2 : 6 < d
            · rw [if_pos q2]
            · exfalso
              apply p1
              have u : ¬ d.toInt < (0 : Int32).toInt := fun q => q1 (i32_lt.mpr q)
              have v : ¬ (6 : Int32).toInt < d.toInt := fun q => q2 (i32_lt.mpr q)
              omega
        · rw [h3, Option.bind_some, if_neg n10, g3, Option.bind_some, if_neg n10, p3]; rfl
    · refine ww_same h (r := -1000001) ?_ ?_
      · rcases g with g | ⟨g, g'⟩
        · rw [g]; rfl
        · rw [g, Option.bind_some, if_neg n10, g']; rfl
      · rw [h3, Option.bind_some, if_neg n10, g3]; rfl
  · exact ww_same h (r := -1000001) (by rw [h1]; rfl) (by rw [h2]; rfl)
