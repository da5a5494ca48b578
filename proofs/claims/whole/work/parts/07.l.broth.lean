/-! ## stand, brothers agree -/
theorem eqI_loc {M M' : Mem} (h : ∀ b, b ≠ 245 → M' b = M b) : EqI M M' := ⟨fun a ha => h a (fun q => ha (by unfold scr; omega)), congrFun (h 2 (by decide)) 1, congrFun (h 234 (by decide)) _, congrFun (h 234 (by decide)) _, congrFun (h 234 (by decide)) _, congrFun (h 234 (by decide)) _, congrFun (h 234 (by decide)) _⟩
theorem eqI_pk {M M' : Mem} {T : Nat} (hT : T = 198 ∨ T = 199) (h : ∀ b, b ≠ T → M' b = M b) : EqI M M' := ⟨fun a ha => h a (fun q => ha (by unfold scr; omega)), congrFun (h 2 (by omega)) 1, congrFun (h 234 (by omega)) _, congrFun (h 234 (by omega)) _, congrFun (h 234 (by omega)) _, congrFun (h 234 (by omega)) _, congrFun (h 234 (by omega)) _⟩
theorem ag_stand {M : Mem} (h : Inv M) (a b c : Int32) : AgWW (m_X7_stand M a b c) (fun M1 => m_X8_stand M1 a b c) := by
  obtain ⟨S, hS⟩ := h.2.2.1
  have hV := hS.2.2.1
  have hn := hV.2.1
  unfold m_X7_stand m_X8_stand
  rcases gchild hS a with ⟨j, hj, rfl, h1, h2, h3⟩ | ⟨h1, h2⟩
  · rw [h1, Option.bind_some]
    show AgWW (chk _ _) _
    rw [chk_of h2]
    rcases gthrow M M b c with ⟨c, s, hc, hs, rfl, rfl, g1, g2, g3⟩ | ⟨g3, g⟩
    · obtain ⟨M1, x1, x2, hS1, hy⟩ := both hS hc hs
      obtain ⟨o1, o2, o3⟩ := way_ok hc hs
      obtain ⟨M1', b1, b2⟩ := xbest (q := 4) (by decide) hS1.1 hV x2 (by omega) (by omega) hj
      have e1 := eqI_pk (Or.inl rfl) b2
      obtain ⟨M2, M3, l1, l2, l3, hS3, hL, w1, w2⟩ := hy M1' e1
      obtain ⟨M4, y1, y2, y3⟩ := ystand w1 w2 o1 o3 hS3.2.1 hV hL hj
      rw [g1, g2, Option.bind_some, Option.bind_some, if_neg n10, if_neg n10, x1, Option.bind_some, b1, Option.bind_some]
      refine ww_q h rfl (x2.eqI.trans e1) (M2 := M4) ?_ (l3.trans (eqI_loc y2))
      rcases gchild (e1.sq hS1) (nI j) with ⟨j', -, -, -, -, k3⟩ | ⟨k1, -⟩
      · rcases gthrow M M1' (nI c) (nI s) with ⟨_, _, -, -, -, -, -, -, k4⟩ | ⟨-, k5⟩
        · rw [k3, Option.bind_some, if_neg n10, k4, Option.bind_some, if_neg n10, l1, Option.bind_some, l2, Option.bind_some, y1]
          rfl
        · rcases k5 with k5 | ⟨-, k5⟩
          · rw [g1] at k5; exact absurd k5 (by decide)
          · rw [g2] at k5; exact absurd k5 (by decide)
      · rw [xat (e1.sq hS1).1 hV hj] at k1; exact absurd k1 (by simp)
    · refine ww_same h (r := -1000001) ?_ ?_
      · rcases g with g | ⟨g, g'⟩
        · rw [g]; rfl
        · rw [g, Option.bind_some, if_neg n10, g']; rfl
      · rw [h3, Option.bind_some, if_neg n10, g3]; rfl
  · exact ww_same h (r := -1000001) (by rw [h1]; rfl) (by rw [h2]; rfl)
theorem bs_or (p q : Nat → Bool) (n : Nat) : bs p n ||| bs q n = bs (fun i => p i || q i) n := by
  apply Nat.eq_of_testBit_eq
  intro i
  rw [Nat.testBit_or, bs_bit, bs_bit, bs_bit]
  cases decide (i < n) <;> simp
theorem countP_or_add {α : Type} (p q : α → Bool) (l : List α) (h : ∀ x, ¬ (p x = true ∧ q x = true)) : l.countP (fun x => p x || q x) = l.countP p + l.countP q := by
  induction l with
  | nil => rfl
  | cons a l ih =>
    rw [List.countP_cons, List.countP_cons, List.countP_cons, ih]
    have := h a
    cases hp : p a <;> cases hq : q a <;> simp_all <;> omega
/-- what two have together, the one at x, the other at y -/
def twoN (S w : Nat → Nat) (h a b : Nat) (l : List Nat) (n : Nat) : Nat := picksN S (movd (movd w a (n / 30)) b (n % 30)) h a l + picksN S (movd (movd w a (n / 30)) b (n % 30)) h b l
theorem two_cnt (S w : Nat → Nat) (h a b : Nat) (l : List Nat) (n : Nat) (hab : a ≠ b) : twoN S w h a b l n = l.countP (fun c => (pick S (movd (movd w a (n / 30)) b (n % 30)) h c == a + 1) || (pick S (movd (movd w a (n / 30)) b (n % 30)) h c == b + 1)) := by
  unfold twoN
  rw [picksN_eq, picksN_eq, countP_or_add]
  rintro c ⟨h1, h2⟩
  rw [beq_iff_eq] at h1 h2
  omega
theorem two_le (S w : Nat → Nat) (h a b : Nat) (l : List Nat) (n : Nat) (hab : a ≠ b) : twoN S w h a b l n ≤ l.length := by
  rw [two_cnt _ _ _ _ _ _ _ hab]
  exact List.countP_le_length
theorem pc_two {S : Nat → Nat} {a b : Nat} {l : List Nat} {n : Nat} (ha : a < S 3) (hb : b < S 3) (hab : a ≠ b) (hl : l.length ≤ 20) : pc 32 (told S a b l (n / 30) l.length ||| told S b a l (n % 30) l.length) = twoN S (wh S) (S 1) a b l n := by
  unfold told
  rw [bs_or, pc_bs _ (by omega)]
  unfold wtB
  rw [cnt_getD (fun c => wB S (wh S) (S 1) a b (n / 30) c || wB S (wh S) (S 1) b a (n % 30) c) l, two_cnt _ _ _ _ _ _ _ hab]
  apply List.countP_congr
  intro c _
  rw [wB_two ha hb hab]
theorem xpair {M : Mem} {S : Nat → Nat} {a b : Nat} {l : List Nat} (ha : a < S 3) (hb : b < S 3) (hab : a ≠ b) (hl : l.length ≤ 20) (h1 : ∀ k, k < 30 → M 198 k = nI (told S a b l k l.length)) (h2 : ∀ k, k < 30 → M 199 k = nI (told S b a l k l.length)) : m_X7_bestPair M = some (nI (lgst (twoN S (wh S) (S 1) a b l) 900).1) := by
  have hf : ∀ n, twoN S (wh S) (S 1) a b l n ≤ 20 := fun n => Nat.le_trans (two_le _ _ _ _ _ _ _ hab) hl
  generalize hF : twoN S (wh S) (S 1) a b l = F at hf
  have hlt : ∀ k, told S a b l k l.length < 2 ^ 32 ∧ told S b a l k l.length < 2 ^ 32 := fun k => ⟨Nat.lt_of_lt_of_le (bs_lt _ _) (Nat.pow_le_pow_right (by omega) (by omega)), Nat.lt_of_lt_of_le (bs_lt _ _) (Nat.pow_le_pow_right (by omega) (by omega))⟩
  unfold m_X7_bestPair
  have key := loopF_for (body := fun z => b_X7_bestPair_6 M z.1 z.2.1 z.2.2) 30 (fun i => (nI (lgst F (30 * i)).1, mI (lgst F (30 * i)).2, nI i)) (nI (lgst F 900).1) FUEL (FUEL_lt (by omega)) ?_ ?_
  · have e0 : ((0 : Int32), (-1 : Int32), (0 : Int32)) = (nI (lgst F (30 * 0)).1, mI (lgst F (30 * 0)).2, nI 0) := rfl
    rw [e0, key]
    rfl
  · intro i hi
    show b_X7_bestPair_6 M _ _ (nI i) = _
    unfold b_X7_bestPair_6
    rw [if_neg (by rw [show (30 : Int32) = nI 30 from rfl]; exact nI_ge hi (by omega))]
    have k2 := loopF_for (body := fun z => b_X7_bestPair_18 M (nI i) z.1 z.2.1 z.2.2) 30 (fun k => (nI (lgst F (30 * i + k)).1, mI (lgst F (30 * i + k)).2, nI k)) (nI (lgst F (30 * (i + 1))).1, mI (lgst F (30 * (i + 1))).2) FUEL (FUEL_lt (by omega)) ?_ ?_
    · dsimp only
      have e1 : (nI (lgst F (30 * i)).1, mI (lgst F (30 * i)).2, (0 : Int32)) = (nI (lgst F (30 * i + 0)).1, mI (lgst F (30 * i + 0)).2, nI 0) := rfl
      rw [e1, k2, Option.bind_some, nI_1]
    · intro k hk
      show b_X7_bestPair_18 M (nI i) _ _ (nI k) = _
      unfold b_X7_bestPair_18
      have e1 : (30 * i + k) / 30 = i := by omega
      have e2 : (30 * i + k) % 30 = k := by omega
      have e3 := pc_two (n := 30 * i + k) ha hb hab hl
      rw [e1, e2, hF] at e3
      have hb := lgst_le (f := F) (n := 30 * i + k) (B := 20) (fun k hk => hf k)
      have hfi := hf (30 * i + k)
      rw [if_neg (by rw [show (30 : Int32) = nI 30 from rfl]; exact nI_ge hk (by omega)), chk_of (inB_nI hi (by omega)), chk_of (inB_nI hk (by omega)), nI_clamp (by omega), nI_clamp (by omega), h1 i hi, h2 k hk, nx_or (hlt i).1 (hlt k).2, bitCount M (Nat.or_lt_two_pow (hlt i).1 (hlt k).2), Option.bind_some, e3, show (30 : Int32) = nI 30 from rfl, pk_mul, nI_add, nI_1, nm_eq, Nat.mul_comm i 30]
      have e4 : 30 * i + (k + 1) = (30 * i + k) + 1 := by omega
      rw [e4]
      conv => rhs; rw [lgst]
      by_cases c : (lgst F (30 * i + k)).2 < F (30 * i + k) + 1
      · rw [if_neg (fun q => (mI_le (by omega) (by omega)).mp q c), if_pos c, mI_1]
      · rw [if_pos ((mI_le (by omega) (by omega)).mpr c), if_neg c]
    · show b_X7_bestPair_18 M (nI i) _ _ (nI 30) = _
      unfold b_X7_bestPair_18
      rw [if_pos (by decide)]
      rfl
  · show b_X7_bestPair_6 M _ _ (nI 30) = _
    unfold b_X7_bestPair_6
    rw [if_pos (by decide)]
theorem ypair {M : Mem} {l : List Nat} {S w : Nat → Nat} {h : Nat} (x5 : Int32) (h1 : M 234 24 = nI l.length) (h2 : ∀ i, i < l.length → M 247 i = cY (l.getD i 30)) (hl : l.length ≤ 19) (hle : ∀ i, i < l.length → l.getD i 30 ≤ 30) (hY : Sqm (M 239) S) (hV : VS S) (hL : Lay M S w h) {a b : Nat} (ha : a < S 3) (hb : b < S 3) (hab : a ≠ b) : ∃ M', loopF (fun z => b_X8_brothers_64 z.2.2.2 (nI a) (nI b) x5 z.1 z.2.1 z.2.2.1) FUEL (0, (-1), 0, M) = some (nI (lgst (twoN S w h a b l) 900).1, M') ∧ ∀ q, q ≠ 245 → M' q = M q := by
  have hn := hV.2.1
  have hf : ∀ k, twoN S w h a b l k ≤ 19 := fun k => Nat.le_trans (two_le _ _ _ _ _ _ _ hab) hl
  have key := loopF_rel (body := fun z => b_X8_brothers_64 z.2.2.2 (nI a) (nI b) x5 z.1 z.2.1 z.2.2.1) 900 (fun i z => z.1 = nI (lgst (twoN S w h a b l) i).1 ∧ z.2.1 = mI (lgst (twoN S w h a b l) i).2 ∧ z.2.2.1 = nI i ∧ (∀ b, b ≠ 245 → z.2.2.2 b = M b) ∧ ∀ i, i ≠ a → i ≠ b → z.2.2.2 245 i = M 245 i) (fun r => r.1 = nI (lgst (twoN S w h a b l) 900).1 ∧ (∀ b, b ≠ 245 → r.2 b = M b)) ?_ ?_ (fuel := FUEL) (FUEL_lt (by omega)) (s := (0, -1, 0, M)) ⟨rfl, rfl, rfl, fun _ _ => rfl, fun _ _ _ => rfl⟩
  · obtain ⟨⟨r1, r2⟩, g1, g2, g3⟩ := key
    dsimp only at g2 g3
    rw [g1, g2]
    exact ⟨r2, rfl, g3⟩
  · rintro i ⟨x1, x2, x3, M2⟩ hi ⟨rfl, rfl, rfl, g1, g2⟩
    dsimp only at g1 g2
    show ∃ s', b_X8_brothers_64 M2 (nI a) (nI b) x5 _ _ (nI i) = _ ∧ _
    unfold b_X8_brothers_64
    rw [if_neg (by rw [show (900 : Int32) = nI 900 from rfl]; exact nI_ge hi (by omega)), chk_of (inB_nI (by omega) (by omega)), nm_eq, chk_of (inB_nI (by omega) (by omega)), nm_eq, nI_clamp (by omega), nI_clamp (by omega), show (30 : Int32) = nI 30 from rfl, pk_div (by omega) (by omega) (by omega), nI_rem (by omega) (by omega) (by omega)]
    generalize hM3 : mset (mset M2 245 a (nI (i / 30))) 245 b (nI (i % 30)) = M3
    have g3 : ∀ b, b ≠ 245 → M3 b = M b := fun b hb => by rw [← hM3, mset_ne _ _ _ hb, mset_ne _ _ _ hb, g1 b hb]
    have g4 : ∀ k, k ≠ a → k ≠ b → M3 245 k = M 245 k := fun k hk hk2 => by rw [← hM3, mset_self, upd_at, if_neg hk2, mset_self, upd_at, if_neg hk, g2 k hk hk2]
    have g5 : M3 245 a = nI (i / 30) := by rw [← hM3, mset_self, upd_at, if_neg hab, mset_self, upd_at, if_pos rfl]
    have g6 : M3 245 b = nI (i % 30) := by rw [← hM3, mset_self, upd_at, if_pos rfl]
    have hL3 : Lay M3 S (movd (movd w a (i / 30)) b (i % 30)) h := by
      obtain ⟨l1, l2, l3⟩ := hL
      refine ⟨by rw [g3 234 (by decide)]; exact l1, l2, fun k hk => ?_⟩
      unfold movd
      by_cases e : k = b
      · rw [if_pos e, e, g6]
        exact ⟨rfl, by omega⟩
      · rw [if_neg e]
        by_cases e2 : k = a
        · rw [if_pos e2, e2, g5]
          exact ⟨rfl, by omega⟩
        · rw [if_neg e2, g4 k e2 e]
          exact l3 k hk
    have y1 := yways (M := M3) (by rw [g3 234 (by decide)]; exact h1) (by rw [g3 247 (by decide)]; exact h2) hl hle (by rw [g3 239 (by decide)]; exact hY) hV hL3 (j := a) (by omega)
    have y2 := yways (M := M3) (by rw [g3 234 (by decide)]; exact h1) (by rw [g3 247 (by decide)]; exact h2) hl hle (by rw [g3 239 (by decide)]; exact hY) hV hL3 (j := b) (by omega)
    rw [y1, Option.bind_some, y2, Option.bind_some, nI_add, nm_eq]
    have hb := lgst_le (f := twoN S w h a b l) (n := i) (B := 19) (fun k _ => hf k)
    have hfi := hf i
    have ef : picksN S (movd (movd w a (i / 30)) b (i % 30)) h a l + picksN S (movd (movd w a (i / 30)) b (i % 30)) h b l = twoN S w h a b l i := rfl
    rw [ef]
    have ej : ∀ s0, j_X8_brothers_121 M3 (nI a) (nI b) x5 (mI (lgst (twoN S w h a b l) i).2) (nI i) (nI (twoN S w h a b l i)) s0 = if (lgst (twoN S w h a b l) i).2 < twoN S w h a b l i + 1 then some (.inl (s0, nI (twoN S w h a b l i), nI (i + 1), M3)) else some (.inl (s0, mI (lgst (twoN S w h a b l) i).2, nI (i + 1), M3)) := by
      intro s0
      unfold j_X8_brothers_121
      rw [nI_1]
      by_cases c : (lgst (twoN S w h a b l) i).2 < twoN S w h a b l i + 1
      · rw [if_neg (fun q => (mI_le (by omega) (by omega)).mp q c), if_pos c]
      · rw [if_pos ((mI_le (by omega) (by omega)).mpr c), if_neg c]
    rw [ej, ej]
    by_cases c : (lgst (twoN S w h a b l) i).2 < twoN S w h a b l i + 1
    · rw [if_neg (fun q => (mI_le (by omega) (by omega)).mp q c), if_pos c]
      refine ⟨_, rfl, ?_, ?_, rfl, g3, g4⟩
      · rw [lgst, if_pos c]
      · rw [lgst, if_pos c, mI_1]
    · rw [if_pos ((mI_le (by omega) (by omega)).mpr c), if_neg c]
      refine ⟨_, rfl, ?_, ?_, rfl, g3, g4⟩
      · rw [lgst, if_neg c]
      · rw [lgst, if_neg c]
  · rintro ⟨x1, x2, x3, M2⟩ ⟨rfl, rfl, rfl, g1, g2⟩
    show ∃ r, b_X8_brothers_64 M2 (nI a) (nI b) x5 _ _ (nI 900) = _ ∧ _
    unfold b_X8_brothers_64
    rw [if_pos (by decide)]
    exact ⟨_, rfl, rfl, g1⟩
theorem ag_brothers {M : Mem} (h : Inv M) (a b c d e : Int32) : AgWW (m_X7_brothers M a b c d e) (fun M1 => m_X8_brothers M1 a b c d e) := by
  obtain ⟨S, hS⟩ := h.2.2.1
  have hV := hS.2.2.1
  have hn := hV.2.1
  have bad : ∀ M c d e, j_X7_brothers_31 M a b c d e = some (-1000001, M) := fun M c d e => by
    unfold j_X7_brothers_31 j_X7_brothers_32
    rw [if_pos rfl]
  unfold m_X7_brothers m_X8_brothers
  rcases gchild hS a with ⟨i, hi, rfl, h1, h2, h3⟩ | ⟨h1, h2⟩
  · rw [h1, Option.bind_some]
    show AgWW (chk _ _) _
    rw [chk_of h2]
    rcases gchild hS b with ⟨j, hj, rfl, i1, i2, i3⟩ | ⟨i1, i2⟩
    · rw [i1, Option.bind_some]
      show AgWW (chk _ _) _
      rw [chk_of i2]
      by_cases eij : nI i = nI j
      · rw [if_pos eij, bad]
        exact ww_same h (r := -1000001) rfl (by rw [h3, Option.bind_some, if_neg n10, i3, Option.bind_some, if_neg n10, if_pos eij])
      · have hne : i ≠ j := fun q => eij (by rw [q])
        rw [if_neg eij]
        unfold j_X7_brothers_32
        rw [if_neg n10]
        rcases gthrow M M c d with ⟨c, s, hc, hs, rfl, rfl, g1, g2, g3⟩ | ⟨g3, g⟩
        · rcases geither M M e with ⟨he, f1, f2⟩ | ⟨f1, f2⟩
          · obtain ⟨M1, x1, x2, hS1, hy⟩ := both hS hc hs
            obtain ⟨o1, o2, o3⟩ := way_ok hc hs
            obtain ⟨M1a, a1, a2, a3⟩ := xweigh (M := M1) (a := j) (Or.inl rfl) (q := 4) (by decide) hS1.1 hV x2 (by omega) (by omega) hi
            have ea := eqI_pk (Or.inl rfl) a2
            have x2a : PX M1a M1a (wayL c s) := ⟨by rw [a2 196 (by decide)]; exact x2.1, by rw [a2 197 (by decide)]; exact x2.2.1, fun _ _ _ => rfl⟩
            obtain ⟨M1b, b1, b2, b3⟩ := xweigh (M := M1a) (a := i) (Or.inr rfl) (q := 4) (by decide) (ea.sq hS1).1 hV x2a (by omega) (by omega) hj
            have eb := eqI_pk (Or.inr rfl) b2
            have xp := xpair (M := M1b) hi hj hne (by omega) (fun k hk => by rw [b2 198 (by decide)]; exact a3 k hk) b3
            obtain ⟨M2, M3, l1, l2, l3, hS3, hL, w1, w2⟩ := hy M1b (ea.trans eb)
            obtain ⟨M4, y1, y2⟩ := ypair (nI (0)) w1 w2 o1 o3 hS3.2.1 hV hL hi hj hne
            have aXj : aX j = nI j := if_pos (by omega)
            have aXi : aX i = nI i := if_pos (by omega)
            rw [aXj] at a1
            rw [aXi] at b1
            have hSb := (ea.trans eb).sq hS1
            rw [g1, g2, f1, Option.bind_some, Option.bind_some, Option.bind_some, if_neg n10, if_neg n10, if_neg n10, x1, Option.bind_some, a1, Option.bind_some, b1, Option.bind_some, xp, Option.bind_some]
            have k3 : m_X8_isChild M1b (nI i) = some 1 := by
              rcases gchild hSb (nI i) with ⟨j', -, -, -, -, k3⟩ | ⟨k1, -⟩
              · exact k3
              · rw [xat hSb.1 hV hi] at k1; exact absurd k1 (by simp)
            have k3' : m_X8_isChild M1b (nI j) = some 1 := by
              rcases gchild hSb (nI j) with ⟨j', -, -, -, -, k3⟩ | ⟨k1, -⟩
              · exact k3
              · rw [xat hSb.1 hV hj] at k1; exact absurd k1 (by simp)
            have k4 : m_X8_isThrow M1b (nI c) (nI s) = some 1 := by
              rcases gthrow M M1b (nI c) (nI s) with ⟨_, _, -, -, -, -, -, -, k4⟩ | ⟨-, k5⟩
              · exact k4
              · rcases k5 with k5 | ⟨-, k5⟩
                · rw [g1] at k5; exact absurd k5 (by decide)
                · rw [g2] at k5; exact absurd k5 (by decide)
            have k6 : m_X8_in M1b e.toInt64 0 1 = some 1 := by
              rcases geither M M1b e with ⟨-, -, k6⟩ | ⟨k6, -⟩
              · exact k6
              · rw [f1] at k6; exact absurd k6 (by decide)
            obtain ⟨M4, y1, y2⟩ := ypair e w1 w2 o1 o3 hS3.2.1 hV hL hi hj hne
            by_cases e0 : e = 0
            · rw [if_pos e0]
              refine ww_q h rfl (x2.eqI.trans (ea.trans eb)) (M2 := M4) ?_ (l3.trans (eqI_loc y2))
              rw [k3, Option.bind_some, if_neg n10, k3', Option.bind_some, if_neg n10, if_neg eij, k4, Option.bind_some, if_neg n10, k6, Option.bind_some, if_neg n10, l1, Option.bind_some, l2, Option.bind_some, y1, Option.bind_some, if_pos e0]
            · rw [if_neg e0]
              refine ww_q h rfl (x2.eqI.trans (ea.trans eb)) (M2 := M4) ?_ (l3.trans (eqI_loc y2))
              rw [k3, Option.bind_some, if_neg n10, k3', Option.bind_some, if_neg n10, if_neg eij, k4, Option.bind_some, if_neg n10, k6, Option.bind_some, if_neg n10, l1, Option.bind_some, l2, Option.bind_some, y1, Option.bind_some, if_neg e0]
          · refine ww_same h (r := -1000001) ?_ ?_
            · rw [g1, Option.bind_some, if_neg n10, g2, Option.bind_some, if_neg n10, f1]; rfl
            · rw [h3, Option.bind_some, if_neg n10, i3, Option.bind_some, if_neg n10, if_neg eij, g3, Option.bind_some, if_neg n10, f2]; rfl
        · refine ww_same h (r := -1000001) ?_ ?_
          · rcases g with g | ⟨g, g'⟩
            · rw [g]; rfl
            · rw [g, Option.bind_some, if_neg n10, g']; rfl
          · rw [h3, Option.bind_some, if_neg n10, i3, Option.bind_some, if_neg n10, if_neg eij, g3]; rfl
    · rw [i1]
      refine ww_same h (r := -1000001) ?_ ?_
      · exact bad M c d e
      · rw [h3, Option.bind_some, if_neg n10, i2]; rfl
  · refine ww_same h (r := -1000001) ?_ ?_
    · rw [h1]; exact bad M c d e
    · rw [h2]; rfl
