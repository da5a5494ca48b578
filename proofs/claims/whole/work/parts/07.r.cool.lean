/-! ## cool -/
theorem loop_srch {body : Int32 × Mem → Option ((Int32 × Mem) ⊕ (Mem ⊕ (Int32 × Mem)))} (I : Mem → Prop) (p : Nat → Bool) (N : Nat) (he : ∀ M, I M → body (nI N, M) = some (.inr (.inl M))) (hs : ∀ a M, a < N → I M → ∃ M', I M' ∧ body (nI a, M) = if p a = true then some (.inr (.inr (nI a, M'))) else some (.inl (nI (a + 1), M'))) : ∀ n a fuel M, a + n = N → n < fuel → I M → ∃ M', (loopF body fuel (nI a, M)).bind (fun z => sumC z (fun z5 => some (((-1000000), z5))) (fun z => some z)) = some (gR (fnd p n a), M') ∧ I M' := by
  intro n
  induction n with
  | zero =>
    intro a fuel M h1 h2 h3
    obtain ⟨g, rfl⟩ : ∃ g, fuel = g + 1 := ⟨fuel - 1, by omega⟩
    have : a = N := by omega
    subst this
    rw [loopF_out (body := body) (he M h3)]
    exact ⟨M, rfl, h3⟩
  | succ n ih =>
    intro a fuel M h1 h2 h3
    obtain ⟨g, rfl⟩ : ∃ g, fuel = g + 1 := ⟨fuel - 1, by omega⟩
    obtain ⟨M', h4, hb⟩ := hs a M (by omega) h3
    rw [fnd]
    by_cases q : p a = true
    · rw [if_pos q] at hb ⊢
      rw [loopF_out (body := body) hb]
      exact ⟨M', rfl, h4⟩
    · rw [if_neg q] at hb ⊢
      rw [loopF_step (body := body) hb]
      exact ih (a + 1) g M' (by omega) (by omega) h4
def Sh (S : Nat → Nat) (h : Nat) : Nat → Nat := fun x => if x = 1 then h else S x
theorem Sh_ne (S : Nat → Nat) (h : Nat) {x : Nat} (e : x ≠ 1) : Sh S h x = S x := if_neg e
theorem VS.sh {S : Nat → Nat} {h : Nat} (hV : VS S) (hh : h ≤ 20) : VS (Sh S h) := by
  obtain ⟨a1, a2, a3, a4, a5, a6⟩ := hV
  unfold VS
  rw [Sh_ne S h (x := 0) (by omega), Sh_ne S h (x := 3) (by omega), Sh_ne S h (x := 4) (by omega)]
  refine ⟨a1, a2, a3, hh, a5, fun j hj => ?_⟩
  rw [Sh_ne S h (x := 5 + j) (by omega), Sh_ne S h (x := 10 + j) (by omega), Sh_ne S h (x := 20 + j) (by omega), Sh_ne S h (x := 15 + j) (by omega)]
  exact a6 j hj
theorem picksN_sh {S : Nat → Nat} {h : Nat} (j : Nat) (l : List Nat) : picksN (Sh S h) (wh (Sh S h)) (Sh S h 1) j l = picksN S (wh S) h j l := by
  rw [picksN_eq, picksN_eq]
  apply List.countP_congr
  intro c _
  have e1 : Sh S h 1 = h := if_pos rfl
  rw [e1, pick_congr (Sh_ne S h (by omega)) (Sh_ne S h (by omega)) (w := wh S)]
  intro i hi
  exact ⟨Sh_ne S h (by omega), Sh_ne S h (by omega), Sh_ne S h (by omega)⟩
def coolP (S : Nat → Nat) (j : Nat) (l : List Nat) (h : Nat) : Bool := picksN S (wh S) h j l == 0
theorem nI_z {a : Nat} (ha : a < 2 ^ 31) : nI a = 0 ↔ a = 0 := by
  rw [show (0 : Int32) = nI 0 from rfl, nI_eq ha (by omega)]
theorem xcool {M : Mem} {S : Nat → Nat} {l : List Nat} {j : Nat} (hX : Sqx M 18 S) (hV : VS S) (hP : PX M M l) (hl : l.length ≤ 20) (hj : j < 5) : ∃ M', (loopF (fun z => b_X7_cool_51 z.2 (nI j) z.1) FUEL (0, M)).bind (fun z => sumC z (fun z5 => some (((-1000000), z5))) (fun z => some z)) = some (gR (fnd (coolP S j l) 21 0), M') ∧ ∀ a, a ≠ 18 → M' a = M a := by
  have key := loop_srch (body := fun z => b_X7_cool_51 z.2 (nI j) z.1) (fun M' => (∀ a, a ≠ 18 → M' a = M a) ∧ ∀ k, k ≠ 2 → M' 18 k = M 18 k) (coolP S j l) 21 ?_ ?_ 21 0 FUEL M (by omega) (FUEL_lt (by omega)) ⟨fun _ _ => rfl, fun _ _ => rfl⟩
  · obtain ⟨M', h1, h2, h3⟩ := key
    exact ⟨M', h1, h2⟩
  · intro M2 h
    show b_X7_cool_51 M2 (nI j) (nI 21) = _
    unfold b_X7_cool_51
    rw [if_pos (by decide)]
  · intro a M2 ha ⟨h1, h2⟩
    show ∃ M', _ ∧ b_X7_cool_51 M2 (nI j) (nI a) = _
    unfold b_X7_cool_51
    rw [if_neg (by rw [show (20 : Int32) = nI 20 from rfl]; exact nI_nlt (by omega) (by omega)), nm_eq]
    generalize hM3 : mset M2 18 2 (nI a) = M3
    have g1 : ∀ b, b ≠ 18 → M3 b = M b := fun b hb => by rw [← hM3, mset_ne _ _ _ hb, h1 b hb]
    have g2 : ∀ k, k ≠ 2 → M3 18 k = M 18 k := fun k hk => by rw [← hM3, mset_self, upd_at, if_neg hk, h2 k hk]
    have g3 : M3 18 2 = nI a := by rw [← hM3, mset_self, upd_at, if_pos rfl]
    have hX3 : Sqx M3 18 (Sh S a) := by
      obtain ⟨x1, x2, x3, x4, x5⟩ := hX
      refine ⟨by rw [g2 1 (by decide), Sh_ne S a (by omega)]; exact x1, by rw [g3]; rfl, by rw [g2 3 (by decide), Sh_ne S a (by omega)]; exact x3, by rw [g2 4 (by decide), Sh_ne S a (by omega)]; exact x4, fun i hi => ?_⟩
      rw [Sh_ne S a (x := 3) (by omega)] at hi
      rw [g1 _ (by omega), Sh_ne S a (x := 5 + i) (by omega), Sh_ne S a (x := 10 + i) (by omega), Sh_ne S a (x := 15 + i) (by omega), Sh_ne S a (x := 20 + i) (by omega)]
      exact x5 i hi
    have hP3 : PX M3 M3 l := ⟨by rw [g1 196 (by decide)]; exact hP.1, by rw [g1 197 (by decide)]; exact hP.2.1, fun _ _ _ => rfl⟩
    refine ⟨M3, ⟨g1, g2⟩, ?_⟩
    have hle := picksN_le S (wh S) a j l
    rw [xcount hP3 hl (by decide) hX3 (hV.sh (by omega)) hj, Option.bind_some, picksN_sh, nI_1]
    unfold coolP
    by_cases q : picksN S (wh S) a j l = 0
    · rw [if_pos ((nI_z (by omega)).mpr q), if_pos (by rw [beq_iff_eq]; exact q)]
    · rw [if_neg (fun z => q ((nI_z (by omega)).mp z)), if_neg (by rw [beq_iff_eq]; exact q)]
theorem ycool {M : Mem} {S : Nat → Nat} {l : List Nat} {j h : Nat} (h1 : M 234 24 = nI l.length) (h2 : ∀ i, i < l.length → M 247 i = cY (l.getD i 30)) (hl : l.length ≤ 19) (hle : ∀ i, i < l.length → l.getD i 30 ≤ 30) (hY : Sqm (M 239) S) (hV : VS S) (hL : Lay M S (wh S) h) (hj : j < 5) : ∃ M', (loopF (fun z => b_X8_cool_32 z.2 (nI j) z.1) FUEL (0, M)).bind (fun z => sumC z (fun z5 => some (((-1000000), z5))) (fun z => some z)) = some (gR (fnd (coolP S j l) 21 0), M') ∧ (∀ a, a ≠ 234 → M' a = M a) ∧ ∀ k, k ≠ 21 → M' 234 k = M 234 k := by
  have key := loop_srch (body := fun z => b_X8_cool_32 z.2 (nI j) z.1) (fun M' => (∀ a, a ≠ 234 → M' a = M a) ∧ ∀ k, k ≠ 21 → M' 234 k = M 234 k) (coolP S j l) 21 ?_ ?_ 21 0 FUEL M (by omega) (FUEL_lt (by omega)) ⟨fun _ _ => rfl, fun _ _ => rfl⟩
  · exact key
  · intro M2 h
    show b_X8_cool_32 M2 (nI j) (nI 21) = _
    unfold b_X8_cool_32
    rw [if_pos (by decide)]
  · intro a M2 ha ⟨k1, k2⟩
    show ∃ M', _ ∧ b_X8_cool_32 M2 (nI j) (nI a) = _
    unfold b_X8_cool_32
    rw [if_neg (by rw [show (20 : Int32) = nI 20 from rfl]; exact nI_nlt (by omega) (by omega)), nm_eq]
    generalize hM3 : mset M2 234 21 (nI a) = M3
    have g1 : ∀ b, b ≠ 234 → M3 b = M b := fun b hb => by rw [← hM3, mset_ne _ _ _ hb, k1 b hb]
    have g2 : ∀ k, k ≠ 21 → M3 234 k = M 234 k := fun k hk => by rw [← hM3, mset_self, upd_at, if_neg hk, k2 k hk]
    have g3 : M3 234 21 = nI a := by rw [← hM3, mset_self, upd_at, if_pos rfl]
    have hL3 : Lay M3 S (wh S) a := ⟨g3, by omega, fun i hi => by rw [g1 245 (by decide)]; exact hL.2.2 i hi⟩
    refine ⟨M3, ⟨g1, g2⟩, ?_⟩
    have hlen := picksN_le S (wh S) a j l
    rw [yways (by rw [g2 24 (by decide)]; exact h1) (by rw [g1 247 (by decide)]; exact h2) hl hle (by rw [g1 239 (by decide)]; exact hY) hV hL3 hj, Option.bind_some, nI_1]
    unfold coolP
    by_cases q : picksN S (wh S) a j l = 0
    · rw [if_pos ((nI_z (by omega)).mpr q), if_pos (by rw [beq_iff_eq]; exact q)]
    · rw [if_neg (fun z => q ((nI_z (by omega)).mp z)), if_neg (by rw [beq_iff_eq]; exact q)]
theorem eqI_234 {M M' : Mem} (h : ∀ a, a ≠ 234 → M' a = M a) (h2 : ∀ k, k ≠ 21 → M' 234 k = M 234 k) : EqI M M' := ⟨fun a ha => h a (fun q => ha (by unfold scr; omega)), congrFun (h 2 (by decide)) 1, h2 0 (by decide), h2 5 (by decide), h2 6 (by decide), h2 10 (by decide), h2 14 (by decide)⟩
theorem ag_cool {M : Mem} (h : Inv M) (a b c : Int32) : AgWW (m_X7_cool M a b c) (fun M1 => m_X8_cool M1 a b c) := by
  obtain ⟨S, hS⟩ := h.2.2.1
  have hV := hS.2.2.1
  have hn := hV.2.1
  unfold m_X7_cool m_X8_cool
  rcases gchild hS a with ⟨j, hj, rfl, h1, h2, h3⟩ | ⟨h1, h2⟩
  · rw [h1, Option.bind_some]
    show AgWW (chk _ _) _
    rw [chk_of h2]
    rcases gthrow M M b c with ⟨c, s, hc, hs, rfl, rfl, g1, g2, g3⟩ | ⟨g3, g⟩
    · obtain ⟨M1, t1, t2, t3, -, -⟩ := xtake (M := M) (q := 18) (p := 4) (by decide) (by decide) (by omega) hS.1 hV
      have e1 : EqI M M1 := eqI_of (fun a h1 _ _ _ => t3 a (by omega))
      obtain ⟨M2, x1, x2, hS2, hy⟩ := both (e1.sq hS) hc hs
      obtain ⟨o1, o2, o3⟩ := way_ok hc hs
      have hX2 : Sqx M2 18 S := t2.eq hV (x2.2.2 18 (by decide) (by decide)) (fun j hj => x2.2.2 _ (by omega) (by omega))
      obtain ⟨M3, u1, u2⟩ := xcool hX2 hV ⟨x2.1, x2.2.1, fun _ _ _ => rfl⟩ (by omega) (j := j) (by omega)
      have e2 : EqI M2 M3 := eqI_of (fun a h1 _ _ h4 => u2 a (by omega))
      obtain ⟨M4, M5, l1, l2, l3, hS5, hL, w1, w2⟩ := hy M3 e2
      obtain ⟨M6, v1, v2, v3⟩ := ycool w1 w2 o1 o3 hS5.2.1 hV hL (j := j) (by omega)
      have hS3 := e2.sq hS2
      rw [g1, Option.bind_some, if_neg n10, g2, Option.bind_some, if_neg n10, t1, Option.bind_some, x1, Option.bind_some]
      refine ww_q h (r := gR (fnd (coolP S j (wayL c s)) 21 0)) (M1 := M3) (M2 := M6) u1 (e1.trans (x2.eqI.trans e2)) ?_ (l3.trans (eqI_234 v2 v3))
      have k3 : m_X8_isChild M3 (nI j) = some 1 := by
        rcases gchild hS3 (nI j) with ⟨j', -, -, -, -, k3⟩ | ⟨k1, -⟩
        · exact k3
        · rw [xat hS3.1 hV hj] at k1; exact absurd k1 (by simp)
      have k4 : m_X8_isThrow M3 (nI c) (nI s) = some 1 := by
        rcases gthrow M M3 (nI c) (nI s) with ⟨_, _, -, -, -, -, -, -, k4⟩ | ⟨-, k5⟩
        · exact k4
        · rcases k5 with k5 | ⟨-, k5⟩
          · rw [g1] at k5; exact absurd k5 (by decide)
          · rw [g2] at k5; exact absurd k5 (by decide)
      rw [k3, Option.bind_some, if_neg n10, k4, Option.bind_some, if_neg n10, l1, Option.bind_some, l2, Option.bind_some]
      exact v1
    · refine ww_same h (r := -1000001) ?_ ?_
      · rcases g with g | ⟨g, g'⟩
        · rw [g]; rfl
        · rw [g, Option.bind_some, if_neg n10, g']; rfl
      · rw [h3, Option.bind_some, if_neg n10, g3]; rfl
  · exact ww_same h (r := -1000001) (by rw [h1]; rfl) (by rw [h2]; rfl)
