/-! ## aim -/
/-- who have some (bits) of the first i ways -/
def srv (S : Nat → Nat) (l : List Nat) : Nat → Nat
  | 0 => 0
  | i + 1 => if pick S (wh S) (S 1) (l.getD i 30) = 0 then srv S l i else srv S l i ||| 2 ^ (pick S (wh S) (S 1) (l.getD i 30) - 1)
theorem srv_lt {S : Nat → Nat} (hn : S 3 ≤ 5) (l : List Nat) (i : Nat) : srv S l i < 2 ^ 5 := by
  induction i with
  | zero => exact Nat.two_pow_pos 5
  | succ i ih =>
    unfold srv
    have hp := pick_le (S := S) (w := wh S) (S 1) (l.getD i 30)
    by_cases c : pick S (wh S) (S 1) (l.getD i 30) = 0
    · rw [if_pos c]
      exact ih
    · rw [if_neg c]
      exact Nat.or_lt_two_pow ih (Nat.pow_lt_pow_right (by omega) (by omega))
def srvL (S : Nat → Nat) (c s : Nat) : Nat := srv S (wayL c s) (wayL c s).length
theorem xpickers {M0 M : Mem} {l : List Nat} {q : Nat} {S : Nat → Nat} (hP : PX M0 M l) (hl : l.length ≤ 20) (hq : kd q = 5) (hX : Sqx M q S) (hV : VS S) : m_X3_pickers M q = some (nI (srv S l l.length)) := by
  have hn := hV.2.1
  unfold m_X3_pickers
  have key := loopF_for (body := fun z => b_X3_pickers_4 M q z.1 z.2) l.length (fun i => (nI (srv S l i), nI i)) (nI (srv S l l.length)) FUEL (FUEL_lt (by omega)) ?_ ?_
  · have e0 : ((0 : Int32), (0 : Int32)) = (nI (srv S l 0), nI 0) := rfl
    rw [e0, key]
    rfl
  · intro i hi
    show b_X3_pickers_4 M q _ (nI i) = _
    unfold b_X3_pickers_4
    have hp := pick_le (S := S) (w := wh S) (S 1) (l.getD i 30)
    have hs := srv_lt hn l i
    rw [hP.1, if_neg (nI_ge hi (by omega)), xlandAt hP hl hi, Option.bind_some, xpicker hq hX hV, Option.bind_some, nI_1]
    conv => rhs; rw [srv]
    generalize pick S (wh S) (S 1) (l.getD i 30) = k at *
    unfold pkX
    by_cases c : k = 0
    · rw [if_pos c, if_pos rfl, if_pos c]
    · have hne : ¬ nI (k - 1) = -1 := by
        intro q
        have := congrArg Int32.toInt q
        rw [nI_toInt (by omega), show (-1 : Int32).toInt = -1 from rfl] at this
        omega
      have h2 : 2 ^ (k - 1) < 2 ^ 5 := Nat.pow_lt_pow_right (by omega) (by omega)
      rw [if_neg c, if_neg hne, if_neg c, sl_1 _ (by omega), nx_or (by omega) (by omega), nm_eq]
  · show b_X3_pickers_4 M q _ (nI l.length) = _
    unfold b_X3_pickers_4
    rw [hP.1, if_pos (nI_le (Nat.le_refl _) (by omega))]
theorem xpleased {M : Mem} {S : Nat → Nat} {s : Nat} (hX : Sqx M 4 S) (hV : VS S) (hs : s < 3) : ∃ M', m_X7_tellPleased M (nI s) = some M' ∧ (∀ a, a ≠ 196 → a ≠ 197 → a ≠ 200 → M' a = M a) ∧ ∀ k, k < 30 → M' 200 k = nI (srvL S k s) := by
  have hn := hV.2.1
  unfold m_X7_tellPleased
  have key := loopF_rel (body := fun z => b_X7_tellPleased_2 z.2 (nI s) z.1) 30 (fun i z => z.1 = nI i ∧ (∀ a, a ≠ 196 → a ≠ 197 → a ≠ 200 → z.2 a = M a) ∧ ∀ k, k < i → z.2 200 k = nI (srvL S k s)) (fun M' => (∀ a, a ≠ 196 → a ≠ 197 → a ≠ 200 → M' a = M a) ∧ ∀ k, k < 30 → M' 200 k = nI (srvL S k s)) ?_ ?_ (fuel := FUEL) (FUEL_lt (by omega)) (s := (0, M)) ⟨rfl, fun _ _ _ _ => rfl, fun k hk => absurd hk (by omega)⟩
  · obtain ⟨r, h1, h2⟩ := key
    exact ⟨r, by rw [h1]; rfl, h2⟩
  · rintro i ⟨x, M2⟩ hi ⟨rfl, h1, h2⟩
    dsimp only at h1 h2
    show ∃ s', b_X7_tellPleased_2 M2 (nI s) (nI i) = _ ∧ _
    unfold b_X7_tellPleased_2
    obtain ⟨M3, x1, x2⟩ := xthrow (M0 := M2) hi hs
    obtain ⟨o1, o2, o3⟩ := way_ok hi hs
    have hX3 : Sqx M3 4 S := hX.eq hV (by rw [x2.2.2 4 (by decide) (by decide), h1 4 (by decide) (by decide) (by decide)]) (fun j hj => by rw [x2.2.2 _ (by omega) (by omega), h1 _ (by omega) (by omega) (by omega)])
    rw [if_neg (by rw [show (30 : Int32) = nI 30 from rfl]; exact nI_ge hi (by omega)), x1, Option.bind_some, xpickers x2 (by omega) (by decide) hX3 hV, Option.bind_some, chk_of (inB_nI hi (by omega)), nm_eq, nI_clamp (by omega), nI_1]
    refine ⟨_, rfl, rfl, fun a a1 a2 a3 => ?_, fun k hk => ?_⟩
    · dsimp only
      rw [mset_ne _ _ _ a3, x2.2.2 a a1 a2, h1 a a1 a2 a3]
    · dsimp only
      rw [mset_self, upd_at]
      by_cases e : k = i
      · rw [if_pos e, e]
        rfl
      · rw [if_neg e, x2.2.2 200 (by decide) (by decide), h2 k (by omega)]
  · rintro ⟨x, M2⟩ ⟨rfl, h1, h2⟩
    show ∃ r, b_X7_tellPleased_2 M2 (nI s) (nI 30) = _ ∧ _
    unfold b_X7_tellPleased_2
    rw [if_pos (by decide)]
    exact ⟨M2, rfl, h1, h2⟩
/-- the reference's: who picks, cell by cell -/
def PKS (M : Mem) (S : Nat → Nat) : Prop := ∀ c, c < 30 → M 246 c = pkY (pick S (wh S) (S 1) c)
theorem ylaysPicks {M : Mem} {S : Nat → Nat} (hY : Sqm (M 239) S) (hV : VS S) (hL : Lay M S (wh S) (S 1)) : ∃ M', m_X8_laysPicks M = some M' ∧ (∀ a, a ≠ 246 → M' a = M a) ∧ PKS M' S := by
  unfold m_X8_laysPicks
  have key := loopF_rel (body := fun z => b_X8_laysPicks_2 z.2 z.1) 30 (fun i z => z.1 = nI i ∧ (∀ a, a ≠ 246 → z.2 a = M a) ∧ ∀ c, c < i → z.2 246 c = pkY (pick S (wh S) (S 1) c)) (fun M' => (∀ a, a ≠ 246 → M' a = M a) ∧ PKS M' S) ?_ ?_ (fuel := FUEL) (FUEL_lt (by omega)) (s := (0, M)) ⟨rfl, fun _ _ => rfl, fun k hk => absurd hk (by omega)⟩
  · obtain ⟨r, h1, h2⟩ := key
    exact ⟨r, by rw [h1]; rfl, h2⟩
  · rintro i ⟨x, M2⟩ hi ⟨rfl, h1, h2⟩
    dsimp only at h1 h2
    show ∃ s', b_X8_laysPicks_2 M2 (nI i) = _ ∧ _
    have hL2 : Lay M2 S (wh S) (S 1) := by
      obtain ⟨l1, l2, l3⟩ := hL
      refine ⟨by rw [h1 234 (by decide)]; exact l1, l2, fun j hj => ?_⟩
      rw [h1 245 (by decide)]
      exact l3 j hj
    unfold b_X8_laysPicks_2
    rw [if_neg (by rw [show (30 : Int32) = nI 30 from rfl]; exact nI_ge hi (by omega)), ypicker (by rw [h1 239 (by decide)]; exact hY) hV hL2 hi, Option.bind_some, chk_of (inB_nI hi (by omega)), nm_eq, nI_clamp (by omega), nI_1]
    refine ⟨_, rfl, rfl, fun a a1 => ?_, fun k hk => ?_⟩
    · dsimp only
      rw [mset_ne _ _ _ a1, h1 a a1]
    · dsimp only
      rw [mset_self, upd_at]
      by_cases e : k = i
      · rw [if_pos e, e]
      · rw [if_neg e, h2 k (by omega)]
  · rintro ⟨x, M2⟩ ⟨rfl, h1, h2⟩
    show ∃ r, b_X8_laysPicks_2 M2 (nI 30) = _ ∧ _
    unfold b_X8_laysPicks_2
    rw [if_pos (by decide)]
    exact ⟨M2, rfl, h1, h2⟩
/-- what served keeps -/
def YK (M M' : Mem) : Prop := (∀ a, a ≠ 247 → a ≠ 234 → M' a = M a) ∧ ∀ j, j ≠ 24 → M' 234 j = M 234 j
theorem YK.trans {A B C : Mem} (h1 : YK A B) (h2 : YK B C) : YK A C := ⟨fun a x y => (h2.1 a x y).trans (h1.1 a x y), fun j x => (h2.2 j x).trans (h1.2 j x)⟩
theorem YK.refl (A : Mem) : YK A A := ⟨fun _ _ _ => rfl, fun _ _ => rfl⟩
theorem yserved {M : Mem} {S : Nat → Nat} {c s : Nat} (hV : VS S) (hK : PKS M S) (hc : c < 30) (hs : s < 3) : ∃ M', m_X8_served M (nI c) (nI s) = some (nI (srvL S c s), M') ∧ YK M M' := by
  have hn := hV.2.1
  obtain ⟨o1, o2, o3⟩ := way_ok hc hs
  obtain ⟨M1, y1, y2⟩ := ythrow (M0 := M) hc hs
  unfold m_X8_served
  rw [y1, Option.bind_some]
  have key := loopF_for (body := fun z => b_X8_served_11 M1 z.1 z.2) (wayL c s).length (fun i => (nI (srv S (wayL c s) i), nI i)) (nI (srvL S c s)) FUEL (FUEL_lt (by omega)) ?_ ?_
  · have e0 : ((0 : Int32), (0 : Int32)) = (nI (srv S (wayL c s) 0), nI 0) := rfl
    rw [e0, key]
    exact ⟨M1, rfl, fun a h1 h2 => y2.2.2.1 a h2 h1, y2.2.2.2⟩
  · intro i hi
    show b_X8_served_11 M1 _ (nI i) = _
    unfold b_X8_served_11
    have hs5 := srv_lt hn (wayL c s) i
    have hi30 := o3 i hi
    have hp := pick_le (S := S) (w := wh S) (S 1) ((wayL c s).getD i 30)
    rw [y2.1, if_neg (nI_ge hi (by omega)), chk_of (inB_nI (by omega) (by omega)), nI_clamp (by omega), y2.2.1 i hi]
    conv => rhs; rw [srv]
    have e49 : ∀ x, j_X8_served_49 M1 (nI (srv S (wayL c s) i)) (nI i) (pkY x) = if x = 0 then some (.inl (nI (srv S (wayL c s) i), nI (i + 1))) else j_X8_served_49 M1 (nI (srv S (wayL c s) i)) (nI i) (pkY x) := by
      intro x
      by_cases hx : x = 0
      · rw [if_pos hx, hx]
        show j_X8_served_49 M1 (nI (srv S (wayL c s) i)) (nI i) (-1000000) = _
        unfold j_X8_served_49
        rw [if_pos rfl, nm_eq, show (0 : Int32) = nI 0 from rfl, nx_or (by omega) (by omega), Nat.or_zero, nI_1]
      · rw [if_neg hx]
    by_cases hcell : (wayL c s).getD i 30 < 30
    · have ec : cY ((wayL c s).getD i 30) = nI ((wayL c s).getD i 30) := if_pos hcell
      have hne : ∀ k, k < 30 → ¬ nI k = -1000000 := by
        intro k hk q
        have := congrArg Int32.toInt q
        rw [nI_toInt (by omega), show (-1000000 : Int32).toInt = -1000000 from rfl] at this
        omega
      rw [ec, if_neg (hne _ hcell), chk_of (inB_nI (by omega) (by omega)), chk_of (inB_nI hcell (by omega)), nI_clamp (by omega), y2.2.2.1 246 (by decide) (by decide), hK _ hcell]
      generalize pick S (wh S) (S 1) ((wayL c s).getD i 30) = k at *
      by_cases hk : k = 0
      · rw [e49, if_pos hk, if_pos hk]
      · have h2 : 2 ^ (k - 1) < 2 ^ 5 := Nat.pow_lt_pow_right (by omega) (by omega)
        rw [if_neg hk]
        unfold pkY j_X8_served_49
        rw [if_neg hk, if_neg (hne _ (by omega)), nm_eq, sl_1 _ (by omega), nx_or (by omega) (by omega), nI_1]
    · have ec : cY ((wayL c s).getD i 30) = -1000000 := if_neg hcell
      have e : pick S (wh S) (S 1) ((wayL c s).getD i 30) = 0 := by
        unfold pick
        rw [if_neg (fun z => hcell z.1)]
      rw [ec, if_pos rfl, if_pos e]
      have := e49 0
      rw [if_pos rfl] at this
      exact this
  · show b_X8_served_11 M1 _ (nI (wayL c s).length) = _
    unfold b_X8_served_11
    rw [y2.1, if_pos (nI_le (Nat.le_refl _) (by omega))]
    rfl
theorem ones_l (M : Mem) {v : Nat} (hv : v < 2 ^ 31) : m_X8_ones M (nI v) = some (nI (pc 5 v)) := by
  unfold m_X8_ones
  have key := loopF_for (body := fun z => b_X8_ones_4 M (nI v) z.1 z.2) 5 (fun i => (nI (pc i v), nI i)) (nI (pc 5 v)) FUEL (FUEL_lt (by omega)) ?_ ?_
  · have e0 : ((0 : Int32), (0 : Int32)) = (nI (pc 0 v), nI 0) := rfl
    rw [e0, key]
    rfl
  · intro i hi
    show b_X8_ones_4 M (nI v) _ (nI i) = _
    unfold b_X8_ones_4
    rw [if_neg (by rw [show (5 : Int32) = nI 5 from rfl]; exact nI_ge hi (by omega)), nm_eq, bit_at hv (by omega), nI_add, nI_1]
    have : pc (i + 1) v = pc i v + v / 2 ^ i % 2 := by
      unfold pc
      rw [List.range_succ, List.countP_append, List.countP_singleton, Nat.testBit_eq_decide_div_mod_eq]
      by_cases q : v / 2 ^ i % 2 = 1
      · rw [q]
        rfl
      · have : v / 2 ^ i % 2 = 0 := by omega
        rw [this]
        rfl
    rw [this]
  · show b_X8_ones_4 M (nI v) _ (nI 5) = _
    unfold b_X8_ones_4
    rw [if_pos (by decide)]
theorem pc_5 {v : Nat} (hv : v < 2 ^ 5) : pc 32 v = pc 5 v := by
  have h : ((List.range 32).all fun v => decide (pc 32 v = pc 5 v)) = true := by decide +kernel
  exact of_decide_eq_true (all_r h hv)
theorem lgst_at (f : Nat → Nat) (n : Nat) : (lgst f (n + 1)).2 = f (lgst f (n + 1)).1 + 1 ∧ (lgst f (n + 1)).1 ≤ n := by
  induction n with
  | zero => exact ⟨rfl, Nat.le_refl _⟩
  | succ n ih =>
    rw [lgst]
    by_cases c : (lgst f (n + 1)).2 < f (n + 1) + 1
    · rw [if_pos c]
      exact ⟨rfl, Nat.le_refl _⟩
    · rw [if_neg c]
      exact ⟨ih.1, by omega⟩
theorem PKS.keep {M M' : Mem} {S : Nat → Nat} (h : PKS M S) (e : YK M M') : PKS M' S := fun c hc => by rw [e.1 246 (by decide) (by decide)]; exact h c hc
theorem YK.eqI {M M' : Mem} (h : YK M M') : EqI M M' := ⟨fun a ha => h.1 a (fun q => ha (by unfold scr; omega)) (fun q => ha (by unfold scr; omega)), congrFun (h.1 2 (by decide) (by decide)) 1, h.2 0 (by decide), h.2 5 (by decide), h.2 6 (by decide), h.2 10 (by decide), h.2 14 (by decide)⟩
theorem eqI_246 {M M' : Mem} (h : ∀ a, a ≠ 246 → M' a = M a) : EqI M M' := ⟨fun a ha => h a (fun q => ha (by unfold scr; omega)), congrFun (h 2 (by decide)) 1, congrFun (h 234 (by decide)) _, congrFun (h 234 (by decide)) _, congrFun (h 234 (by decide)) _, congrFun (h 234 (by decide)) _, congrFun (h 234 (by decide)) _⟩
theorem yaim {M : Mem} {S : Nat → Nat} {s : Nat} (x2 : Int32) (hV : VS S) (hK : PKS M S) (hs : s < 3) : ∃ M', loopF (fun z => b_X8_aim_53 z.2.2.2 (nI s) x2 z.1 z.2.1 z.2.2.1) FUEL (0, (-1), 0, M) = some (nI (lgst (fun c => pc 5 (srvL S c s)) 30).1, mI (lgst (fun c => pc 5 (srvL S c s)) 30).2, M') ∧ YK M M' := by
  have hf : ∀ k, pc 5 (srvL S k s) ≤ 5 := by
    intro k
    unfold pc
    exact Nat.le_trans List.countP_le_length (by simp)
  generalize hF : (fun c => pc 5 (srvL S c s)) = F at *
  have hF' : ∀ c, pc 5 (srvL S c s) = F c := fun c => by rw [← hF]
  have key := loopF_rel (body := fun z => b_X8_aim_53 z.2.2.2 (nI s) x2 z.1 z.2.1 z.2.2.1) 30 (fun i z => z.1 = nI (lgst F i).1 ∧ z.2.1 = mI (lgst F i).2 ∧ z.2.2.1 = nI i ∧ YK M z.2.2.2) (fun r => r.1 = nI (lgst F 30).1 ∧ r.2.1 = mI (lgst F 30).2 ∧ YK M r.2.2) ?_ ?_ (fuel := FUEL) (FUEL_lt (by omega)) (s := (0, -1, 0, M)) ⟨rfl, rfl, rfl, YK.refl M⟩
  · obtain ⟨⟨r1, r2, r3⟩, g1, g2, g3, g4⟩ := key
    dsimp only at g2 g3 g4
    rw [g1, g2, g3]
    exact ⟨r3, rfl, g4⟩
  · rintro i ⟨x1, x2', x3, M2⟩ hi ⟨rfl, rfl, rfl, g1⟩
    dsimp only at g1
    show ∃ s', b_X8_aim_53 M2 (nI s) x2 _ _ (nI i) = _ ∧ _
    unfold b_X8_aim_53
    obtain ⟨M3, y1, y2⟩ := yserved (M := M2) (c := i) hV (hK.keep g1) hi hs
    have hsl : srvL S i s < 2 ^ 31 := Nat.lt_of_lt_of_le (srv_lt hV.2.1 _ _) (by decide)
    rw [if_neg (by rw [show (30 : Int32) = nI 30 from rfl]; exact nI_ge hi (by omega)), y1, Option.bind_some]
    dsimp only
    rw [ones_l M3 hsl, Option.bind_some, hF']
    have hb := lgst_le (f := F) (n := i) (B := 5) (fun k _ => by rw [← hF']; exact hf k)
    have hfi : F i ≤ 5 := by rw [← hF']; exact hf i
    have ej : ∀ s0, j_X8_aim_85 M3 (nI s) x2 (mI (lgst F i).2) (nI i) (nI (F i)) s0 = if (lgst F i).2 < F i + 1 then some (.inl (s0, nI (F i), nI (i + 1), M3)) else some (.inl (s0, mI (lgst F i).2, nI (i + 1), M3)) := by
      intro s0
      unfold j_X8_aim_85
      rw [nI_1]
      by_cases c : (lgst F i).2 < F i + 1
      · rw [if_neg (fun q => (mI_le (by omega) (by omega)).mp q c), if_pos c]
      · rw [if_pos ((mI_le (by omega) (by omega)).mpr c), if_neg c]
    rw [ej, ej]
    by_cases c : (lgst F i).2 < F i + 1
    · rw [if_neg (fun q => (mI_le (by omega) (by omega)).mp q c), if_pos c]
      refine ⟨_, rfl, ?_, ?_, rfl, g1.trans y2⟩
      · rw [lgst, if_pos c]
      · rw [lgst, if_pos c, mI_1]
    · rw [if_pos ((mI_le (by omega) (by omega)).mpr c), if_neg c]
      refine ⟨_, rfl, ?_, ?_, rfl, g1.trans y2⟩
      · rw [lgst, if_neg c]
      · rw [lgst, if_neg c]
  · rintro ⟨x1, x2', x3, M2⟩ ⟨rfl, rfl, rfl, g1⟩
    show ∃ r, b_X8_aim_53 M2 (nI s) x2 _ _ (nI 30) = _ ∧ _
    unfold b_X8_aim_53
    rw [if_pos (by decide)]
    exact ⟨_, rfl, rfl, rfl, g1⟩
theorem ag_aim {M : Mem} (h : Inv M) (a b : Int32) : AgWW (m_X7_aim M a b) (fun M1 => m_X8_aim M1 a b) := by
  obtain ⟨S, hS⟩ := h.2.2.1
  have hV := hS.2.2.1
  have hn := hV.2.1
  have i0 : (0 : Int32).toNatClampNeg = 0 := rfl
  unfold m_X7_aim m_X8_aim
  rw [hS.1.1]
  by_cases h0 : nI (S 0) = 0
  · rw [if_pos h0]
    refine ww_same h (r := -1000002) rfl ?_
    rw [chk_of (by decide), i0, hS.2.1.1, if_pos h0]
  · rw [if_neg h0]
    rcases gspread M M a with ⟨s, hs, rfl, g1, g2⟩ | ⟨g1, g2⟩
    · rw [g1, Option.bind_some, if_neg n10]
      rcases geither M M b with ⟨he, f1, f2⟩ | ⟨f1, f2⟩
      · rw [f1, Option.bind_some, if_neg n10]
        obtain ⟨M1, p1, p2, p3⟩ := xpleased hS.1 hV hs
        have e1 : EqI M M1 := eqI_of (fun a _ h2 h3 h4 => p2 a h2 h3 (by omega))
        rw [p1, Option.bind_some]
        have hsl : ∀ c, srvL S c s < 2 ^ 5 := fun c => srv_lt hn _ _
        have hlg := xlargest (M := M1) (T := 200) (f := fun c => pc 5 (srvL S c s)) (v := fun c => srvL S c s) rfl (fun k hk => ⟨p3 k hk, Nat.lt_of_lt_of_le (hsl k) (by decide), pc_5 (hsl k)⟩)
        have hat := lgst_at (fun c => pc 5 (srvL S c s)) 29
        have hlt : (lgst (fun c => pc 5 (srvL S c s)) 30).1 < 30 := Nat.lt_succ_of_le hat.2
        rw [hlg, Option.bind_some]
        obtain ⟨M2, x1, x2⟩ := xthrow (M0 := M1) hlt hs
        obtain ⟨o1, o2, o3⟩ := way_ok hlt hs
        have e2 := x2.eqI
        have hS2 := (e1.trans e2).sq hS
        rw [x1, Option.bind_some]
        -- the reference
        obtain ⟨M3, l1, l2, l3, l4⟩ := ylays hS2.2.1 hV
        have hS3 := l2.sq hS2
        obtain ⟨M4, k1, k2, k3⟩ := ylaysPicks hS3.2.1 hV l4
        obtain ⟨M5, y1, y2⟩ := yaim b hV k3 hs
        have eY : EqI M2 M5 := l2.trans ((eqI_246 k2).trans y2.eqI)
        have g2' : m_X8_in M2 (nI s).toInt64 0 2 = some 1 := by
          rcases gspread M M2 (nI s) with ⟨_, -, -, -, z⟩ | ⟨z, -⟩
          · exact z
          · rw [g1] at z; exact absurd z (by decide)
        have f2' : m_X8_in M2 b.toInt64 0 1 = some 1 := by
          rcases geither M M2 b with ⟨-, -, z⟩ | ⟨z, -⟩
          · exact z
          · rw [f1] at z; exact absurd z (by decide)
        have hY : ∀ r, (if b = 0 then some ((nI (lgst (fun c => pc 5 (srvL S c s)) 30).1, M5)) else some ((mI (lgst (fun c => pc 5 (srvL S c s)) 30).2, M5))) = some (r, M5) → m_X8_aim M2 (nI s) b = some (r, M5) := by
          intro r hr
          unfold m_X8_aim
          rw [chk_of (by decide), i0, hS2.2.1.1, if_neg h0, g2', Option.bind_some, if_neg n10, f2', Option.bind_some, if_neg n10, l1, Option.bind_some, k1, Option.bind_some, y1, Option.bind_some]
          exact hr
        by_cases e0 : b = 0
        · rw [if_pos e0]
          exact ww_q h rfl (e1.trans e2) (M2 := M5) (hY _ (by rw [if_pos e0])) eY
        · rw [if_neg e0, xpickers x2 (by omega) (by decide) hS2.1 hV, Option.bind_some]
          have hv5 : srv S (wayL (lgst (fun c => pc 5 (srvL S c s)) 30).1 s) (wayL (lgst (fun c => pc 5 (srvL S c s)) 30).1 s).length = srvL S (lgst (fun c => pc 5 (srvL S c s)) 30).1 s := rfl
          rw [hv5, bitCount M2 (Nat.lt_of_lt_of_le (hsl _) (by decide)), Option.bind_some, pc_5 (hsl _)]
          refine ww_q h rfl (e1.trans e2) (M2 := M5) (hY _ ?_) eY
          rw [if_neg e0, hat.1, mI_1]
      · rw [f1]
        refine ww_same h (r := -1000001) rfl ?_
        rw [chk_of (by decide), i0, hS.2.1.1, if_neg h0, g2, Option.bind_some, if_neg n10, f2]; rfl
    · rw [g1]
      refine ww_same h (r := -1000001) rfl ?_
      rw [chk_of (by decide), i0, hS.2.1.1, if_neg h0, g2]; rfl
