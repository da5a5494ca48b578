/-! ## run, corner, undo, image, restore -/
def su (S : Nat → Nat) (x v : Nat) : Nat → Nat := fun y => if y = x then v else S y
theorem su_self (S : Nat → Nat) (x v : Nat) : su S x v x = v := if_pos rfl
theorem su_ne (S : Nat → Nat) {x y : Nat} (v : Nat) (h : y ≠ x) : su S x v y = S y := if_neg h
theorem VS.cell {S : Nat → Nat} (hV : VS S) {j c : Nat} (hj : j < 5) (hc : c < 30) : VS (su S (15 + j) c) := by
  obtain ⟨a1, a2, a3, a4, a5, a6⟩ := hV
  unfold VS
  rw [su_ne S c (y := 0) (by omega), su_ne S c (y := 3) (by omega), su_ne S c (y := 1) (by omega), su_ne S c (y := 4) (by omega)]
  refine ⟨a1, a2, a3, a4, a5, fun i hi => ?_⟩
  obtain ⟨b1, b2, b3, b4⟩ := a6 i hi
  rw [su_ne S c (y := 5 + i) (by omega), su_ne S c (y := 10 + i) (by omega), su_ne S c (y := 20 + i) (by omega)]
  refine ⟨b1, b2, ?_, b4⟩
  by_cases e : i = j
  · rw [e, su_self]; exact hc
  · rw [su_ne S c (by omega)]; exact b3
theorem VS.pen {S : Nat → Nat} (hV : VS S) {j c : Nat} (hj : j < 5) (hc : c ≤ 9999) : VS (su S (20 + j) c) := by
  obtain ⟨a1, a2, a3, a4, a5, a6⟩ := hV
  unfold VS
  rw [su_ne S c (y := 0) (by omega), su_ne S c (y := 3) (by omega), su_ne S c (y := 1) (by omega), su_ne S c (y := 4) (by omega)]
  refine ⟨a1, a2, a3, a4, a5, fun i hi => ?_⟩
  obtain ⟨b1, b2, b3, b4⟩ := a6 i hi
  rw [su_ne S c (y := 5 + i) (by omega), su_ne S c (y := 10 + i) (by omega), su_ne S c (y := 15 + i) (by omega)]
  refine ⟨b1, b2, b3, ?_⟩
  by_cases e : i = j
  · rw [e, su_self]; exact hc
  · rw [su_ne S c (by omega)]; exact b4
theorem sqx_su {M : Mem} {S : Nat → Nat} (hX : Sqx M 4 S) (hV : VS S) {j : Nat} (hj : j < S 3) (c : Nat) {f x : Nat} (hf : (f = 3 ∧ x = 15 + j) ∨ (f = 4 ∧ x = 20 + j)) : Sqx (mset M (6 + j) f (nI c)) 4 (su S x c) := by
  have hn := hV.2.1
  obtain ⟨x1, x2, x3, x4, x5⟩ := hX
  have hz : 4 ≠ 6 + j := by omega
  refine ⟨by rw [mset_ne _ _ _ hz, su_ne S c (by omega)]; exact x1, by rw [mset_ne _ _ _ hz, su_ne S c (by omega)]; exact x2, by rw [mset_ne _ _ _ hz, su_ne S c (by omega)]; exact x3, by rw [mset_ne _ _ _ hz, su_ne S c (by omega)]; exact x4, fun i hi => ?_⟩
  rw [su_ne S c (y := 3) (by omega)] at hi
  have := x5 i hi
  rw [su_ne S c (y := 5 + i) (by omega), su_ne S c (y := 10 + i) (by omega)]
  by_cases e : i = j
  · subst e
    have e1 : 4 + 1 + 1 + i = 6 + i := by omega
    rw [e1] at this ⊢
    rw [mset_self, upd_at, upd_at, upd_at, upd_at]
    rcases hf with ⟨rfl, rfl⟩ | ⟨rfl, rfl⟩
    · rw [if_neg (by decide), if_neg (by decide), if_pos rfl, if_neg (by decide), su_self, su_ne S c (by omega)]
      exact ⟨this.1, this.2.1, rfl, this.2.2.2⟩
    · rw [if_neg (by decide), if_neg (by decide), if_neg (by decide), if_pos rfl, su_self, su_ne S c (by omega)]
      exact ⟨this.1, this.2.1, this.2.2.1, rfl⟩
  · rw [mset_ne _ _ _ (by omega), su_ne S c (y := 15 + i) (by omega), su_ne S c (y := 20 + i) (by omega)]
    exact this
theorem sqm_su {f : Nat → Int32} {S : Nat → Nat} (hY : Sqm f S) (hV : VS S) {j : Nat} (hj : j < S 3) (c : Nat) {x : Nat} (hf : x = 15 + j ∨ x = 20 + j) : Sqm (upd f x (nI c)) (su S x c) := by
  have hn := hV.2.1
  obtain ⟨x1, x2, x3, x4, x5, x6⟩ := hY
  refine ⟨by rw [upd_at, if_neg (by omega), su_ne S c (by omega)]; exact x1, by rw [upd_at, if_neg (by omega), su_ne S c (by omega)]; exact x2, by rw [upd_at, if_neg (by omega), su_ne S c (by omega)]; exact x3, by rw [upd_at, if_neg (by omega), su_ne S c (by omega)]; exact x4, fun i hi => ?_, fun i h1 h2 => ?_⟩
  · rw [su_ne S c (y := 3) (by omega)] at hi
    have := x5 i hi
    rw [su_ne S c (y := 5 + i) (by omega), su_ne S c (y := 10 + i) (by omega), upd_at, if_neg (by omega), upd_at, if_neg (by omega)]
    refine ⟨this.1, this.2.1, ?_, ?_⟩
    · rw [upd_at]
      by_cases e : 15 + i = x
      · rw [if_pos e, e, su_self]
      · rw [if_neg e, su_ne S c e]; exact this.2.2.1
    · rw [upd_at]
      by_cases e : 20 + i = x
      · rw [if_pos e, e, su_self]
      · rw [if_neg e, su_ne S c e]; exact this.2.2.2
  · rw [su_ne S c (y := 3) (by omega)] at h1
    rw [upd_at, if_neg (by omega)]
    exact x6 i h1 h2
theorem yisChild {M : Mem} {S : Nat → Nat} (hY : Sqm (M 239) S) (hV : VS S) {j : Nat} (hj : j < S 3) : m_X8_isChild M (nI j) = some 1 := by
  have hn := hV.2.1
  have e3 : (3 : Int32).toNatClampNeg = 3 := rfl
  have hs : (nI (S 3) - 1).toInt = (S 3 : Int) - 1 := by
    have : ∀ n, n ≤ 5 → (nI n - 1).toInt = (n : Int) - 1 := by decide +kernel
    exact this _ hn
  have hc : (0 : Int) ≤ (nI j).toInt ∧ (nI j).toInt ≤ (S 3 : Int) - 1 := by
    rw [nI_toInt (by omega)]
    omega
  unfold m_X8_isChild
  rw [chk_of (by decide), e3, hY.2.2.1, m_inI M (nI j) 0 _ 0 ((S 3 : Int) - 1) rfl (by rw [Int32.toInt_toInt64]; exact hs), Option.bind_some, if_pos hc]
  rfl
theorem inv_act {M M1 Mx M2 My : Mem} {n : Nat} {p' : Nat → Nat} {A : Nat → Nat → Nat} {S S' : Nat → Nat} (h : Inv M) (hn : n ≤ 24) (hA : ∀ i, i < n → VS (A i)) (hV : VS S) (hX1 : XA M1 (kpN n) p' (kpA n A S)) (k1 : ∀ a, a < 26 ∨ 195 < a → M1 a = M a) (x1 : ∀ a, ¬ (4 ≤ a ∧ a ≤ 24) → ¬ (196 ≤ a ∧ a ≤ 201) → Mx a = M1 a) (y2 : YA M2 (kpN n) (kpA n A S)) (y3 : ∀ a, a ≠ 241 → a ≠ 234 → M2 a = Mx a) (y4 : ∀ j, j ≠ 10 → M2 234 j = Mx 234 j) (z1 : ∀ a, a ≠ 239 → a ≠ 234 → ¬ 245 ≤ a → My a = M2 a) (z2 : ∀ j, j = 0 ∨ j = 5 ∨ j = 6 ∨ j = 10 ∨ j = 14 → My 234 j = M2 234 j) (hx : Sqx Mx 4 S') (hy : Sqm (My 239) S') (hv : VS S') (hnum : ∀ j, j < 5 → Mx (6 + j) 0 = nI j) : Inv My := by
  have hVA := fun i (_ : i < kpN n) => kpA_VS hn hA hV i
  have g : ∀ a, 26 ≤ a → a ≤ 195 → My a = M1 a := fun a h1 h2 => by rw [z1 a (by omega) (by omega) (by omega), y3 a (by omega) (by omega), x1 a (by omega) (by omega)]
  refine inv_A h ?_ ⟨S', hx.eq hv ?_ ?_, hy, hv, fun j hj => ?_⟩ (acts_join (hX1.keep hVA g) (y2.keep (z2 10 (by decide)) (z1 241 (by decide) (by decide) (by decide))) hVA)
  · have q : ∀ j, j = 0 ∨ j = 5 ∨ j = 6 ∨ j = 14 → My 234 j = M 234 j := fun j h1 => by rw [z2 j (by omega), y4 j (by omega), x1 234 (by omega) (by omega), k1 234 (by omega)]
    refine ⟨fun a h1 h2 h3 h4 h5 => ?_, ?_, q 0 (by decide), q 5 (by decide), q 6 (by decide), q 14 (by decide)⟩
    · have h6 : a ≠ 234 ∧ ¬ 245 ≤ a ∧ ¬ (11 ≤ a ∧ a ≤ 24) ∧ ¬ (196 ≤ a ∧ a ≤ 201) := by
        unfold scr at h1
        omega
      rw [z1 a h4 h6.1 h6.2.1, y3 a h5 h6.1, x1 a (by omega) (by omega), k1 a (by omega)]
    · rw [z1 2 (by decide) (by decide) (by decide), y3 2 (by decide) (by decide), x1 2 (by omega) (by omega), k1 2 (by omega)]
  · rw [z1 4 (by decide) (by decide) (by decide), y3 4 (by decide) (by decide)]
  · intro j hj
    rw [z1 _ (by omega) (by omega) (by omega), y3 _ (by omega) (by omega)]
  · rw [z1 _ (by omega) (by omega) (by omega), y3 _ (by omega) (by omega)]
    exact hnum j hj
theorem ag_run {M : Mem} (h : Inv M) (a b : Int32) : AgWW (m_X7_run M a b) (fun M1 => m_X8_run M1 a b) := by
  obtain ⟨S, hS⟩ := h.2.2.1
  have hV := hS.2.2.1
  have hn := hV.2.1
  unfold m_X7_run m_X8_run
  rcases gchild hS a with ⟨j, hj, rfl, h1, h2, h3⟩ | ⟨h1, h2⟩
  · rw [h1, Option.bind_some]
    show AgWW (chk _ _) _
    rw [chk_of h2]
    rcases gcell M M b with ⟨c, hc, rfl, g1, g2⟩ | ⟨g1, g2⟩
    · rw [g1, Option.bind_some, if_neg n10]
      obtain ⟨n, p, A, hXA, hYA, hVA⟩ := acts_split h.2.2.2.1
      obtain ⟨M1, p', k1, k2, k3⟩ := xkeep hXA hVA hS.1 hV
      have hj1 := (hS.1.2.2.2.2 j hj).2.2.1
      rw [show 4 + 1 + 1 + j = 6 + j by omega] at hj1
      have hcj := (hV.2.2.2.2.2 j hj).2.2.1
      have hY1 : ∀ v, mset M1 (6 + j) 3 v 239 = M 239 := fun v => by rw [mset_ne _ _ _ (by omega), k3 239 (by omega)]
      obtain ⟨M2, y1, y2, y3, y4⟩ := ykeeps (M := mset M1 (6 + j) 3 (nI c)) (n := n) (A := A) (hYA.keep (by rw [mset_ne _ _ _ (by omega), k3 234 (by omega)]) (by rw [mset_ne _ _ _ (by omega), k3 241 (by omega)])) hXA.1 hVA (by rw [hY1]; exact hS.2.1) hV
      have hY2 : M2 239 = M 239 := by rw [y3 239 (by decide) (by decide), hY1]
      rw [k1, Option.bind_some, k3 (6 + j) (by omega), hj1, xfar M1 hcj hc, Option.bind_some, nm_eq]
      refine ⟨nI (farN (S (15 + j)) c), mset M1 (6 + j) 3 (nI c), mset M2 239 (15 + j) (nI c), rfl, ?_, ?_⟩
      · dsimp only
        rw [yisChild (by rw [hY1]; exact hS.2.1) hV hj, Option.bind_some, if_neg n10]
        have g2' : m_X8_isCell (mset M1 (6 + j) 3 (nI c)) (nI c) = some 1 := by
          rcases gcell M (mset M1 (6 + j) 3 (nI c)) (nI c) with ⟨_, -, -, -, z⟩ | ⟨z, -⟩
          · exact z
          · rw [g1] at z; exact absurd z (by decide)
        rw [g2', Option.bind_some, if_neg n10, y1, Option.bind_some, show (15 : Int32) + nI j = nI (15 + j) from nI_add 15 j, chk_of (inB_nI (by omega) (by omega)), nI_clamp (by omega), hY2, (hS.2.1.2.2.2.2.1 j hj).2.2.1, yfar M2 hcj hc, Option.bind_some, chk_of (inB_nI (by omega) (by omega)), nm_eq]
      · refine inv_act h hXA.1 hVA hV k2 k3 (fun a h1 h2 => mset_ne _ _ _ (by omega)) y2 y3 y4 (fun a h1 h2 h3 => mset_ne _ _ _ h1) (fun j _ => by rw [mset_ne _ _ _ (by decide)]) (sqx_su (hS.1.eq hV (k3 4 (by omega)) (fun j hj => k3 _ (by omega))) hV hj c (Or.inl ⟨rfl, rfl⟩)) ?_ (hV.cell (by omega) hc) (fun i hi => ?_)
        · rw [mset_self, hY2]
          exact sqm_su hS.2.1 hV hj c (Or.inl rfl)
        · have := hS.2.2.2 i hi
          by_cases e : i = j
          · subst e
            rw [mset_self, upd_at, if_neg (by decide), k3 _ (by omega)]
            exact this
          · rw [mset_ne _ _ _ (by omega), k3 _ (by omega)]
            exact this
    · refine ww_same h (r := -1000001) (by rw [g1]; rfl) (by rw [h3, Option.bind_some, if_neg n10, g2]; rfl)
  · exact ww_same h (r := -1000001) (by rw [h1]; rfl) (by rw [h2]; rfl)
def mgt (S : Nat → Nat) (j : Nat) : Nat := if S (5 + j) = 2 then 2 * S (10 + j) else S (10 + j)
theorem xmight {M : Mem} {S : Nat → Nat} (hX : Sqx M 4 S) (hV : VS S) {j : Nat} (hj : j < S 3) : m_X2_might M (6 + j) = some (nI (mgt S j)) := by
  obtain ⟨c1, c2, c3, c4⟩ := hX.2.2.2.2 j hj
  obtain ⟨v1, v2, v3, v4⟩ := hV.2.2.2.2.2 j hj
  rw [show 4 + 1 + 1 + j = 6 + j by omega] at c1 c2
  unfold m_X2_might mgt
  rw [c1, c2, show (2 : Int32) = nI 2 from rfl, pk_mul]
  by_cases e : S (5 + j) = 2
  · rw [if_pos (by rw [e]), if_pos e]
  · rw [if_neg (by rw [nI_eq (by omega) (by omega)]; exact e), if_neg e]
theorem ymight {M : Mem} {S : Nat → Nat} (hY : Sqm (M 239) S) (hV : VS S) {j : Nat} (hj : j < S 3) : m_X8_strengthOf M (nI j) = some (nI (mgt S j)) := by
  have hn := hV.2.1
  obtain ⟨c1, c2, c3, c4⟩ := hY.2.2.2.2.1 j hj
  obtain ⟨v1, v2, v3, v4⟩ := hV.2.2.2.2.2 j hj
  unfold m_X8_strengthOf mgt
  rw [show (5 : Int32) + nI j = nI (5 + j) from nI_add 5 j, show (10 : Int32) + nI j = nI (10 + j) from nI_add 10 j, chk_of (inB_nI (by omega) (by omega)), chk_of (inB_nI (by omega) (by omega)), nI_clamp (by omega), nI_clamp (by omega), c1, c2, show (2 : Int32) = nI 2 from rfl, pk_mul]
  by_cases e : S (5 + j) = 2
  · rw [if_pos (by rw [e]), if_pos e]
  · rw [if_neg (by rw [nI_eq (by omega) (by omega)]; exact e), if_neg e, chk_of (inB_nI (by omega) (by omega))]
theorem mgt_le {S : Nat → Nat} (hV : VS S) {j : Nat} (hj : j < S 3) : mgt S j ≤ 18 := by
  obtain ⟨v1, v2, v3, v4⟩ := hV.2.2.2.2.2 j hj
  unfold mgt
  by_cases e : S (5 + j) = 2
  · rw [if_pos e]; omega
  · rw [if_neg e]; omega
theorem ag_corner {M : Mem} (h : Inv M) (a b : Int32) : AgWW (m_X7_corner M a b) (fun M1 => m_X8_corner M1 a b) := by
  obtain ⟨S, hS⟩ := h.2.2.1
  have hV := hS.2.2.1
  have hn := hV.2.1
  unfold m_X7_corner m_X8_corner
  rcases gchild hS a with ⟨i, hi, rfl, h1, h2, h3⟩ | ⟨h1, h2⟩
  · rcases gchild hS b with ⟨j, hj, rfl, i1, i2, i3⟩ | ⟨i1, i2⟩
    · rw [h1, i1, Option.bind_some, Option.bind_some]
      show AgWW (chk _ (chk _ _)) _
      rw [chk_of h2, chk_of i2]
      by_cases eij : nI i = nI j
      · rw [if_pos eij]
        exact ww_same h (r := -1000001) rfl (by rw [h3, Option.bind_some, if_neg n10, i3, Option.bind_some, if_neg n10, if_pos eij])
      · have hne : i ≠ j := fun q => eij (by rw [q])
        have mi := mgt_le hV hi
        have mj := mgt_le hV hj
        obtain ⟨x1, x2, x3, x4⟩ := hS.1.2.2.2.2 i hi
        obtain ⟨u1, u2, u3, u4⟩ := hS.1.2.2.2.2 j hj
        obtain ⟨v1, v2, v3, v4⟩ := hV.2.2.2.2.2 i hi
        obtain ⟨w1, w2, w3, w4⟩ := hV.2.2.2.2.2 j hj
        rw [show 4 + 1 + 1 + i = 6 + i by omega] at x4
        rw [show 4 + 1 + 1 + j = 6 + j by omega] at u4
        rw [if_neg eij, xmight hS.1 hV hj, Option.bind_some, xmight hS.1 hV hi, Option.bind_some]
        have ylead : ∀ M' : Mem, M' 239 = M 239 → m_X8_corner M' (nI i) (nI j) = (if nI (mgt S j) < nI (mgt S i) then (chk (inB (20 + nI j) 39) (nm ((M' 239 (20 + nI j).toNatClampNeg) / 2) fun y6 => chk (inB (20 + nI i) 39) (if ((M' 239 (20 + nI i).toNatClampNeg) + y6) ≤ 9999 then ((m_X8_keeps M').bind fun r8 => chk (inB (20 + nI j) 39) (chk (inB (20 + nI j) 39) (nm (mset r8 239 (20 + nI j).toNatClampNeg ((r8 239 (20 + nI j).toNatClampNeg) - y6)) fun M11 => chk (inB (20 + nI i) 39) (chk (inB (20 + nI i) 39) (nm (mset M11 239 (20 + nI i).toNatClampNeg ((M11 239 (20 + nI i).toNatClampNeg) + y6)) fun M14 => some ((y6, M14))))))) else (some (((-1000003), M')))))) else (some (((-1000002), M')))) := by
          intro M' hM
          unfold m_X8_corner
          have hY' : Sqm (M' 239) S := by rw [hM]; exact hS.2.1
          rw [yisChild hY' hV hi, Option.bind_some, if_neg n10, yisChild hY' hV hj, Option.bind_some, if_neg n10, if_neg eij, ymight hY' hV hj, Option.bind_some, ymight hY' hV hi, Option.bind_some]
        by_cases c1 : mgt S j < mgt S i
        · rw [if_pos (nI_lt c1 (by omega)), u4, nm_eq, x4, show (2 : Int32) = nI 2 from rfl, pk_div (by omega) (by omega) (by omega), nI_add]
          have ylead2 : ∀ M' : Mem, M' 239 = M 239 → m_X8_corner M' (nI i) (nI j) = (if nI (S (20 + i) + S (20 + j) / 2) ≤ 9999 then ((m_X8_keeps M').bind fun r8 => nm (mset r8 239 (20 + j) ((r8 239 (20 + j)) - nI (S (20 + j) / 2))) fun M11 => nm (mset M11 239 (20 + i) ((M11 239 (20 + i)) + nI (S (20 + j) / 2))) fun M14 => some ((nI (S (20 + j) / 2), M14))) else (some (((-1000003), M')))) := by
            intro M' hM
            rw [ylead M' hM, if_pos (nI_lt c1 (by omega)), show (20 : Int32) + nI j = nI (20 + j) from nI_add 20 j, show (20 : Int32) + nI i = nI (20 + i) from nI_add 20 i, nI_clamp (by omega), nI_clamp (by omega), hM, (hS.2.1.2.2.2.2.1 j hj).2.2.2, (hS.2.1.2.2.2.2.1 i hi).2.2.2, show (2 : Int32) = nI 2 from rfl, pk_div (by omega) (by omega) (by omega)]
            simp only [chk_of (inB_nI (a := 20 + j) (N := 39) (by omega) (by omega)), chk_of (inB_nI (a := 20 + i) (N := 39) (by omega) (by omega)), nm_eq, nI_add]
          by_cases c2 : S (20 + i) + S (20 + j) / 2 ≤ 9999
          · rw [if_pos (by rw [show (9999 : Int32) = nI 9999 from rfl]; exact nI_le c2 (by omega))]
            obtain ⟨n, p, A, hXA, hYA, hVA⟩ := acts_split h.2.2.2.1
            obtain ⟨M1, p', k1, k2, k3⟩ := xkeep hXA hVA hS.1 hV
            rw [k1, Option.bind_some, nm_eq, nm_eq, mset_ne _ _ _ (show 6 + i ≠ 6 + j by omega), k3 (6 + i) (by omega), k3 (6 + j) (by omega), u4, x4, pk_sub (show S (20 + j) / 2 ≤ S (20 + j) by omega), nI_add]
            generalize hMx : mset (mset M1 (6 + j) 4 (nI (S (20 + j) - S (20 + j) / 2))) (6 + i) 4 (nI (S (20 + i) + S (20 + j) / 2)) = Mx
            have gx : ∀ a, a ≠ 6 + i → a ≠ 6 + j → Mx a = M1 a := fun a h1 h2 => by rw [← hMx, mset_ne _ _ _ h1, mset_ne _ _ _ h2]
            have hY1 : Mx 239 = M 239 := by rw [gx 239 (by omega) (by omega), k3 239 (by omega)]
            obtain ⟨M2, y1, y2, y3, y4⟩ := ykeeps (M := Mx) (n := n) (A := A) (hYA.keep (by rw [gx 234 (by omega) (by omega), k3 234 (by omega)]) (by rw [gx 241 (by omega) (by omega), k3 241 (by omega)])) hXA.1 hVA (by rw [hY1]; exact hS.2.1) hV
            have hY2 : M2 239 = M 239 := by rw [y3 239 (by decide) (by decide), hY1]
            have hV1 : VS (su S (20 + j) (S (20 + j) - S (20 + j) / 2)) := hV.pen (by omega) (by omega)
            have hi1 : i < su S (20 + j) (S (20 + j) - S (20 + j) / 2) 3 := by rw [su_ne _ _ (by omega)]; exact hi
            refine ⟨nI (S (20 + j) / 2), Mx, mset (mset M2 239 (20 + j) (nI (S (20 + j) - S (20 + j) / 2))) 239 (20 + i) (nI (S (20 + i) + S (20 + j) / 2)), rfl, ?_, ?_⟩
            · show m_X8_corner Mx (nI i) (nI j) = _
              rw [ylead2 Mx hY1, if_pos (by rw [show (9999 : Int32) = nI 9999 from rfl]; exact nI_le c2 (by omega)), y1, Option.bind_some, nm_eq, nm_eq, mset_self, upd_at, if_neg (by omega), hY2, (hS.2.1.2.2.2.2.1 j hj).2.2.2, (hS.2.1.2.2.2.2.1 i hi).2.2.2, pk_sub (show S (20 + j) / 2 ≤ S (20 + j) by omega), nI_add]
            · refine inv_act (S' := su (su S (20 + j) (S (20 + j) - S (20 + j) / 2)) (20 + i) (S (20 + i) + S (20 + j) / 2)) h hXA.1 hVA hV k2 k3 (fun a h1 h2 => gx a (by omega) (by omega)) y2 y3 y4 (fun a h1 h2 h3 => by rw [mset_ne _ _ _ h1, mset_ne _ _ _ h1]) (fun j _ => by rw [mset_ne _ _ _ (by decide), mset_ne _ _ _ (by decide)]) ?_ ?_ (hV1.pen (by omega) c2) (fun t ht => ?_)
              · rw [← hMx]
                exact sqx_su (sqx_su (hS.1.eq hV (k3 4 (by omega)) (fun j hj => k3 _ (by omega))) hV hj _ (Or.inr ⟨rfl, rfl⟩)) hV1 hi1 _ (Or.inr ⟨rfl, rfl⟩)
              · rw [mset_self, mset_self, hY2]
                exact sqm_su (sqm_su hS.2.1 hV hj _ (Or.inr rfl)) hV1 hi1 _ (Or.inr rfl)
              · have := hS.2.2.2 t ht
                rw [← hMx]
                by_cases e : t = i
                · subst e
                  rw [mset_self, upd_at, if_neg (by decide), mset_ne _ _ _ (by omega), k3 _ (by omega)]
                  exact this
                · rw [mset_ne _ _ _ (by omega)]
                  by_cases e2 : t = j
                  · subst e2
                    rw [mset_self, upd_at, if_neg (by decide), k3 _ (by omega)]
                    exact this
                  · rw [mset_ne _ _ _ (by omega), k3 _ (by omega)]
                    exact this
          · rw [if_neg (by rw [show (9999 : Int32) = nI 9999 from rfl]; exact nI_ge (by omega) (by omega))]
            refine ww_same h (r := -1000003) rfl ?_
            show m_X8_corner M (nI i) (nI j) = _
            rw [ylead2 M rfl, if_neg (by rw [show (9999 : Int32) = nI 9999 from rfl]; exact nI_ge (by omega) (by omega))]
        · rw [if_neg (nI_nlt (by omega) (by omega))]
          refine ww_same h (r := -1000002) rfl ?_
          show m_X8_corner M (nI i) (nI j) = _
          rw [ylead M rfl, if_neg (nI_nlt (by omega) (by omega))]
    · rw [h1, i1, Option.bind_some, Option.bind_some]
      show AgWW (chk _ _) _
      rw [chk_of h2]
      refine ww_same h (r := -1000001) rfl ?_
      rw [h3, Option.bind_some, if_neg n10, i2]
      rfl
  · rcases gchild hS b with ⟨j, hj, rfl, i1, i2, i3⟩ | ⟨i1, i2⟩
    · exact ww_same h (r := -1000001) (by rw [h1, i1]; rfl) (by rw [h2]; rfl)
    · exact ww_same h (r := -1000001) (by rw [h1, i1]; rfl) (by rw [h2]; rfl)
theorem ag_undo {M : Mem} (h : Inv M) : AgWW (m_X7_undo M) (fun M1 => m_X8_undo M1) := by
  obtain ⟨S, hS⟩ := h.2.2.1
  obtain ⟨n, p, A, hXA, hYA, hVA⟩ := acts_split h.2.2.2.1
  unfold m_X7_undo m_X8_undo m_X0_takeBack
  rw [hXA.2.1]
  cases n with
  | zero =>
    have e : m_X0_at M (nI 0 - 1) = some none := by
      unfold m_X0_at
      rw [if_pos (by decide)]
    rw [e]
    refine ww_same h (r := -1000002) rfl ?_
    rw [hYA.1, if_pos (by decide)]
  | succ m =>
    have hm := hXA.1
    have hp := (hXA.2.2.1 m (by omega)).2
    rw [nI_pred, xat_act hXA.2.2.1 (by omega), Option.bind_some]
    show AgWW ((chk (kdB (28 + 7 * p m) 5) _).bind _) _
    rw [chk_of (kdB_of (kd_act _ hp))]
    obtain ⟨M1, t1, t2, t3, t4, t5⟩ := xtake (M := M) (q := 4) (p := 28 + 7 * p m) (by decide) (kd_act _ hp) (by omega) (hXA.2.2.2.2 m (by omega)) (hVA m (by omega))
    rw [t1, Option.bind_some, nm_eq, Option.bind_some, if_neg n10]
    dsimp only
    rw [t3 26 (by omega), hXA.2.1, nI_pred, mset_self, upd_at, if_pos rfl]
    generalize hMx : mset M1 26 1 (nI m) = Mx
    have gx : ∀ a, a < 4 ∨ 10 < a → a ≠ 26 → Mx a = M a := fun a h1 h2 => by rw [← hMx, mset_ne _ _ _ h2, t3 a (by omega)]
    have h10 : mset Mx 234 10 (nI m) 234 10 = nI m := by rw [mset_self, upd_at, if_pos rfl]
    obtain ⟨M2, c1, c2, c3, c4⟩ := loop_cp (body := fun z => b_X8_undo_22 z.2 z.1) (M := mset Mx 234 10 (nI m)) (ca := 241) (cb := 239) (oa := 39 * m) (ob := 0) (by decide) (by
      intro M2 hM
      show b_X8_undo_22 M2 (nI 39) = _
      unfold b_X8_undo_22
      rw [if_pos (by decide)]) (by
      intro i M2 hi hM
      show b_X8_undo_22 M2 (nI i) = _
      unfold b_X8_undo_22
      rw [if_neg (by rw [show (39 : Int32) = nI 39 from rfl]; exact nI_ge hi (by omega)), hM 234 (by decide), h10, show (39 : Int32) = nI 39 from rfl, pk_mul, nI_add, chk_of (inB_nI (by omega) (by omega)), chk_of (inB_nI (by omega) (by omega)), nm_eq, nI_clamp (by omega), nI_clamp (by omega), nI_1, Nat.zero_add])
    have c1' : loopF (fun z => b_X8_undo_22 z.2 z.1) FUEL (0, mset Mx 234 10 (nI m)) = some M2 := c1
    refine ⟨nI m, Mx, M2, rfl, ?_, ?_⟩
    · dsimp only
      rw [gx 234 (by omega) (by omega), hYA.1, if_neg (nI_ne0 (by omega) (by omega)), nI_pred, nm_eq, c1', Option.bind_some, c2 234 (by decide), h10]
    · have g2 : ∀ a, a < 4 ∨ 10 < a → a ≠ 26 → a ≠ 239 → a ≠ 234 → M2 a = M a := fun a h1 h2 h3 h4 => by rw [c2 a h3, mset_ne _ _ _ h4, gx a h1 h2]
      have g234 : ∀ j, j ≠ 10 → M2 234 j = M 234 j := fun j hj => by rw [c2 234 (by decide), mset_self, upd_at, if_neg hj, gx 234 (by omega) (by omega)]
      have g4 : ∀ a, 4 ≤ a → a ≤ 10 → M2 a = M1 a := fun a h1 h2 => by rw [c2 a (by omega), mset_ne _ _ _ (by omega), ← hMx, mset_ne _ _ _ (by omega)]
      have hVm := hVA m (by omega)
      refine inv_A h ⟨fun a h1 h2 h3 h4 h5 => g2 a (by omega) (by omega) h4 (fun z => h1 (by unfold scr; omega)), congrFun (g2 2 (by omega) (by omega) (by omega) (by omega)) _, g234 _ (by decide), g234 _ (by decide), g234 _ (by decide), g234 _ (by decide)⟩ ⟨A m, t2.eq hVm (g4 4 (by omega) (by omega)) (fun j hj => g4 _ (by omega) (by omega)), (hYA.2 m (by omega)).eq hVm (fun k hk => ?_), hVm, fun j hj => ?_⟩ (acts_join (n := m) (p := p) (A := A) ⟨by omega, ?_, fun i hi => ?_, hXA.2.2.2.1, fun i hi => ?_⟩ ⟨?_, fun i hi => ?_⟩ (fun i hi => hVA i (by omega)))
      · have := c3 k hk
        rw [Nat.zero_add] at this
        rw [this, mset_ne _ _ _ (by decide), gx 241 (by omega) (by omega)]
      · have := t5 j hj
        rw [show 4 + 1 + 1 + j = 6 + j by omega] at this
        rw [g4 _ (by omega) (by omega), this]
        exact hS.2.2.2 j hj
      · rw [c2 26 (by decide), mset_ne _ _ _ (by decide), ← hMx, mset_self, upd_at, if_pos rfl]
      · rw [g2 27 (by omega) (by omega) (by omega) (by omega)]
        exact hXA.2.2.1 i hi
      · have hpi := (hXA.2.2.1 i (by omega)).2
        exact (hXA.2.2.2.2 i (by omega)).eq (hVA i (by omega)) (g2 _ (by omega) (by omega) (by omega) (by omega)) (fun j hj => g2 _ (by omega) (by omega) (by omega) (by omega))
      · rw [c2 234 (by decide), h10]
      · rw [g2 241 (by omega) (by omega) (by omega) (by omega)]
        exact hYA.2 i (by omega)
theorem gimg (M M' : Mem) (x : Int32) : (∃ k, k < 2 ∧ x = nI k ∧ m_X7_imageAt M x = some (some (220 + 7 * k)) ∧ kd (220 + 7 * k) = 5 ∧ m_X8_in M' x.toInt64 0 1 = some 1) ∨ (m_X7_imageAt M x = some none ∧ m_X8_in M' x.toInt64 0 1 = some 0) := by
  rcases gin M' x 0 1 0 1 rfl rfl with ⟨h1, h2, h3⟩ | ⟨h1, h3⟩
  · left
    obtain ⟨r, hr, rfl⟩ := inN_nI (x := x) (N := 2) ⟨h1, by omega⟩
    have hk : ∀ k, k < 2 → kd (220 + 7 * k) = 5 := by decide +kernel
    refine ⟨r, hr, rfl, ?_, hk r hr, h3⟩
    unfold m_X7_imageAt
    rw [if_neg (nI_pos (by omega)), if_neg (by rw [show (2 : Int32) = nI 2 from rfl]; exact nI_ge hr (by omega)), chk_of (inB_nI hr (by omega)), nI_clamp (by omega)]
  · right
    refine ⟨?_, h3⟩
    unfold m_X7_imageAt
    by_cases q1 : x < 0
    · rw [if_pos q1]
    · rw [if_neg q1, if_pos]
      have a : ¬ x.toInt < (0 : Int32).toInt := fun q => q1 (i32_lt.mpr q)
      rw [i32_le]
      rw [show (0 : Int32).toInt = 0 from rfl] at a
      rw [show (2 : Int32).toInt = 2 from rfl]
      omega
theorem ag_image {M : Mem} (h : Inv M) (a : Int32) : AgWW (m_X7_image M a) (fun M1 => m_X8_image M1 a) := by
  obtain ⟨S, hS⟩ := h.2.2.1
  have hV := hS.2.2.1
  have i0 : (0 : Int32).toNatClampNeg = 0 := rfl
  unfold m_X7_image m_X8_image
  rcases gimg M M a with ⟨k, hk, rfl, h1, h2, h3⟩ | ⟨h1, h2⟩
  · rw [h1, Option.bind_some]
    show AgWW (chk (kdB (220 + 7 * k) 5) _) _
    rw [chk_of (kdB_of h2), hS.1.1]
    by_cases h0 : nI (S 0) = 0
    · rw [if_pos h0]
      refine ww_same h (r := -1000002) rfl ?_
      rw [h3, Option.bind_some, if_neg n10, chk_of (by decide), i0, hS.2.1.1, if_pos h0]
    · rw [if_neg h0]
      have hS0 : S 0 = 1 := by
        have h01 := hV.1
        by_cases e : S 0 = 0
        · exact absurd (by rw [e]; rfl) h0
        · omega
      obtain ⟨M1, t1, t2, t3, t4, t5⟩ := xtake (M := M) (q := 220 + 7 * k) (p := 4) h2 (by decide) (by omega) hS.1 hV
      rw [t1, Option.bind_some]
      obtain ⟨M2, c1, c2, c3, c4⟩ := loop_cp (body := fun z => b_X8_image_27 z.2 (nI k) z.1) (M := M1) (ca := 239) (cb := 242) (oa := 0) (ob := 39 * k) (by decide) (by
        intro M2 hM
        show b_X8_image_27 M2 (nI k) (nI 39) = _
        unfold b_X8_image_27
        rw [if_pos (by decide)]) (by
        intro i M2 hi hM
        show b_X8_image_27 M2 (nI k) (nI i) = _
        unfold b_X8_image_27
        rw [if_neg (by rw [show (39 : Int32) = nI 39 from rfl]; exact nI_ge hi (by omega)), chk_of (inB_nI hi (by omega)), show (39 : Int32) = nI 39 from rfl, pk_mul, nI_add, chk_of (inB_nI (by omega) (by omega)), nm_eq, nI_clamp (by omega), nI_clamp (by omega), nI_1, Nat.zero_add])
      have c1' : loopF (fun z => b_X8_image_27 z.2 (nI k) z.1) FUEL (0, M1) = some M2 := c1
      have hY1 : M1 239 = M 239 := t3 239 (by omega)
      have g3 : m_X8_in M1 (nI k).toInt64 0 1 = some 1 := by
        rcases gimg M M1 (nI k) with ⟨_, -, -, -, -, z⟩ | ⟨z, -⟩
        · exact z
        · rw [h1] at z; exact absurd z (by simp)
      refine ⟨1, M1, mset M2 243 k 1, rfl, ?_, ?_⟩
      · dsimp only
        rw [g3, Option.bind_some, if_neg n10, chk_of (by decide), i0, hY1, hS.2.1.1, if_neg h0, c1', Option.bind_some, chk_of (inB_nI hk (by omega)), nm_eq, nI_clamp (by omega)]
        rfl
      · have g : ∀ a, ¬ (220 + 7 * k ≤ a ∧ a ≤ 220 + 7 * k + 6) → a ≠ 242 → a ≠ 243 → mset M2 243 k 1 a = M a := fun a h1 h2 h3 => by rw [mset_ne _ _ _ h3, c2 a h2, t3 a (by omega)]
        obtain ⟨i1, i2, -, i4, i5, i6, i7⟩ := h
        refine ⟨i1.eq (fun r hr => g _ (by omega) (by omega) (by omega)) (g _ (by omega) (by omega) (by omega)) (g _ (by omega) (by omega) (by omega)) (g _ (by omega) (by omega) (by omega)), i2.eq (congrFun (g 2 (by omega) (by omega) (by omega)) _) (congrFun (g 234 (by omega) (by omega) (by omega)) _) (g _ (by omega) (by omega) (by omega)) (g _ (by omega) (by omega) (by omega)), ⟨S, hS.eq (fun a ha hb => g a (by omega) (by omega) (by omega)) (g _ (by omega) (by omega) (by omega))⟩, i4.eq (g _ (by omega) (by omega) (by omega)) (congrFun (g 234 (by omega) (by omega) (by omega)) _) (g _ (by omega) (by omega) (by omega)) (fun a ha hb => g a (by omega) (by omega) (by omega)) (g _ (by omega) (by omega) (by omega)), ?_, i6.eq (g _ (by omega) (by omega) (by omega)) (congrFun (g 234 (by omega) (by omega) (by omega)) _) (g _ (by omega) (by omega) (by omega)) (g _ (by omega) (by omega) (by omega)), i7.eq (g _ (by omega) (by omega) (by omega)) (congrFun (g 234 (by omega) (by omega) (by omega)) _) (congrFun (g 234 (by omega) (by omega) (by omega)) _)⟩
        intro q hq
        have e243 : mset M2 243 k 1 243 q = if q = k then 1 else M 243 q := by rw [mset_self, upd_at, c2 243 (by decide), t3 243 (by omega)]
        by_cases e : q = k
        · subst e
          right
          have gk : ∀ a, 220 + 7 * q ≤ a → a ≤ 220 + 7 * q + 6 → mset M2 243 q 1 a = M1 a := fun a h1 h2 => by rw [mset_ne _ _ _ (by omega), c2 a (by omega)]
          refine ⟨S, by rw [e243, if_pos rfl], hS0, t2.eq hV (gk _ (by omega) (by omega)) (fun j hj => gk _ (by omega) (by omega)), hS.2.1.eq hV (fun i hi => ?_), hV⟩
          rw [mset_ne _ _ _ (by decide), c3 i hi, hY1, Nat.zero_add]
        · rcases i5 q hq with ⟨o1, o2⟩ | ⟨A, o1, o2, o3, o4, o5⟩
          · left
            rw [g _ (by omega) (by omega) (by omega), e243, if_neg e]
            exact ⟨o1, o2⟩
          · right
            refine ⟨A, by rw [e243, if_neg e]; exact o1, o2, o3.eq o5 (g _ (by omega) (by omega) (by omega)) (fun j hj => g _ (by omega) (by omega) (by omega)), o4.eq o5 (fun i hi => ?_), o5⟩
            rw [mset_ne _ _ _ (by decide), c4 _ (by omega), t3 242 (by omega)]
  · exact ww_same h (r := -1000001) (by rw [h1]; rfl) (by rw [h2]; rfl)
theorem ag_restore {M : Mem} (h : Inv M) (a : Int32) : AgWW (m_X7_restore M a) (fun M1 => m_X8_restore M1 a) := by
  obtain ⟨S, hS⟩ := h.2.2.1
  obtain ⟨n, p, A', hXA, hYA, hVA⟩ := acts_split h.2.2.2.1
  unfold m_X7_restore m_X8_restore
  rcases gimg M M a with ⟨k, hk, rfl, h1, h2, h3⟩ | ⟨h1, h2⟩
  · rw [h1, Option.bind_some]
    show AgWW (chk (kdB (220 + 7 * k) 5) _) _
    rw [chk_of (kdB_of h2)]
    rcases h.2.2.2.2.1 k hk with ⟨o1, o2⟩ | ⟨A, o1, o2, o3, o4, o5⟩
    · rw [o1, if_pos rfl]
      refine ww_same h (r := -1000002) rfl ?_
      rw [h3, Option.bind_some, if_neg n10, chk_of (inB_nI hk (by omega)), nI_clamp (by omega), o2, if_pos rfl]
    · rw [o3.1, o2, if_neg (by decide)]
      obtain ⟨M1, t1, t2, t3, t4, t5⟩ := xtake (M := M) (q := 4) (p := 220 + 7 * k) (by decide) h2 (by omega) o3 o5
      rw [t1, Option.bind_some, nm_eq]
      generalize hMx : mset M1 26 1 0 = Mx
      have gx : ∀ a, a < 4 ∨ 10 < a → a ≠ 26 → Mx a = M a := fun a h1 h2 => by rw [← hMx, mset_ne _ _ _ h2, t3 a (by omega)]
      obtain ⟨M2, c1, c2, c3, c4⟩ := loop_cp (body := fun z => b_X8_restore_27 z.2 (nI k) z.1) (M := Mx) (ca := 242) (cb := 239) (oa := 39 * k) (ob := 0) (by decide) (by
        intro M2 hM
        show b_X8_restore_27 M2 (nI k) (nI 39) = _
        unfold b_X8_restore_27
        rw [if_pos (by decide)]) (by
        intro i M2 hi hM
        show b_X8_restore_27 M2 (nI k) (nI i) = _
        unfold b_X8_restore_27
        rw [if_neg (by rw [show (39 : Int32) = nI 39 from rfl]; exact nI_ge hi (by omega)), show (39 : Int32) = nI 39 from rfl, pk_mul, nI_add, chk_of (inB_nI (by omega) (by omega)), chk_of (inB_nI (by omega) (by omega)), nm_eq, nI_clamp (by omega), nI_clamp (by omega), nI_1, Nat.zero_add])
      have c1' : loopF (fun z => b_X8_restore_27 z.2 (nI k) z.1) FUEL (0, Mx) = some M2 := c1
      have g3 : m_X8_in Mx (nI k).toInt64 0 1 = some 1 := by
        rcases gimg M Mx (nI k) with ⟨_, -, -, -, -, z⟩ | ⟨z, -⟩
        · exact z
        · rw [h1] at z; exact absurd z (by simp)
      refine ⟨1, Mx, mset M2 234 10 0, rfl, ?_, ?_⟩
      · dsimp only
        rw [g3, Option.bind_some, if_neg n10, chk_of (inB_nI hk (by omega)), nI_clamp (by omega), gx 243 (by omega) (by omega), o1, if_neg n10, c1', Option.bind_some, nm_eq]
      · have g2 : ∀ a, a < 4 ∨ 10 < a → a ≠ 26 → a ≠ 239 → a ≠ 234 → mset M2 234 10 0 a = M a := fun a h1 h2 h3 h4 => by rw [mset_ne _ _ _ h4, c2 a h3, gx a h1 h2]
        have g234 : ∀ j, j ≠ 10 → mset M2 234 10 0 234 j = M 234 j := fun j hj => by rw [mset_self, upd_at, if_neg hj, c2 234 (by decide), gx 234 (by omega) (by omega)]
        have g4 : ∀ a, 4 ≤ a → a ≤ 10 → mset M2 234 10 0 a = M1 a := fun a h1 h2 => by rw [mset_ne _ _ _ (by omega), c2 a (by omega), ← hMx, mset_ne _ _ _ (by omega)]
        refine inv_A h ⟨fun a h1 h2 h3 h4 h5 => g2 a (by omega) (by omega) h4 (fun z => h1 (by unfold scr; omega)), congrFun (g2 2 (by omega) (by omega) (by omega) (by omega)) _, g234 _ (by decide), g234 _ (by decide), g234 _ (by decide), g234 _ (by decide)⟩ ⟨A, t2.eq o5 (g4 4 (by omega) (by omega)) (fun j hj => g4 _ (by omega) (by omega)), o4.eq o5 (fun i hi => ?_), o5, fun j hj => ?_⟩ (acts_join (n := 0) (p := p) (A := A') ⟨by omega, ?_, fun i hi => ?_, hXA.2.2.2.1, fun i hi => absurd hi (by omega)⟩ ⟨?_, fun i hi => absurd hi (by omega)⟩ (fun i hi => absurd hi (by omega)))
        · have := c3 i hi
          rw [Nat.zero_add] at this
          rw [mset_ne _ _ _ (by decide), this, gx 242 (by omega) (by omega)]
        · have := t5 j hj
          rw [show 4 + 1 + 1 + j = 6 + j by omega] at this
          rw [g4 _ (by omega) (by omega), this]
          exact hS.2.2.2 j hj
        · rw [mset_ne _ _ _ (by decide), c2 26 (by decide), ← hMx, mset_self, upd_at, if_pos rfl]
          rfl
        · rw [g2 27 (by omega) (by omega) (by omega) (by omega)]
          exact hXA.2.2.1 i hi
        · rw [mset_self, upd_at, if_pos rfl]
          rfl
  · exact ww_same h (r := -1000001) (by rw [h1]; rfl) (by rw [h2]; rfl)
