/-! ## who picks -/
theorem sh_m : ∀ c, c < 32 → ((nI c &&& 31).toBitVec.smod 32).toNat = c := by decide +kernel
theorem bit_at {g c : Nat} (hg : g < 2 ^ 31) (hc : c < 31) : ((nI g >>> (nI c &&& 31)) &&& 1) = nI (g / 2 ^ c % 2) := by
  rw [pk_shrN hg _ c (sh_m c (by omega))]
  have h1 : g / 2 ^ c < 2 ^ 32 := Nat.lt_of_le_of_lt (Nat.div_le_self _ _) (by omega)
  exact pk_andN h1 1 (by decide)
theorem bit_0 {g c : Nat} (hg : g < 2 ^ 31) (hc : c < 31) : ((nI g >>> (nI c &&& 31)) &&& 1) = 0 ↔ g.testBit c = false := by
  rw [bit_at hg hc, show (0 : Int32) = nI 0 from rfl, nI_eq (by omega) (by omega), Nat.testBit_eq_decide_div_mod_eq]
  constructor
  · intro h
    rw [h]
    rfl
  · intro h
    have := of_decide_eq_false h
    omega
/-- a cell as the class tells it: -1 beyond the square -/
def cX (c : Nat) : Int32 := if c < 30 then nI c else -1
def pkX (p : Nat) : Int32 := if p = 0 then -1 else nI (p - 1)
def pkY (p : Nat) : Int32 := if p = 0 then -1000000 else nI (p - 1)
theorem xisCell_cX (M : Mem) (c : Nat) : m_X7_isCell M (cX c) = some (if c < 30 then 1 else 0) := by
  unfold cX
  by_cases h : c < 30
  · rw [if_pos h, if_pos h]
    rcases xisCell M (nI c) with ⟨h1, h2⟩ | ⟨h1, h2⟩
    · exact h2
    · exact absurd (nI_inN h (by omega)) h1
  · rw [if_neg h, if_neg h]
    rfl
theorem xdry {M : Mem} {q : Nat} {S : Nat → Nat} (hX : Sqx M q S) (hV : VS S) (c : Nat) : m_X5_isDry M q (cX c) = some (if c < 30 ∧ dry S c = true then 1 else 0) := by
  unfold m_X5_isDry
  rw [xisCell_cX, Option.bind_some]
  by_cases h : c < 30
  · rw [if_pos h, if_neg (by decide), hX.2.2.1]
    rw [show cX c = nI c from if_pos h]
    by_cases hb : (S 4).testBit c = false
    · rw [if_pos ((bit_0 (by have := hV.2.2.2.2.1; omega) (by omega)).mpr hb), if_pos ⟨h, by simp [dry, hb]⟩]
    · rw [if_neg (fun q => hb ((bit_0 (by have := hV.2.2.2.2.1; omega) (by omega)).mp q)), if_neg]
      rintro ⟨-, q⟩
      apply hb
      simpa [dry] using q
  · rw [if_neg h, if_pos rfl, if_neg (fun q => h q.1)]
theorem xat {M : Mem} {q : Nat} {S : Nat → Nat} (hX : Sqx M q S) (hV : VS S) {j : Nat} (hj : j < S 3) : m_X5_at M q (nI j) = some (some (q + 1 + 1 + j)) := by
  have hn := hV.2.1
  unfold m_X5_at
  rw [if_neg (nI_pos (by omega)), hX.2.2.2.1, if_neg (nI_ge hj (by omega)), if_neg (by rw [show (5 : Int32) = nI 5 from rfl]; exact nI_ge (by omega) (by omega)), chk_of (inB_nI (by omega) (by omega)), nI_clamp (by omega)]
theorem xat_none {M : Mem} {q : Nat} {S : Nat → Nat} (hX : Sqx M q S) (hV : VS S) {x : Int32} (hx : ¬ inN x (S 3)) : m_X5_at M q x = some none := by
  have hn := hV.2.1
  unfold m_X5_at
  by_cases h1 : x < 0
  · rw [if_pos h1]
  · rw [if_neg h1, if_pos]
    rw [hX.2.2.2.1]
    have a : ¬ x.toInt < 0 := fun q => h1 (i32_lt.mpr q)
    rw [i32_le, nI_toInt (by omega)]
    unfold inN at hx
    omega
theorem bst_le {P : Nat → Nat} {B n : Nat} (h : ∀ j, j < n → P j ≤ B) : (bst P n).2 ≤ B ∧ (bst P n).1 ≤ n := by
  induction n with
  | zero => exact ⟨Nat.zero_le _, Nat.le_refl _⟩
  | succ n ih =>
    have h1 := ih (fun j hj => h j (by omega))
    have h2 := h n (by omega)
    unfold bst
    by_cases c : (bst P n).2 < P n
    · rw [if_pos c]
      exact ⟨h2, Nat.le_refl _⟩
    · rw [if_neg c]
      omega
theorem PW_le {S w : Nat → Nat} (hV : VS S) {h c : Nat} (hh : h ≤ 20) (hc : c < 30) (hw : ∀ j, j < S 3 → w j < 30) : ∀ j, j < S 3 → PW S w h c j ≤ 100 := by
  intro j hj
  obtain ⟨a, b, -⟩ := hV.2.2.2.2.2 j hj
  exact pw_le a b.2 (farN_le (hw j hj) hc) hh
theorem xpicker {M : Mem} {q : Nat} {S : Nat → Nat} (hq : kd q = 5) (hX : Sqx M q S) (hV : VS S) (c : Nat) : m_X5_pickerAt M q (cX c) = some (pkX (pick S (wh S) (S 1) c)) := by
  have hn := hV.2.1
  have hh := hV.2.2.2.1
  unfold m_X5_pickerAt pick
  by_cases hd : c < 30 ∧ dry S c = true
  · rw [if_pos hd]
    have hw : ∀ j, j < S 3 → wh S j < 30 := fun j hj => (hV.2.2.2.2.2 j hj).2.2.1
    have hP := PW_le hV (w := wh S) hh hd.1 hw
    have key := loopF_for (body := fun z => b_X5_pickerAt_7 M q (cX c) z.1 z.2.1 z.2.2) 5 (fun i => (pkX (bst (PW S (wh S) (S 1) c) (min i (S 3))).1, nI (bst (PW S (wh S) (S 1) c) (min i (S 3))).2, nI i)) (pkX (bst (PW S (wh S) (S 1) c) (S 3)).1) FUEL (FUEL_lt (by omega)) ?_ ?_
    · rw [Nat.zero_min] at key
      have e0 : (((-1) : Int32), (0 : Int32), (0 : Int32)) = (pkX (bst (PW S (wh S) (S 1) c) 0).1, nI (bst (PW S (wh S) (S 1) c) 0).2, nI 0) := rfl
      rw [e0, key]
      rfl
    · intro i hi
      show b_X5_pickerAt_7 M q (cX c) _ _ (nI i) = _
      unfold b_X5_pickerAt_7
      rw [if_neg (by rw [show (5 : Int32) = nI 5 from rfl]; exact nI_ge hi (by omega)), xdry hX hV, Option.bind_some, if_pos hd, if_neg (by decide)]
      by_cases hj : i < S 3
      · rw [xat hX hV hj, Option.bind_some]
        obtain ⟨c1, c2, c3, c4⟩ := hX.2.2.2.2 i hj
        obtain ⟨v1, v2, v3, v4⟩ := hV.2.2.2.2.2 i hj
        show chk (kdB (q + 1 + 1 + i) 2) _ = _
        rw [chk_of (kdB_of (kd_ch hq i (by omega))), c3, show cX c = nI c from if_pos hd.1, xfar M v3 hd.1, Option.bind_some, hX.2.1, xpow M c1 c2 v1 v2.2 (farN_le v3 hd.1) hh, Option.bind_some]
        have e1 : min i (S 3) = i := by omega
        have e2 : min (i + 1) (S 3) = i + 1 := by omega
        rw [e1, e2]
        have hb := bst_le (P := PW S (wh S) (S 1) c) (n := i) (B := 100) (fun j hj' => hP j (by omega))
        have hp := hP i hj
        unfold j_X5_pickerAt_56
        have e3 : pw (S (5 + i)) (S (10 + i)) (farN (S (15 + i)) c) (S 1) = PW S (wh S) (S 1) c i := rfl
        rw [e3]
        conv => rhs; rw [bst]
        by_cases hc : (bst (PW S (wh S) (S 1) c) i).2 < PW S (wh S) (S 1) c i
        · rw [if_neg (nI_ge hc (by omega)), if_pos hc]
          simp only [nI_1]
          rfl
        · rw [if_pos (nI_le (by omega) (by omega)), if_neg hc]
          simp only [nI_1]
      · rw [xat_none hX hV (by unfold inN; rw [nI_toInt (by omega)]; omega), Option.bind_some]
        have e1 : min i (S 3) = S 3 := by omega
        have e2 : min (i + 1) (S 3) = S 3 := by omega
        rw [e1, e2]
        show j_X5_pickerAt_56 M q (cX c) _ _ (nI i) 0 = _
        unfold j_X5_pickerAt_56
        have hb := bst_le (P := PW S (wh S) (S 1) c) (n := S 3) (B := 100) hP
        rw [show (0 : Int32) = nI 0 from rfl, if_pos (nI_le (by omega) (by omega))]
        simp only [nI_1]
    · show b_X5_pickerAt_7 M q (cX c) _ _ (nI 5) = _
      unfold b_X5_pickerAt_7
      rw [if_pos (by decide)]
      have e1 : min 5 (S 3) = S 3 := by omega
      rw [e1]
  · rw [if_neg hd]
    have key := loopF_for (body := fun z => b_X5_pickerAt_7 M q (cX c) z.1 z.2.1 z.2.2) 0 (fun i => ((-1 : Int32), (0 : Int32), (0 : Int32))) (-1) FUEL (FUEL_lt (by omega)) (fun i hi => absurd hi (by omega)) ?_
    · rw [key]
      rfl
    · show b_X5_pickerAt_7 M q (cX c) _ _ 0 = _
      unfold b_X5_pickerAt_7
      rw [if_neg (by decide), xdry hX hV, Option.bind_some, if_neg hd, if_pos rfl]
/-! ## the reference: where they stand, the heat, laid aside -/
def Lay (M : Mem) (S : Nat → Nat) (w : Nat → Nat) (h : Nat) : Prop := M 234 21 = nI h ∧ h ≤ 20 ∧ ∀ j, j < S 3 → M 245 j = nI (w j) ∧ w j < 30
theorem ypow_tab0 : ((List.range 5).all fun k => (List.range 10).all fun s => (List.range 10).all fun d => (List.range 21).all fun h => decide ((let y4 := nI (k + 1); let y6 := nI s; let r2 := nI d; let M : Mem := fun _ _ => nI h; (if y4 = 5 then (j_X8_powerOf_95 M r2 y4 (y6 * (3 - r2))) else (if y4 = 4 then (j_X8_powerOf_95 M r2 y4 (y6 * (2 - r2))) else (if y4 = 2 then (j_X8_powerOf_95 M r2 y4 (((2 * y6) * (2 - r2)) - (M 234 21))) else (j_X8_powerOf_95 M r2 y4 ((y6 * (2 - r2)) - (M 234 21))))))) = some (nI (pw (k + 1) s d h)))) = true := by decide +kernel
theorem ypower {M : Mem} {S w : Nat → Nat} {h : Nat} (hY : Sqm (M 239) S) (hV : VS S) (hL : Lay M S w h) {j c : Nat} (hj : j < S 3) (hc : c < 30) : m_X8_powerOf M (nI j) (nI c) = some (nI (PW S w h c j)) := by
  have hn := hV.2.1
  obtain ⟨l1, l2, l3⟩ := hL
  obtain ⟨w1, w2⟩ := l3 j hj
  obtain ⟨y1, y2, y3, y4⟩ := hY.2.2.2.2.1 j hj
  obtain ⟨v1, v2, v3, v4⟩ := hV.2.2.2.2.2 j hj
  unfold m_X8_powerOf
  rw [chk_of (inB_nI (by omega) (by omega)), nI_clamp (by omega), w1, yfar M w2 hc, Option.bind_some]
  rw [show (5 : Int32) + nI j = nI (5 + j) from nI_add 5 j, show (10 : Int32) + nI j = nI (10 + j) from nI_add 10 j]
  rw [chk_of (inB_nI (by omega) (by omega)), nm_eq, chk_of (inB_nI (by omega) (by omega)), nm_eq, nI_clamp (by omega), nI_clamp (by omega), y1, y2, l1]
  have hf := farN_le w2 hc
  obtain ⟨k, hk⟩ : ∃ k', S (5 + j) = k' + 1 := ⟨S (5 + j) - 1, by omega⟩
  have h1 := of_decide_eq_true (all_r (all_r (all_r (all_r ypow_tab0 (k := k) (by omega)) (k := S (10 + j)) (by omega)) (k := farN (w j) c) (by omega)) (k := h) (by omega))
  unfold PW
  rw [hk]
  exact h1
theorem ypicker {M : Mem} {S w : Nat → Nat} {h : Nat} (hY : Sqm (M 239) S) (hV : VS S) (hL : Lay M S w h) {c : Nat} (hc : c < 30) : m_X8_pickerOf M (nI c) = some (pkY (pick S w h c)) := by
  have hn := hV.2.1
  unfold m_X8_pickerOf pick
  have i3 : (3 : Int32).toNatClampNeg = 3 := rfl
  have i4 : (4 : Int32).toNatClampNeg = 4 := rfl
  have b3 : inB 3 39 = true := by decide
  have b4 : inB 4 39 = true := by decide
  have hg : S 4 < 2 ^ 31 := by have := hV.2.2.2.2.1; omega
  by_cases hd : dry S c = true
  · rw [if_pos ⟨hc, hd⟩]
    have ht : (S 4).testBit c = false := by simpa [dry] using hd
    have hP := PW_le hV (w := w) hL.2.1 hc (fun j hj => (hL.2.2 j hj).2)
    have key := loopF_for (body := fun z => b_X8_pickerOf_8 M (nI c) z.1 z.2.1 z.2.2) (S 3) (fun i => (pkY (bst (PW S w h c) i).1, nI (bst (PW S w h c) i).2, nI i)) (pkY (bst (PW S w h c) (S 3)).1) FUEL (FUEL_lt (by omega)) ?_ ?_
    · have e0 : (((-1000000) : Int32), (0 : Int32), (0 : Int32)) = (pkY (bst (PW S w h c) 0).1, nI (bst (PW S w h c) 0).2, nI 0) := rfl
      rw [e0, key]
      rfl
    · intro i hi
      show b_X8_pickerOf_8 M (nI c) _ _ (nI i) = _
      unfold b_X8_pickerOf_8
      rw [chk_of b3, i3, hY.2.2.1, if_neg (nI_ge hi (by omega)), chk_of b4, i4, hY.2.2.2.1, if_pos ((bit_0 hg (by omega)).mpr ht), ypower hY hV hL hi hc, Option.bind_some]
      have hb := bst_le (P := PW S w h c) (n := i) (B := 100) (fun j hj' => hP j (by omega))
      have hp := hP i hi
      unfold j_X8_pickerOf_53
      conv => rhs; rw [bst]
      by_cases hc : (bst (PW S w h c) i).2 < PW S w h c i
      · rw [if_neg (nI_ge hc (by omega)), if_neg (nI_ge hc (by omega)), if_pos hc]
        simp only [nI_1]
        rfl
      · rw [if_pos (nI_le (by omega) (by omega)), if_pos (nI_le (by omega) (by omega)), if_neg hc]
        simp only [nI_1]
    · show b_X8_pickerOf_8 M (nI c) _ _ (nI (S 3)) = _
      unfold b_X8_pickerOf_8
      rw [chk_of b3, i3, hY.2.2.1, if_pos (nI_le (by omega) (by omega))]
  · rw [if_neg (fun q => hd q.2)]
    have ht : ¬ (S 4).testBit c = false := fun q => hd (by simp [dry, q])
    have key := loopF_for (body := fun z => b_X8_pickerOf_8 M (nI c) z.1 z.2.1 z.2.2) 0 (fun i => ((-1000000 : Int32), (0 : Int32), (0 : Int32))) (-1000000) FUEL (FUEL_lt (by omega)) (fun i hi => absurd hi (by omega)) ?_
    · rw [key]
      rfl
    · show b_X8_pickerOf_8 M (nI c) _ _ 0 = _
      unfold b_X8_pickerOf_8
      rw [chk_of b3, i3, hY.2.2.1]
      by_cases h0 : nI (S 3) ≤ (0 : Int32)
      · rw [if_pos h0]
      · rw [if_neg h0, chk_of b4, i4, hY.2.2.2.1, if_neg (fun q => ht ((bit_0 hg (by omega)).mp q))]
