/-! ## stood -/
theorem inv_st {M Ma Mb : Mem} (h : Inv M) (v : Int32) (e1 : EqI M Ma) (e2 : EqI (mset Ma 0 14 v) Mb) : Inv (mset Mb 234 0 v) := by
  have hR : RowsI (mset Ma 0 14 v) := RowsI.set (h.eq e1).1 _ _ (by omega)
  refine inv_R h (((e1.r).trans (eqR_set _ _ _ (by omega))).trans ((e2.r).trans (eqR_set _ _ _ (by omega)))) (RowsI.set (hR.eq (fun r hr => e2.1 _ (by unfold scr; omega)) (e2.1 _ (by unfold scr; omega)) (e2.1 _ (by unfold scr; omega)) (e2.1 _ (by unfold scr; omega))) _ _ (by omega)) ?_
  rw [mset_ne _ _ _ (by decide), e2.1 0 (by unfold scr; omega), mset_self, upd_at, if_pos rfl, mset_self, upd_at, if_pos rfl]
def itL (f : Nat → Int32) (n : Nat) : List Nat := (List.range n).map (fun k => (f k).toInt.toNat)
theorem itL_succ (f : Nat → Int32) (n : Nat) : itL f (n + 1) = itL f n ++ [(f n).toInt.toNat] := by
  unfold itL
  rw [List.range_succ, List.map_append]
  rfl
theorem itL_len (f : Nat → Int32) (n : Nat) : (itL f n).length = n := by simp [itL]
theorem itL_at {f : Nat → Int32} {n k : Nat} (hk : k < n) (hf : inN (f k) 30) : (itL f n).getD k 30 < 30 ∧ f k = nI ((itL f n).getD k 30) := by
  have e : (itL f n).getD k 30 = (f k).toInt.toNat := by
    unfold itL
    rw [List.getD_eq_getElem?_getD, List.getElem?_map, List.getElem?_range hk]
    rfl
  rw [e]
  obtain ⟨c, hc, h2⟩ := inN_nI hf
  rw [h2, nI_toInt (by omega)]
  exact ⟨hc, rfl⟩
theorem xitem {M : Mem} {r : Nat} (hr : r < 8) {k : Nat} (hk : k < 40) : m_X4_item M (204 + 2 * r) (nI k) = some (M (204 + 2 * r + 1) k) := by
  unfold m_X4_item
  rw [if_neg (nI_pos (by omega)), if_neg (by rw [show (40 : Int32) = nI 40 from rfl]; exact nI_ge hk (by omega)), chk_of (inB_nI hk (by omega)), nI_clamp (by omega)]
/-- up to k0 they are cells -/
theorem xtakeI {M : Mem} {r i n k0 : Nat} (hr : r < 8) (hi : i + n ≤ 40) (hn : n ≤ 20) (hk : k0 ≤ n) (f : Nat → Int32) (hf : ∀ k, k < n → M (204 + 2 * r + 1) (i + k) = f k) (hc : ∀ k, k < k0 → inN (f k) 30) (hs : k0 < n → ¬ inN (f k0) 30) : ∃ M', m_X3_takeItems M (204 + 2 * r) (nI i) (nI n) = some (if k0 = n then 1 else 0, M') ∧ PX M M' (itL f k0) := by
  unfold m_X3_takeItems
  rw [nm_eq]
  have key := loopF_rel (body := fun z => b_X3_takeItems_8 z.2 (204 + 2 * r) (nI i) (nI n) z.1) k0 (fun t z => z.1 = nI t ∧ PX M z.2 (itL f t)) (fun z => ∃ M', z = (if k0 = n then .inl M' else .inr (0, M')) ∧ PX M M' (itL f k0)) ?_ ?_ (fuel := FUEL) (FUEL_lt (by omega)) (s := (0, mset M 196 1 0)) ⟨rfl, PX.nil M⟩
  · obtain ⟨z, h1, M', h2, h3⟩ := key
    rw [h1, Option.bind_some, h2]
    by_cases q : k0 = n
    · rw [if_pos q, if_pos q]
      exact ⟨M', rfl, h3⟩
    · rw [if_neg q, if_neg q]
      exact ⟨M', rfl, h3⟩
  · rintro t ⟨x, M2⟩ ht ⟨rfl, h1⟩
    dsimp only at h1
    show ∃ s', b_X3_takeItems_8 M2 (204 + 2 * r) (nI i) (nI n) (nI t) = _ ∧ _
    unfold b_X3_takeItems_8
    obtain ⟨c, hc1, hc2⟩ := inN_nI (hc t ht)
    have hl := itL_len f t
    rw [if_neg (nI_ge (by omega) (by omega)), if_neg (by rw [show (20 : Int32) = nI 20 from rfl]; exact nI_ge (by omega) (by omega)), nI_add, xitem hr (by omega), Option.bind_some, h1.2.2 _ (by omega) (by omega), hf t (by omega), hc2]
    have hX : nI c = cX c := (if_pos hc1).symm
    obtain ⟨M3, g1, g2⟩ := xadd h1 (by omega) c
    rw [hX, xisCell_cX, Option.bind_some, if_pos hc1, if_neg n10, g1, Option.bind_some, nI_1]
    refine ⟨_, rfl, rfl, ?_⟩
    rw [itL_succ, hc2, nI_toInt (by omega)]
    exact g2
  · rintro ⟨x, M2⟩ ⟨rfl, h1⟩
    dsimp only at h1
    show ∃ z, b_X3_takeItems_8 M2 (204 + 2 * r) (nI i) (nI n) (nI k0) = _ ∧ _
    unfold b_X3_takeItems_8
    by_cases q : k0 = n
    · rw [if_pos (by rw [q]; exact nI_le (Nat.le_refl _) (by omega))]
      exact ⟨_, rfl, M2, by rw [if_pos q], h1⟩
    · have hb := hs (by omega)
      rw [if_neg (nI_ge (by omega) (by omega)), if_neg (by rw [show (20 : Int32) = nI 20 from rfl]; exact nI_ge (by omega) (by omega)), nI_add, xitem hr (by omega), Option.bind_some, h1.2.2 _ (by omega) (by omega), hf k0 (by omega)]
      rcases xisCell M2 (f k0) with ⟨g, -⟩ | ⟨-, g⟩
      · exact absurd g hb
      · rw [g, Option.bind_some, if_pos rfl]
        exact ⟨_, rfl, M2, by rw [if_neg q], h1⟩
theorem ytakeI {M : Mem} {r i n k0 : Nat} (x4 x5 : Int32) (hr : r < 8) (hi : i + n ≤ 40) (hk : k0 ≤ n) (f : Nat → Int32) (hf : ∀ k, k < n → M 237 (40 * r + i + k) = f k) (hc : ∀ k, k < k0 → inN (f k) 30) (hs : k0 < n → ¬ inN (f k0) 30) : loopF (fun z => b_X8_stood_101 M (nI n) x4 x5 (nI (40 * r + i)) z) FUEL 0 = some (if k0 = n then .inl () else .inr (-1000001, M)) := by
  have key := loopF_for (body := fun z => b_X8_stood_101 M (nI n) x4 x5 (nI (40 * r + i)) z) k0 (fun t => nI t) (if k0 = n then .inl () else .inr (-1000001, M)) FUEL (FUEL_lt (by omega)) ?_ ?_
  · exact key
  · intro t ht
    show b_X8_stood_101 M (nI n) x4 x5 (nI (40 * r + i)) (nI t) = _
    unfold b_X8_stood_101
    rw [if_neg (nI_ge (by omega) (by omega)), nI_add, chk_of (inB_nI (by omega) (by omega)), nI_clamp (by omega), hf t (by omega)]
    rcases yisCell M (f t) with ⟨-, g⟩ | ⟨g, -⟩
    · rw [g, Option.bind_some, if_neg n10, nI_1]
    · exact absurd (hc t ht) g
  · show b_X8_stood_101 M (nI n) x4 x5 (nI (40 * r + i)) (nI k0) = _
    unfold b_X8_stood_101
    by_cases q : k0 = n
    · rw [if_pos (by rw [q]; exact nI_le (Nat.le_refl _) (by omega)), if_pos q]
    · rw [if_neg (nI_ge (by omega) (by omega)), nI_add, chk_of (inB_nI (by omega) (by omega)), nI_clamp (by omega), hf k0 (by omega), if_neg q]
      rcases yisCell M (f k0) with ⟨g, -⟩ | ⟨-, g⟩
      · exact absurd g (hs (by omega))
      · rw [g, Option.bind_some, if_pos rfl]
theorem xcells {M : Mem} {f v : Nat → Nat} {had : Nat} (hh : had < 2 ^ 30) (hv : ∀ k, k < 30 → M 198 k = nI (v k) ∧ v k < 2 ^ 32 ∧ pc 32 (v k) = f k) : m_X7_cellsWith M (nI had) = some (nI (bs (fun k => f k == had) 30)) := by
  unfold m_X7_cellsWith
  have key := loopF_for (body := fun z => b_X7_cellsWith_4 M (nI had) z.1 z.2) 30 (fun i => (nI (bs (fun k => f k == had) i), nI i)) (nI (bs (fun k => f k == had) 30)) FUEL (FUEL_lt (by omega)) ?_ ?_
  · have e0 : ((0 : Int32), (0 : Int32)) = (nI (bs (fun k => f k == had) 0), nI 0) := rfl
    rw [e0, key]
    rfl
  · intro i hi
    show b_X7_cellsWith_4 M (nI had) _ (nI i) = _
    unfold b_X7_cellsWith_4
    obtain ⟨h1, h2, h3⟩ := hv i hi
    have hb := bs_lt (fun k => f k == had) i
    have h2i : 2 ^ i ≤ 2 ^ 29 := Nat.pow_le_pow_right (by omega) (by omega)
    have hf : f i ≤ 32 := by
      rw [← h3]
      unfold pc
      exact Nat.le_trans List.countP_le_length (by simp)
    rw [if_neg (by rw [show (30 : Int32) = nI 30 from rfl]; exact nI_ge hi (by omega)), chk_of (inB_nI hi (by omega)), nI_clamp (by omega), h1, bitCount M h2, Option.bind_some, h3, nI_1]
    conv => rhs; rw [bs]
    by_cases q : f i = had
    · rw [if_pos (by rw [q]), if_pos (by rw [beq_iff_eq]; exact q), sl_1 i (by omega), nx_or (by omega) (by omega), nm_eq]
    · rw [if_neg (by rw [nI_eq (by omega) (by omega)]; exact q), if_neg (by rw [beq_iff_eq]; exact q)]
  · show b_X7_cellsWith_4 M (nI had) _ (nI 30) = _
    unfold b_X7_cellsWith_4
    rw [if_pos (by decide)]
theorem ycells {M : Mem} {S w : Nat → Nat} {h j r i n had : Nat} (f : Nat → Int32) (hr : r < 8) (hi : i + n ≤ 40) (hn : n ≤ 20) (hh : had < 2 ^ 30) (hf : ∀ k, k < n → M 237 (40 * r + i + k) = f k) (hc : ∀ k, k < n → inN (f k) 30) (hY : Sqm (M 239) S) (hV : VS S) (hL : Lay M S w h) (hj : j < S 3) : ∃ M', loopF (fun z => b_X8_stood_142 z.2.2 (nI n) (nI j) (nI had) (nI (40 * r + i)) z.1 z.2.1) FUEL (0, 0, M) = some (nI (bs (fun k => atN S w h j (itL f n) k == had) 30), M') ∧ ∀ b, b ≠ 245 → M' b = M b := by
  have hnn := hV.2.1
  have key := loopF_rel (body := fun z => b_X8_stood_142 z.2.2 (nI n) (nI j) (nI had) (nI (40 * r + i)) z.1 z.2.1) 30 (fun t z => z.1 = nI (bs (fun k => atN S w h j (itL f n) k == had) t) ∧ z.2.1 = nI t ∧ (∀ b, b ≠ 245 → z.2.2 b = M b) ∧ ∀ k, k ≠ j → z.2.2 245 k = M 245 k) (fun z => z.1 = nI (bs (fun k => atN S w h j (itL f n) k == had) 30) ∧ ∀ b, b ≠ 245 → z.2 b = M b) ?_ ?_ (fuel := FUEL) (FUEL_lt (by omega)) (s := (0, 0, M)) ⟨rfl, rfl, fun _ _ => rfl, fun _ _ => rfl⟩
  · obtain ⟨⟨r1, r2⟩, g1, g2, g3⟩ := key
    dsimp only at g2 g3
    rw [g1, g2]
    exact ⟨r2, rfl, g3⟩
  · rintro t ⟨x1, x2, M2⟩ ht ⟨rfl, rfl, g1, g2⟩
    dsimp only at g1 g2
    show ∃ s', b_X8_stood_142 M2 (nI n) (nI j) (nI had) (nI (40 * r + i)) _ (nI t) = _ ∧ _
    unfold b_X8_stood_142
    rw [if_neg (by rw [show (30 : Int32) = nI 30 from rfl]; exact nI_ge ht (by omega)), chk_of (inB_nI (by omega) (by omega)), nm_eq, nI_clamp (by omega)]
    generalize hM3 : mset M2 245 j (nI t) = M3
    have g3 : ∀ b, b ≠ 245 → M3 b = M b := fun b hb => by rw [← hM3, mset_ne _ _ _ hb, g1 b hb]
    have g4 : ∀ k, k ≠ j → M3 245 k = M 245 k := fun k hk => by rw [← hM3, mset_self, upd_at, if_neg hk, g2 k hk]
    have g5 : M3 245 j = nI t := by rw [← hM3, mset_self, upd_at, if_pos rfl]
    have hL3 : Lay M3 S (movd w j t) h := by
      obtain ⟨l1, l2, l3⟩ := hL
      refine ⟨by rw [g3 234 (by decide)]; exact l1, l2, fun k hk => ?_⟩
      unfold movd
      by_cases e : k = j
      · rw [if_pos e, e, g5]
        exact ⟨rfl, ht⟩
      · rw [if_neg e, g4 k e]
        exact l3 k hk
    have hlen := itL_len f n
    have inner : loopF (fun z => b_X8_stood_164 M3 (nI n) (nI j) (nI had) (nI (40 * r + i)) (nI (bs (fun k => atN S w h j (itL f n) k == had) t)) (nI t) z.1 z.2) FUEL (0, 0) = some (nI (atN S w h j (itL f n) t)) := by
      have key := loopF_for (body := fun z => b_X8_stood_164 M3 (nI n) (nI j) (nI had) (nI (40 * r + i)) (nI (bs (fun k => atN S w h j (itL f n) k == had) t)) (nI t) z.1 z.2) n (fun k => (nI (cnt (fun c => pick S (movd w j t) h c == j + 1) (itL f n) k), nI k)) (nI (atN S w h j (itL f n) t)) FUEL (FUEL_lt (by omega)) ?_ ?_
      · have e0 : ((0 : Int32), (0 : Int32)) = (nI (cnt (fun c => pick S (movd w j t) h c == j + 1) (itL f n) 0), nI 0) := by simp only [cnt, List.take_zero, List.countP_nil]; rfl
        rw [e0, key]
      · intro k hk
        show b_X8_stood_164 M3 (nI n) (nI j) (nI had) (nI (40 * r + i)) _ (nI t) _ (nI k) = _
        unfold b_X8_stood_164
        obtain ⟨c1, c2⟩ := itL_at (f := f) hk (hc k hk)
        have hp := pick_le (S := S) (w := movd w j t) h ((itL f n).getD k 30)
        rw [if_neg (nI_ge hk (by omega)), nI_add, chk_of (inB_nI (by omega) (by omega)), nI_clamp (by omega), g3 237 (by decide), hf k hk, c2, ypicker (by rw [g3 239 (by decide)]; exact hY) hV hL3 c1, Option.bind_some, cnt_succ (by omega)]
        by_cases e : pick S (movd w j t) h ((itL f n).getD k 30) = j + 1
        · rw [if_pos ((pkY_eq (by omega) (by omega)).mpr e), nm_eq, nI_1, nI_1, if_pos (by simpa using e)]
        · rw [if_neg (fun z => e ((pkY_eq (by omega) (by omega)).mp z)), nm_eq, nI_1, if_neg (by simpa using e)]
          rw [Int32.add_zero]
          rfl
      · show b_X8_stood_164 M3 (nI n) (nI j) (nI had) (nI (40 * r + i)) _ (nI t) _ (nI n) = _
        unfold b_X8_stood_164
        rw [if_pos (nI_le (Nat.le_refl _) (by omega))]
        unfold atN picksN
        rw [hlen]
    rw [inner, Option.bind_some]
    have hb := bs_lt (fun k => atN S w h j (itL f n) k == had) t
    have h2i : 2 ^ t ≤ 2 ^ 29 := Nat.pow_le_pow_right (by omega) (by omega)
    have hat : atN S w h j (itL f n) t ≤ n := by
      have := picksN_le S (movd w j t) h j (itL f n)
      unfold atN
      omega
    by_cases q : atN S w h j (itL f n) t = had
    · rw [if_pos (by rw [q]), nm_eq, sl_1 t (by omega), nx_or (by omega) (by omega), nI_1]
      refine ⟨_, rfl, ?_, rfl, g3, g4⟩
      rw [bs, if_pos (by rw [beq_iff_eq]; exact q)]
    · rw [if_neg (by rw [nI_eq (by omega) (by omega)]; exact q), nm_eq, show (0 : Int32) = nI 0 from rfl, nx_or (by omega) (by omega), Nat.or_zero, nI_1]
      refine ⟨_, rfl, ?_, rfl, g3, g4⟩
      rw [bs, if_neg (by rw [beq_iff_eq]; exact q)]
  · rintro ⟨x1, x2, M2⟩ ⟨rfl, rfl, g1, g2⟩
    show ∃ z, b_X8_stood_142 M2 (nI n) (nI j) (nI had) (nI (40 * r + i)) _ (nI 30) = _ ∧ _
    unfold b_X8_stood_142
    rw [if_pos (by decide)]
    exact ⟨_, rfl, rfl, g1⟩
theorem least_bad (P : Nat → Prop) (n : Nat) : ∃ k0, k0 ≤ n ∧ (∀ k, k < k0 → P k) ∧ (k0 < n → ¬ P k0) := by
  induction n with
  | zero => exact ⟨0, Nat.le_refl _, fun k hk => absurd hk (by omega), fun h => absurd h (by omega)⟩
  | succ n ih =>
    obtain ⟨k0, h1, h2, h3⟩ := ih
    by_cases e : k0 = n
    · subst e
      by_cases q : P k0
      · refine ⟨k0 + 1, by omega, fun k hk => ?_, fun h => absurd h (by omega)⟩
        by_cases z : k = k0
        · rw [z]; exact q
        · exact h2 k (by omega)
      · exact ⟨k0, by omega, h2, fun _ => q⟩
    · exact ⟨k0, by omega, h2, fun _ => h3 (by omega)⟩
theorem ag_stood {M : Mem} (h : Inv M) (a b c d e : Int32) : AgWW (m_X7_stood M a b c d e) (fun M1 => m_X8_stood M1 a b c d e) := by
  obtain ⟨S, hS⟩ := h.2.2.1
  have hV := hS.2.2.1
  have hnn := hV.2.1
  have z0 : (0 : Int32).toInt = 0 := rfl
  have z20 : (20 : Int32).toInt = 20 := rfl
  unfold m_X7_stood m_X8_stood
  rcases grow M M a with ⟨r, hr, rfl, h1, h2⟩ | ⟨h1, h2⟩
  · rw [h1, Option.bind_some]
    have bad : ∀ M b c d e, j_X7_stood_33 M b c d e (some (204 + 2 * r)) = some (-1000001, M) := fun M b c d e => by
      unfold j_X7_stood_33 j_X7_stood_34
      show chk _ _ = _
      rw [chk_of (kd_row r hr), if_pos rfl]
    have yin : ∀ M', m_X8_in M' (nI r).toInt64 0 7 = some 1 := fun M' => by
      rcases grow M M' (nI r) with ⟨_, -, -, -, z⟩ | ⟨z, -⟩
      · exact z
      · rw [h1] at z; exact absurd z (by simp)
    rcases gin M c 0 20 0 20 rfl rfl with ⟨p1, p2, p3⟩ | ⟨p1, p3⟩
    · obtain ⟨n, hn, rfl⟩ := inN_nI (x := c) (N := 21) ⟨p1, by omega⟩
      have yin2 : ∀ M', m_X8_in M' (nI n).toInt64 0 20 = some 1 := fun M' => by
        rcases gin M' (nI n) 0 20 0 20 rfl rfl with ⟨-, -, z⟩ | ⟨z, -⟩
        · exact z
        · exact absurd ⟨p1, p2⟩ z
      rw [if_neg (nI_pos (by omega)), if_neg (by rw [show (20 : Int32) = nI 20 from rfl]; exact nI_nlt (by omega) (by omega))]
      rcases gin M e 0 20 0 20 rfl rfl with ⟨q1, q2, q3⟩ | ⟨q1, q3⟩
      · obtain ⟨had, hh, rfl⟩ := inN_nI (x := e) (N := 21) ⟨q1, by omega⟩
        have yin3 : ∀ M', m_X8_in M' (nI had).toInt64 0 20 = some 1 := fun M' => by
          rcases gin M' (nI had) 0 20 0 20 rfl rfl with ⟨-, -, z⟩ | ⟨z, -⟩
          · exact z
          · exact absurd ⟨q1, q2⟩ z
        rw [if_neg (nI_pos (by omega)), if_neg (by rw [show (20 : Int32) = nI 20 from rfl]; exact nI_nlt (by omega) (by omega))]
        unfold j_X7_stood_34
        show AgWW (chk _ _) _
        rw [chk_of (kd_row r hr), if_neg n10]
        rcases gchild hS d with ⟨j, hj, rfl, i1, i2, i3⟩ | ⟨i1, i2⟩
        · rw [i1, Option.bind_some]
          show AgWW (chk _ _) _
          rw [chk_of i2]
          have yin4 : ∀ M', EqI M M' ∨ (∃ v, M' = mset M 0 14 v) → m_X8_isChild M' (nI j) = some 1 := by
            intro M' hM
            have hS' : SqI M' S := by
              rcases hM with z | ⟨v, rfl⟩
              · exact z.sq hS
              · exact hS.eq (fun a _ _ => mset_at0 _ _ (by omega)) (mset_at0 _ _ (by decide))
            rcases gchild hS' (nI j) with ⟨j', -, -, -, -, k3⟩ | ⟨k1, -⟩
            · exact k3
            · rw [xat hS'.1 hV hj] at k1; exact absurd k1 (by simp)
          unfold m_X4_isMissing
          rcases h.1 r hr with ⟨r1, r2⟩ | ⟨m, t, k1, k2, k3, k4, k5, k6, k7⟩
          · rw [r1, if_pos rfl, Option.bind_some, if_neg n10]
            refine ag_found h 1 rfl ?_
            rw [yin, Option.bind_some, if_neg n10, yin2, Option.bind_some, if_neg n10, yin4 _ (Or.inr ⟨_, rfl⟩), Option.bind_some, if_neg n10, yin3, Option.bind_some, if_neg n10, chk_of (inB_nI hr (by omega)), nI_clamp (by omega), mset_at0 _ _ (by decide), r2, if_neg (by decide)]
          · have hne : ¬ nI m = -1 := by
              intro q
              have := congrArg Int32.toInt q
              rw [nI_toInt (by omega), show (-1 : Int32).toInt = -1 from rfl] at this
              omega
            rw [k3, if_neg hne, Option.bind_some, if_pos rfl, xholds k3 k1, Option.bind_some]
            have ytop : ∀ M', (EqI M M' ∨ (∃ v, M' = mset M 0 14 v)) → m_X8_stood M' (nI r) b (nI n) (nI j) (nI had) = (if b < 0 then ((m_X8_finds M' 2).bind fun r6 => some ((r6.1, r6.2))) else (if (lg_cmp (b.toInt64 + (nI n).toInt64) ((nI m).toInt64)) ≤ 0 then (nm ((40 * nI r) + b) fun y8 => (loopF (fun z => b_X8_stood_101 M' (nI n) (nI j) (nI had) y8 z) FUEL 0).bind fun z11 => sumC z11 (fun z12 => (m_X8_lays M').bind fun r13 => (loopF (fun z => b_X8_stood_142 z.2.2 (nI n) (nI j) (nI had) y8 z.1 z.2.1) FUEL (0, 0, r13)).bind fun z23 => (m_X8_well z23.2 z23.1).bind fun r24 => some ((r24.1, r24.2))) (fun z => some z)) else ((m_X8_finds M' 2).bind fun r25 => some ((r25.1, r25.2))))) := by
              intro M' hM
              have e235 : M' 235 = M 235 := by
                rcases hM with z | ⟨v, rfl⟩
                · exact z.1 235 (by unfold scr; omega)
                · exact mset_at0 _ _ (by decide)
              have e236 : M' 236 = M 236 := by
                rcases hM with z | ⟨v, rfl⟩
                · exact z.1 236 (by unfold scr; omega)
                · exact mset_at0 _ _ (by decide)
              unfold m_X8_stood
              rw [yin, Option.bind_some, if_neg n10, yin2, Option.bind_some, if_neg n10, yin4 _ hM, Option.bind_some, if_neg n10, yin3, Option.bind_some, if_neg n10, chk_of (inB_nI hr (by omega)), nI_clamp (by omega), e235, e236, k6, k4, if_pos (nI_pos' (by omega)), chk_of (inB_nI hr (by omega))]
            by_cases hb : 0 ≤ b.toInt ∧ 0 ≤ (nI n).toInt ∧ b.toInt + (nI n).toInt ≤ m
            · rw [if_pos hb, if_neg n10]
              obtain ⟨i, hi, rfl⟩ := inN_nI (x := b) (N := 41) ⟨hb.1, by omega⟩
              rw [nI_toInt (by omega), nI_toInt (by omega)] at hb
              have ytop' : ∀ M', (EqI M M' ∨ (∃ v, M' = mset M 0 14 v)) → m_X8_stood M' (nI r) (nI i) (nI n) (nI j) (nI had) = ((loopF (fun z => b_X8_stood_101 M' (nI n) (nI j) (nI had) (nI (40 * r + i)) z) FUEL 0).bind fun z11 => sumC z11 (fun z12 => (m_X8_lays M').bind fun r13 => (loopF (fun z => b_X8_stood_142 z.2.2 (nI n) (nI j) (nI had) (nI (40 * r + i)) z.1 z.2.1) FUEL (0, 0, r13)).bind fun z23 => (m_X8_well z23.2 z23.1).bind fun r24 => some ((r24.1, r24.2))) (fun z => some z)) := by
                intro M' hM
                rw [ytop M' hM, if_neg (nI_pos (by omega)), if_pos ((sum_le _ _ (by omega)).mpr (by rw [nI_toInt (by omega), nI_toInt (by omega)]; omega)), show (40 : Int32) = nI 40 from rfl, pk_mul, nI_add, nm_eq]
              have hf : ∀ k, k < n → M (204 + 2 * r + 1) (i + k) = M 237 (40 * r + i + k) := fun k hk => by rw [k7 _ (by omega), show 40 * r + (i + k) = 40 * r + i + k by omega]
              obtain ⟨k0, c1, c2, c3⟩ := least_bad (fun k => inN (M 237 (40 * r + i + k)) 30) n
              obtain ⟨M1, x1, x2⟩ := xtakeI hr (by omega) (by omega) c1 (fun k => M 237 (40 * r + i + k)) hf c2 c3
              have e1 := x2.eqI
              rw [x1, Option.bind_some]
              by_cases q : k0 = n
              · subst q
                rw [if_pos rfl, if_neg n10]
                have hS1 := e1.sq hS
                have hlen := itL_len (fun k => M 237 (40 * r + i + k)) k0
                obtain ⟨M2, w1, w2, w3⟩ := xweigh (M := M1) (a := 5) (Or.inl rfl) (q := 4) (by decide) hS1.1 hV x2 (by omega) (by omega) hj
                have w1' : m_X3_weigh M1 4 (nI j) (-1) 198 = some M2 := w1
                have e2 := eqI_pk (Or.inl rfl) w2
                have xc := xcells (M := M2) (f := atN S (wh S) (S 1) j (itL (fun k => M 237 (40 * r + i + k)) k0)) (v := fun k => told S j 5 (itL (fun k => M 237 (40 * r + i + k)) k0) k (itL (fun k => M 237 (40 * r + i + k)) k0).length) (had := had) (by omega) (fun k hk => ⟨w3 k hk, Nat.lt_of_lt_of_le (bs_lt _ _) (Nat.pow_le_pow_right (by omega) (by omega)), pc_told hj hV.2.1 (by omega)⟩)
                dsimp only
                rw [w1', Option.bind_some, xc, Option.bind_some]
                have e12 := e1.trans e2
                -- the reference
                have hS3 : SqI (mset M2 0 14 0) S := (e12.sq hS).eq (fun a _ _ => mset_at0 _ _ (by omega)) (mset_at0 _ _ (by decide))
                obtain ⟨M4, l1, l2, l3, l4⟩ := ylays hS3.2.1 hV
                have hS4 := l2.sq hS3
                have e237 : (mset M2 0 14 0) 237 = M 237 := by rw [mset_at0 _ _ (by decide)]; exact e12.1 237 (by unfold scr; omega)
                have e237' : M4 237 = M 237 := by rw [l3 237 (by decide) (by decide)]; exact e237
                obtain ⟨M5, y1, y2⟩ := ycells (M := M4) (i := i) (fun k => M 237 (40 * r + i + k)) hr (by omega) (by omega) (had := had) (by omega) (fun k _ => by rw [e237']) c2 hS4.2.1 hV l4 hj
                refine ⟨_, mset M2 0 14 0, mset M5 234 0 0, rfl, ?_, inv_st h 0 e12 (l2.trans (eqI_loc y2))⟩
                have yt := ytakeI (M := mset M2 0 14 0) (nI j) (nI had) hr (i := i) (n := k0) (k0 := k0) (by omega) (Nat.le_refl _) (fun k => M 237 (40 * r + i + k)) (fun k _ => by rw [e237]) c2 c3
                rw [if_pos rfl] at yt
                have yfin : m_X8_stood (mset M2 0 14 0) (nI r) (nI i) (nI k0) (nI j) (nI had) = some (nI (bs (fun k => atN S (wh S) (S 1) j (itL (fun k => M 237 (40 * r + i + k)) k0) k == had) 30), mset M5 234 0 0) := by
                  have hh14 : m_X8_isChild (mset M2 0 14 0) (nI j) = some 1 := by
                    rcases gchild hS3 (nI j) with ⟨j', -, -, -, -, k3⟩ | ⟨k1, -⟩
                    · exact k3
                    · rw [xat hS3.1 hV hj] at k1; exact absurd k1 (by simp)
                  unfold m_X8_stood
                  rw [yin, Option.bind_some, if_neg n10, yin2, Option.bind_some, if_neg n10, hh14, Option.bind_some, if_neg n10, yin3, Option.bind_some, if_neg n10, chk_of (inB_nI hr (by omega)), nI_clamp (by omega), mset_at0 _ _ (by decide), mset_at0 _ _ (by decide), e12.1 235 (by unfold scr; omega), e12.1 236 (by unfold scr; omega), k6, k4, if_pos (nI_pos' (by omega)), chk_of (inB_nI hr (by omega)), if_neg (nI_pos (by omega)), if_pos ((sum_le _ _ (by omega)).mpr (by rw [nI_toInt (by omega), nI_toInt (by omega)]; omega)), show (40 : Int32) = nI 40 from rfl, pk_mul, nI_add, nm_eq, yt, Option.bind_some]
                  dsimp only [sumC]
                  rw [l1, Option.bind_some, y1]
                  rfl
                exact yfin
              · rw [if_neg q, if_pos rfl]
                have e237 : M1 237 = M 237 := e1.1 237 (by unfold scr; omega)
                have yt := ytakeI (M := M1) (nI j) (nI had) hr (i := i) (n := n) (k0 := k0) (by omega) c1 (fun k => M 237 (40 * r + i + k)) (fun k _ => by rw [e237]) c2 c3
                rw [if_neg q] at yt
                refine ww_q h (r := -1000001) (M1 := M1) (M2 := M1) rfl e1 ?_ (EqI.refl _)
                show m_X8_stood M1 (nI r) (nI i) (nI n) (nI j) (nI had) = _
                rw [ytop' M1 (Or.inl e1), yt]
                rfl
            · rw [if_neg hb, if_pos rfl]
              refine ag_found h 2 rfl ?_
              show m_X8_stood (mset M 0 14 2) (nI r) b (nI n) (nI j) (nI had) = _
              rw [ytop _ (Or.inr ⟨_, rfl⟩)]
              by_cases q1 : b < 0
              · rw [if_pos q1]
              · rw [if_neg q1, if_neg]
                rw [sum_le _ _ (by omega)]
                rw [i32_lt, z0] at q1
                omega
        · rw [i1]
          refine ww_same h (r := -1000001) rfl ?_
          rw [yin, Option.bind_some, if_neg n10, yin2, Option.bind_some, if_neg n10, i2]
          rfl
      · have hbx : ∀ R : Option (Int32 × Mem), (if e < 0 then j_X7_stood_33 M b (nI n) d e (some (204 + 2 * r)) else if 20 < e then j_X7_stood_33 M b (nI n) d e (some (204 + 2 * r)) else R) = some (-1000001, M) := by
          intro R
          by_cases u1 : e < 0
          · rw [if_pos u1, bad]
          · rw [if_neg u1]
            by_cases u2 : 20 < e
            · rw [if_pos u2, bad]
            · exfalso
              apply q1
              have u : ¬ e.toInt < (0 : Int32).toInt := fun q => u1 (i32_lt.mpr q)
              have v : ¬ (20 : Int32).toInt < e.toInt := fun q => u2 (i32_lt.mpr q)
              omega
        rw [hbx]
        refine ww_same h (r := -1000001) rfl ?_
        rw [yin, Option.bind_some, if_neg n10, yin2, Option.bind_some, if_neg n10]
        rcases gchild hS d with ⟨j, hj, rfl, i1, i2, i3⟩ | ⟨i1, i2⟩
        · rw [i3, Option.bind_some, if_neg n10, q3]; rfl
        · rw [i2]; rfl
    · have hbx : ∀ R : Option (Int32 × Mem), (if c < 0 then j_X7_stood_33 M b c d e (some (204 + 2 * r)) else if 20 < c then j_X7_stood_33 M b c d e (some (204 + 2 * r)) else R) = some (-1000001, M) := by
        intro R
        by_cases u1 : c < 0
        · rw [if_pos u1, bad]
        · rw [if_neg u1]
          by_cases u2 : 20 < c
          · rw [if_pos u2, bad]
          · exfalso
            apply p1
            have u : ¬ c.toInt < (0 : Int32).toInt := fun q => u1 (i32_lt.mpr q)
            have v : ¬ (20 : Int32).toInt < c.toInt := fun q => u2 (i32_lt.mpr q)
            omega
      rw [hbx]
      refine ww_same h (r := -1000001) rfl ?_
      rw [yin, Option.bind_some, if_neg n10, p3]
      rfl
  · rw [h1, Option.bind_some]
    have bad : ∀ s0, j_X7_stood_34 M b c d e none s0 = some (-1000001, M) := fun s0 => rfl
    have bad2 : j_X7_stood_33 M b c d e none = some (-1000001, M) := rfl
    rw [bad, bad2]
    refine ww_same h (r := -1000001) ?_ (by rw [h2]; rfl)
    by_cases u1 : c < 0
    · rw [if_pos u1]
    · rw [if_neg u1]
      by_cases u2 : 20 < c
      · rw [if_pos u2]
      · rw [if_neg u2]
        by_cases u3 : e < 0
        · rw [if_pos u3]
        · rw [if_neg u3]
          by_cases u4 : 20 < e
          · rw [if_pos u4]
          · rw [if_neg u4]
