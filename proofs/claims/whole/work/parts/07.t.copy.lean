/-! copy -/
theorem lgc_le {x y : Int64} : lg_cmp x y ≤ 0 ↔ x.toInt ≤ y.toInt := by
  constructor
  · intro h
    by_cases q : y.toInt < x.toInt
    · have h1 := lgc_gt.mpr q
      have a := i32_le.mp h
      have b := i32_lt.mp h1
      omega
    · omega
  · intro h
    rw [i32_le]
    by_cases q : (0 : Int32) < lg_cmp x y
    · have := lgc_gt.mp q
      omega
    · have b : ¬ (0 : Int32).toInt < (lg_cmp x y).toInt := fun z => q (i32_lt.mpr z)
      omega
theorem l_add (x y : Int32) : (x.toInt64 + y.toInt64).toInt = x.toInt + y.toInt := by
  have a := Int32.le_toInt x
  have b := Int32.toInt_lt x
  have c := Int32.le_toInt y
  have d := Int32.toInt_lt y
  rw [Int64.toInt_add, Int32.toInt_toInt64, Int32.toInt_toInt64]
  exact Int.bmod_eq_of_le (by omega) (by omega)
theorem sum_le (x y : Int32) {n : Nat} (hn : n < 2 ^ 31) : lg_cmp (x.toInt64 + y.toInt64) ((nI n).toInt64) ≤ 0 ↔ x.toInt + y.toInt ≤ n := by
  rw [lgc_le, l_add, Int32.toInt_toInt64, nI_toInt hn]
theorem sum_gt (x y : Int32) {n : Nat} (hn : n < 2 ^ 31) : 0 < lg_cmp (x.toInt64 + y.toInt64) ((nI n).toInt64) ↔ (n : Int) < x.toInt + y.toInt := by
  rw [lgc_gt, l_add, Int32.toInt_toInt64, nI_toInt hn]
/-- which of n are come, t steps on -/
def cpd (i j n t k : Nat) : Prop := k < n ∧ (if j ≤ i then k < t else n - t ≤ k)
theorem ycopy {M : Mem} {a b i j n : Nat} (ha : a < 8) (hb : b < 8) (hi : i + n ≤ 40) (hj : j + n ≤ 40) : ∃ M', loopF (fun z => b_X8_copy_130 z.2 (nI a) (nI i) (nI b) (nI j) (nI n) z.1) FUEL (0, M) = some M' ∧ (∀ q, q ≠ 237 → M' q = M q) ∧ (∀ k, k < n → M' 237 (40 * b + j + k) = M 237 (40 * a + i + k)) ∧ ∀ e, (e < 40 * b + j ∨ 40 * b + j + n ≤ e) → M' 237 e = M 237 e := by
  have key := loopF_rel (body := fun z => b_X8_copy_130 z.2 (nI a) (nI i) (nI b) (nI j) (nI n) z.1) n (fun t z => z.1 = nI t ∧ (∀ q, q ≠ 237 → z.2 q = M q) ∧ (∀ k, cpd i j n t k → z.2 237 (40 * b + j + k) = M 237 (40 * a + i + k)) ∧ (∀ e, (e < 40 * b + j ∨ 40 * b + j + n ≤ e) → z.2 237 e = M 237 e) ∧ ∀ k, k < n → ¬ cpd i j n t k → z.2 237 (40 * b + j + k) = M 237 (40 * b + j + k)) (fun M' => (∀ q, q ≠ 237 → M' q = M q) ∧ (∀ k, k < n → M' 237 (40 * b + j + k) = M 237 (40 * a + i + k)) ∧ ∀ e, (e < 40 * b + j ∨ 40 * b + j + n ≤ e) → M' 237 e = M 237 e) ?_ ?_ (fuel := FUEL) (FUEL_lt (by omega)) (s := (0, M)) ⟨rfl, fun _ _ => rfl, fun k hk => absurd hk (by unfold cpd; by_cases q : j ≤ i <;> simp [q] <;> omega), fun _ _ => rfl, fun _ _ _ => rfl⟩
  · exact key
  · rintro t ⟨x, M2⟩ ht ⟨rfl, h1, h2, h3, h4⟩
    dsimp only at h1 h2 h3 h4
    show ∃ s', b_X8_copy_130 M2 (nI a) (nI i) (nI b) (nI j) (nI n) (nI t) = _ ∧ _
    unfold b_X8_copy_130
    rw [if_neg (nI_ge ht (by omega))]
    have main : ∀ s, s < n → (∀ k, cpd i j n (t + 1) k ↔ (cpd i j n t k ∨ k = s)) → ¬ cpd i j n t s → (∀ k, cpd i j n t k → 40 * a + i + s ≠ 40 * b + j + k) → ∃ s', j_X8_copy_155 M2 (nI a) (nI i) (nI b) (nI j) (nI n) (nI t) (nI s) = some (.inl s') ∧ s'.1 = nI (t + 1) ∧ (∀ q, q ≠ 237 → s'.2 q = M q) ∧ (∀ k, cpd i j n (t + 1) k → s'.2 237 (40 * b + j + k) = M 237 (40 * a + i + k)) ∧ (∀ e, (e < 40 * b + j ∨ 40 * b + j + n ≤ e) → s'.2 237 e = M 237 e) ∧ ∀ k, k < n → ¬ cpd i j n (t + 1) k → s'.2 237 (40 * b + j + k) = M 237 (40 * b + j + k) := by
      intro s hs hc hns hsrc
      unfold j_X8_copy_155
      rw [show (40 : Int32) = nI 40 from rfl, pk_mul, nI_add, nI_add, pk_mul, nI_add, nI_add, chk_of (inB_nI (by omega) (by omega)), chk_of (inB_nI (by omega) (by omega)), nm_eq, nI_clamp (by omega), nI_clamp (by omega), nI_1]
      have hv : M2 237 (40 * a + i + s) = M 237 (40 * a + i + s) := by
        by_cases q : 40 * b + j ≤ 40 * a + i + s ∧ 40 * a + i + s < 40 * b + j + n
        · have := h4 (40 * a + i + s - (40 * b + j)) (by omega) (fun z => hsrc _ z (by omega))
          rw [show 40 * b + j + (40 * a + i + s - (40 * b + j)) = 40 * a + i + s by omega] at this
          exact this
        · exact h3 _ (by omega)
      refine ⟨_, rfl, rfl, fun q hq => ?_, fun k hk => ?_, fun e he => ?_, fun k hk hk2 => ?_⟩
      · dsimp only
        rw [mset_ne _ _ _ hq, h1 q hq]
      · dsimp only
        rw [mset_self, upd_at]
        by_cases e : k = s
        · rw [if_pos (by omega), e, hv]
        · rw [if_neg (by omega)]
          rcases (hc k).mp hk with z | z
          · exact h2 k z
          · exact absurd z e
      · dsimp only
        rw [mset_self, upd_at, if_neg (by omega), h3 e he]
      · dsimp only
        have e : k ≠ s := fun z => hk2 ((hc k).mpr (Or.inr z))
        rw [mset_self, upd_at, if_neg (by omega)]
        exact h4 k hk (fun z => hk2 ((hc k).mpr (Or.inl z)))
    by_cases q : j ≤ i
    · rw [if_pos (nI_le q (by omega))]
      have hc : ∀ t k, cpd i j n t k ↔ k < n ∧ k < t := fun t k => by unfold cpd; rw [if_pos q]
      exact main t ht (fun k => by rw [hc, hc]; omega) (by rw [hc]; omega) (fun k hk => by rw [hc] at hk; omega)
    · rw [if_neg (nI_ge (by omega) (by omega))]
      have hc : ∀ t k, cpd i j n t k ↔ k < n ∧ n - t ≤ k := fun t k => by unfold cpd; rw [if_neg q]
      have e1 : nI n - 1 - nI t = nI (n - 1 - t) := by
        rw [show (1 : Int32) = nI 1 from rfl, pk_sub (by omega), pk_sub (by omega)]
      rw [e1]
      exact main (n - 1 - t) (by omega) (fun k => by rw [hc, hc]; omega) (by rw [hc]; omega) (fun k hk => by rw [hc] at hk; omega)
  · rintro ⟨x, M2⟩ ⟨rfl, h1, h2, h3, h4⟩
    dsimp only at h1 h2 h3 h4
    show ∃ r, b_X8_copy_130 M2 (nI a) (nI i) (nI b) (nI j) (nI n) (nI n) = _ ∧ _
    unfold b_X8_copy_130
    rw [if_pos (nI_le (Nat.le_refl _) (by omega))]
    refine ⟨M2, rfl, h1, fun k hk => h2 k ?_, h3⟩
    unfold cpd
    by_cases q : j ≤ i
    · rw [if_pos q]; omega
    · rw [if_neg q]; omega
theorem ag_copy {M : Mem} (h : Inv M) (a b c d e : Int32) : AgWW (m_X7_copy M a b c d e) (fun M1 => m_X8_copy M1 a b c d e) := by
  unfold m_X7_copy m_X8_copy
  have z0 : (0 : Int32).toInt = 0 := rfl
  have lt0 : ∀ x : Int32, x < 0 ↔ x.toInt < 0 := fun x => by rw [i32_lt, z0]
  rcases grow M M a with ⟨r, hr, rfl, h1, h2⟩ | ⟨h1, h2⟩
  · rcases grow M M c with ⟨s, hs, rfl, i1, i2⟩ | ⟨i1, i2⟩
    · rw [h1, i1, Option.bind_some, Option.bind_some]
      show AgWW (chk _ (chk _ _)) _
      have yin : ∀ M', m_X8_in M' (nI r).toInt64 0 7 = some 1 := fun M' => by
        rcases grow M M' (nI r) with ⟨_, -, -, -, z⟩ | ⟨z, -⟩
        · exact z
        · rw [h1] at z; exact absurd z (by simp)
      have yin2 : ∀ M', m_X8_in M' (nI s).toInt64 0 7 = some 1 := fun M' => by
        rcases grow M M' (nI s) with ⟨_, -, -, -, z⟩ | ⟨z, -⟩
        · exact z
        · rw [i1] at z; exact absurd z (by simp)
      rw [chk_of (kd_row r hr), chk_of (kd_row s hs)]
      unfold m_X4_isMissing
      have hne : ∀ n, n ≤ 40 → ¬ nI n = -1 := by
        intro n hn q
        have := congrArg Int32.toInt q
        rw [nI_toInt (by omega), show (-1 : Int32).toInt = -1 from rfl] at this
        omega
      rcases h.1 r hr with ⟨r1, r2⟩ | ⟨n, t, k1, k2, k3, k4, k5, k6, k7⟩
      · rw [r1, if_pos rfl, Option.bind_some, if_neg n10]
        refine ag_found h 1 rfl ?_
        rw [yin, Option.bind_some, if_neg n10, yin2, Option.bind_some, if_neg n10, chk_of (inB_nI hr (by omega)), nI_clamp (by omega), mset_at0 _ _ (by decide), r2, if_pos (by decide)]
      · rw [k3, if_neg (hne n k1), Option.bind_some, if_pos rfl]
        have yr : ∀ {α : Type} (x y : α), (if nI t < 0 then x else y) = y := fun x y => if_neg (nI_pos (by omega))
        rcases h.1 s hs with ⟨s1, s2⟩ | ⟨m, u, l1, l2, l3, l4, l5, l6, l7⟩
        · rw [s1, if_pos rfl, Option.bind_some, if_neg n10]
          refine ag_found h 1 rfl ?_
          rw [yin, Option.bind_some, if_neg n10, yin2, Option.bind_some, if_neg n10, chk_of (inB_nI hr (by omega)), chk_of (inB_nI hs (by omega)), nI_clamp (by omega), nI_clamp (by omega), mset_at0 _ _ (by decide), k6, s2, yr, if_neg (by decide)]
        · rw [l3, if_neg (hne m l1), Option.bind_some, if_pos rfl, k5, l5]
          by_cases tu : nI t = nI u
          · rw [if_pos tu, xholds k3 k1, Option.bind_some]
            have tail : ∀ M1 : Mem, M1 235 r = nI t → M1 235 s = nI u → M1 236 r = nI n → M1 236 s = nI m → m_X8_copy M1 (nI r) b (nI s) d e = (if b < 0 then ((m_X8_finds M1 2).bind fun r8 => some ((r8.1, r8.2))) else (if d < 0 then ((m_X8_finds M1 2).bind fun r9 => some ((r9.1, r9.2))) else (if e < 0 then ((m_X8_finds M1 2).bind fun r10 => some ((r10.1, r10.2))) else (if 0 < (lg_cmp (b.toInt64 + e.toInt64) ((nI n).toInt64)) then ((m_X8_finds M1 2).bind fun r12 => some ((r12.1, r12.2))) else (if (lg_cmp (d.toInt64 + e.toInt64) ((nI m).toInt64)) ≤ 0 then ((loopF (fun z => b_X8_copy_130 z.2 (nI r) b (nI s) d e z.1) FUEL (0, M1)).bind fun z17 => (m_X8_well z17 e).bind fun r18 => some ((r18.1, r18.2))) else ((m_X8_finds M1 2).bind fun r19 => some ((r19.1, r19.2)))))))) := by
              intro M1 g1 g2 g3 g4
              unfold m_X8_copy
              rw [yin, Option.bind_some, if_neg n10, yin2, Option.bind_some, if_neg n10, chk_of (inB_nI hr (by omega)), chk_of (inB_nI hs (by omega)), nI_clamp (by omega), nI_clamp (by omega), g1, g2, yr, if_pos (nI_pos' (by omega)), chk_of (inB_nI hr (by omega)), chk_of (inB_nI hs (by omega)), if_pos tu, g3, g4, chk_of (inB_nI hr (by omega)), chk_of (inB_nI hs (by omega))]
            by_cases hb : 0 ≤ b.toInt ∧ 0 ≤ e.toInt ∧ b.toInt + e.toInt ≤ n
            · rw [if_pos hb, if_neg n10, xholds l3 l1, Option.bind_some]
              by_cases hd : 0 ≤ d.toInt ∧ 0 ≤ e.toInt ∧ d.toInt + e.toInt ≤ m
              · rw [if_pos hd, if_neg n10]
                obtain ⟨i, hi, rfl⟩ := inN_nI (x := b) (N := 41) ⟨hb.1, by omega⟩
                obtain ⟨j, hj, rfl⟩ := inN_nI (x := d) (N := 41) ⟨hd.1, by omega⟩
                obtain ⟨k, hk, rfl⟩ := inN_nI (x := e) (N := 41) ⟨hb.2.1, by omega⟩
                rw [nI_toInt (by omega), nI_toInt (by omega)] at hb hd
                have hcp : cpB (nI i) (nI j) (nI k) 40 40 = true := by
                  unfold cpB
                  rw [nI_toInt (by omega), nI_toInt (by omega), nI_toInt (by omega)]
                  exact decide_eq_true (by omega)
                rw [chk_of hcp, nm_eq, nI_clamp (by omega), nI_clamp (by omega), nI_clamp (by omega)]
                generalize hM1 : mset (mrow M (204 + 2 * s + 1) (va_cpy (M (204 + 2 * r + 1)) (M (204 + 2 * s + 1)) i j k)) 0 14 0 = M1
                have g : ∀ q, q ≠ 0 → q ≠ 204 + 2 * s + 1 → M1 q = M q := fun q h1 h2 => by rw [← hM1, mset_ne _ _ _ h1, mrow_ne _ _ h2]
                obtain ⟨M2, y1, y2, y3, y4⟩ := ycopy (M := M1) hr hs (i := i) (j := j) (n := k) (by omega) (by omega)
                refine ⟨nI k, M1, mset M2 234 0 0, by rw [← hM1]; rfl, ?_, ?_⟩
                · show m_X8_copy M1 (nI r) (nI i) (nI s) (nI j) (nI k) = _
                  rw [tail M1 (by rw [g 235 (by decide) (by omega)]; exact k6) (by rw [g 235 (by decide) (by omega)]; exact l6) (by rw [g 236 (by decide) (by omega)]; exact k4) (by rw [g 236 (by decide) (by omega)]; exact l4)]
                  rw [if_neg (nI_pos (by omega)), if_neg (nI_pos (by omega)), if_neg (nI_pos (by omega)), if_neg (fun z => by have := (sum_gt _ _ (by omega)).mp z; rw [nI_toInt (by omega), nI_toInt (by omega)] at this; omega), if_pos ((sum_le _ _ (by omega)).mpr (by rw [nI_toInt (by omega), nI_toInt (by omega)]; omega)), y1]
                  rfl
                · have e1 : EqR M M1 := by
                    rw [← hM1]
                    refine EqR.trans ?_ (eqR_set _ _ _ (by omega))
                    have f := fun q (hq : q ≠ 204 + 2 * s + 1) => mrow_ne M (va_cpy (M (204 + 2 * r + 1)) (M (204 + 2 * s + 1)) i j k) hq
                    exact ⟨fun a g1 g2 g3 g4 => f a (by omega), congrFun (f 2 (by omega)) _, congrFun (f 0 (by omega)) _, congrFun (f 234 (by omega)) _, congrFun (f 234 (by omega)) _, congrFun (f 234 (by omega)) _, congrFun (f 234 (by omega)) _⟩
                  have e3 : EqR M1 M2 := ⟨fun a g1 g2 g3 g4 => y2 a (by omega), congrFun (y2 2 (by omega)) _, congrFun (y2 0 (by omega)) _, congrFun (y2 234 (by omega)) _, congrFun (y2 234 (by omega)) _, congrFun (y2 234 (by omega)) _, congrFun (y2 234 (by omega)) _⟩
                  refine inv_R h ((e1.trans e3).trans (eqR_set _ _ _ (by omega))) (RowsI.set ?_ _ _ (by omega)) ?_
                  · intro r' hr'
                    rw [y2 (204 + 2 * r') (by omega), g (204 + 2 * r') (by omega) (by omega), y2 235 (by omega), g 235 (by omega) (by omega), y2 236 (by omega), g 236 (by omega) (by omega), y2 (204 + 2 * r' + 1) (by omega)]
                    rcases h.1 r' hr' with o | ⟨n', t', o1, o2, o3, o4, o5, o6, o7⟩
                    · exact Or.inl o
                    · right
                      refine ⟨n', t', o1, o2, o3, o4, o5, o6, fun p hp => ?_⟩
                      by_cases ers : r' = s
                      · subst ers
                        have ex : M1 (204 + 2 * r' + 1) = va_cpy (M (204 + 2 * r + 1)) (M (204 + 2 * r' + 1)) i j k := by
                          rw [← hM1, mset_ne _ _ _ (by omega), mrow_self]
                        rw [ex]
                        by_cases hin : j ≤ p ∧ p < j + k
                        · rw [pk_cpy_in hin.1 hin.2]
                          have := y3 (p - j) (by omega)
                          rw [show 40 * r' + j + (p - j) = 40 * r' + p by omega] at this
                          rw [this, g 237 (by decide) (by omega), show 40 * r + i + (p - j) = 40 * r + (i + (p - j)) by omega]
                          exact k7 _ (by omega)
                        · rw [pk_cpy_out (by omega), y4 _ (by omega), g 237 (by decide) (by omega)]
                          exact o7 p hp
                      · rw [g _ (by omega) (by omega), y4 _ (by omega), g 237 (by decide) (by omega)]
                        exact o7 p hp
                  · rw [mset_ne _ _ _ (by decide), y2 0 (by decide), ← hM1, mset_self, upd_at, if_pos rfl, mset_self, upd_at, if_pos rfl]
              · rw [if_neg hd, if_pos rfl]
                refine ag_found h 2 rfl ?_
                show m_X8_copy (mset M 0 14 2) (nI r) b (nI s) d e = _
                rw [tail _ (by rw [mset_at0 _ _ (by decide)]; exact k6) (by rw [mset_at0 _ _ (by decide)]; exact l6) (by rw [mset_at0 _ _ (by decide)]; exact k4) (by rw [mset_at0 _ _ (by decide)]; exact l4)]
                rw [if_neg (by rw [lt0]; omega)]
                by_cases q1 : d < 0
                · rw [if_pos q1]
                · rw [if_neg q1, if_neg (by rw [lt0]; omega), if_neg (by rw [sum_gt _ _ (by omega)]; omega), if_neg (by rw [sum_le _ _ (by omega)]; rw [lt0] at q1; omega)]
            · rw [if_neg hb, if_pos rfl]
              refine ag_found h 2 rfl ?_
              show m_X8_copy (mset M 0 14 2) (nI r) b (nI s) d e = _
              rw [tail _ (by rw [mset_at0 _ _ (by decide)]; exact k6) (by rw [mset_at0 _ _ (by decide)]; exact l6) (by rw [mset_at0 _ _ (by decide)]; exact k4) (by rw [mset_at0 _ _ (by decide)]; exact l4)]
              by_cases q1 : b < 0
              · rw [if_pos q1]
              · rw [if_neg q1]
                by_cases q2 : d < 0
                · rw [if_pos q2]
                · rw [if_neg q2]
                  by_cases q3 : e < 0
                  · rw [if_pos q3]
                  · rw [if_neg q3, if_pos]
                    rw [sum_gt _ _ (by omega)]
                    rw [lt0] at q1 q3
                    omega
          · rw [if_neg tu]
            refine ag_found h 5 rfl ?_
            rw [yin, Option.bind_some, if_neg n10, yin2, Option.bind_some, if_neg n10, chk_of (inB_nI hr (by omega)), chk_of (inB_nI hs (by omega)), nI_clamp (by omega), nI_clamp (by omega), mset_at0 _ _ (by decide), k6, l6, yr, if_pos (nI_pos' (by omega)), chk_of (inB_nI hr (by omega)), chk_of (inB_nI hs (by omega)), if_neg tu]
    · rw [h1, i1, Option.bind_some, Option.bind_some]
      show AgWW (chk _ _) _
      rw [chk_of (kd_row r hr)]
      refine ww_same h (r := -1000001) rfl ?_
      rw [h2, Option.bind_some, if_neg n10, i2]
      rfl
  · rcases grow M M c with ⟨s, hs, rfl, i1, i2⟩ | ⟨i1, i2⟩
    · refine ww_same h (r := -1000001) (by rw [h1, i1]; rfl) (by rw [h2]; rfl)
    · refine ww_same h (r := -1000001) (by rw [h1, i1]; rfl) (by rw [h2]; rfl)
