/-! ## agreement of the calls -/
def AgWW (x : Option (Int32 × Mem)) (y : Mem → Option (Int32 × Mem)) : Prop := ∃ r M1 M2, x = some (r, M1) ∧ y M1 = some (r, M2) ∧ Inv M2
def AgNW (x : Option Int32) (y : Option (Int32 × Mem)) : Prop := ∃ r M2, x = some r ∧ y = some (r, M2) ∧ Inv M2
def AgNN (x : Option Int32) (y : Option Int32) : Prop := ∃ r, x = some r ∧ y = some r
theorem n10 : ¬ (1 : Int32) = 0 := by decide
theorem loopF_step {σ ρ : Type} {body : σ → Option (σ ⊕ ρ)} {f : Nat} {s s' : σ} (h : body s = some (.inl s')) : loopF body (f + 1) s = loopF body f s' := by rw [loopF, h]; rfl
theorem loopF_out {σ ρ : Type} {body : σ → Option (σ ⊕ ρ)} {f : Nat} {s : σ} {r : ρ} (h : body s = some (.inr r)) : loopF body (f + 1) s = some r := by rw [loopF, h]; rfl
theorem ww_same {M : Mem} (h : Inv M) {x : Option (Int32 × Mem)} {y : Mem → Option (Int32 × Mem)} {r : Int32} (hx : x = some (r, M)) (hy : y M = some (r, M)) : AgWW x y := ⟨r, M, M, hx, hy, h⟩
theorem ww_q {M M1 M2 : Mem} (h : Inv M) {x : Option (Int32 × Mem)} {y : Mem → Option (Int32 × Mem)} {r : Int32} (hx : x = some (r, M1)) (h1 : EqI M M1) (hy : y M1 = some (r, M2)) (h2 : EqI M1 M2) : AgWW x y := ⟨r, M1, M2, hx, hy, h.eq (h1.trans h2)⟩
theorem nw_q {M M2 : Mem} (h : Inv M) {x : Option Int32} {y : Option (Int32 × Mem)} {r : Int32} (hx : x = some r) (hy : y = some (r, M2)) (h2 : EqI M M2) : AgNW x y := ⟨r, M2, hx, hy, h.eq h2⟩
/-! fractions -/
theorem nI_rem {a b : Nat} (ha : a < 2 ^ 31) (h0 : 0 < b) (hb : b < 2 ^ 31) : nI a % nI b = nI (a % b) := by rw [← irem_eq_mod, pk_rem ha h0 hb]
theorem nz_nI {b : Nat} (h0 : 0 < b) (hb : b < 2 ^ 31) : nz (nI b) = true := decide_eq_true (nI_ne0 h0 hb)
theorem xgcd_l (M : Mem) : ∀ (k a b t fuel : Nat), b < 2 ^ k → a < 2 ^ 31 → b < 2 ^ 31 → t + 2 * k < 64 → 2 * k < fuel → loopF (fun z => b_X7_commonDivisor_7 M z.1 z.2.1 z.2.2) fuel (nI a, nI b, nI t) = some (nI (Nat.gcd a b)) := by
  have out : ∀ (a t : Nat), t < 64 → b_X7_commonDivisor_7 M (nI a) (nI 0) (nI t) = some (.inr (nI a)) := by
    intro a t ht
    unfold b_X7_commonDivisor_7
    rw [if_neg (by rw [show (64 : Int32) = nI 64 from rfl]; exact nI_ge ht (by omega)), if_pos (show nI 0 = 0 from rfl)]
  have go : ∀ (a b t : Nat), t < 64 → a < 2 ^ 31 → 0 < b → b < 2 ^ 31 → b_X7_commonDivisor_7 M (nI a) (nI b) (nI t) = some (.inl (nI b, nI (a % b), nI (t + 1))) := by
    intro a b t ht ha h0 hb
    unfold b_X7_commonDivisor_7
    rw [if_neg (by rw [show (64 : Int32) = nI 64 from rfl]; exact nI_ge ht (by omega)), if_neg (nI_ne0 h0 hb), chk_of (nz_nI h0 hb), nm_eq, nI_rem ha h0 hb, nI_1]
  intro k
  induction k with
  | zero =>
    intro a b t fuel h1 h2 h3 h4 h5
    obtain ⟨g, rfl⟩ : ∃ g, fuel = g + 1 := ⟨fuel - 1, by omega⟩
    have hb : b = 0 := by simpa using h1
    subst hb
    rw [Nat.gcd_zero_right]
    exact loopF_out (body := fun z => b_X7_commonDivisor_7 M z.1 z.2.1 z.2.2) (out a t (by omega))
  | succ k ih =>
    intro a b t fuel h1 h2 h3 h4 h5
    obtain ⟨g, rfl⟩ : ∃ g, fuel = g + 1 + 1 := ⟨fuel - 2, by omega⟩
    by_cases hb : b = 0
    · subst hb
      rw [Nat.gcd_zero_right]
      exact loopF_out (body := fun z => b_X7_commonDivisor_7 M z.1 z.2.1 z.2.2) (out a t (by omega))
    · refine (loopF_step (body := fun z => b_X7_commonDivisor_7 M z.1 z.2.1 z.2.2) (s := (nI a, nI b, nI t)) (s' := (nI b, nI (a % b), nI (t + 1))) (go a b t (by omega) h2 (by omega) h3)).trans ?_
      have hr : a % b < b := Nat.mod_lt _ (by omega)
      have e1 : Nat.gcd a b = Nat.gcd b (a % b) := by rw [Nat.gcd_comm a b, Nat.gcd_rec b a, Nat.gcd_comm]
      by_cases hz : a % b = 0
      · rw [hz, e1, hz, Nat.gcd_zero_right]
        exact loopF_out (body := fun z => b_X7_commonDivisor_7 M z.1 z.2.1 z.2.2) (out b (t + 1) (by omega))
      · refine (loopF_step (body := fun z => b_X7_commonDivisor_7 M z.1 z.2.1 z.2.2) (s := (nI b, nI (a % b), nI (t + 1))) (s' := (nI (a % b), nI (b % (a % b)), nI (t + 1 + 1))) (go b (a % b) (t + 1) (by omega) h3 (by omega) (by omega))).trans ?_
        have hr2 : b % (a % b) < a % b := Nat.mod_lt _ (by omega)
        have hh : b % (a % b) < 2 ^ k := by
          have hp : 2 ^ (k + 1) = 2 * 2 ^ k := by rw [Nat.pow_succ]; omega
          by_cases q : a % b ≤ 2 ^ k
          · omega
          · have e2 : b % (a % b) = b - a % b := by
              rw [Nat.mod_eq_sub_mod (by omega), Nat.mod_eq_of_lt (by omega)]
            omega
        rw [ih (a % b) (b % (a % b)) (t + 1 + 1) g hh (by omega) (by omega) (by omega) (by omega), e1]
        have e2 : Nat.gcd b (a % b) = Nat.gcd (a % b) (b % (a % b)) := by rw [Nat.gcd_comm b (a % b), Nat.gcd_rec (a % b) b, Nat.gcd_comm]
        rw [e2]
theorem ygcd_l (M : Mem) (x0 x1 x2 : Int32) : ∀ (k a b fuel : Nat), b < 2 ^ k → a < 2 ^ 31 → b < 2 ^ 31 → 2 * k < fuel → loopF (fun z => b_X8_part_5 M x0 x1 x2 z.1 z.2) fuel (nI a, nI b) = some (nI (Nat.gcd a b)) := by
  have out : ∀ (a : Nat), b_X8_part_5 M x0 x1 x2 (nI a) (nI 0) = some (.inr (nI a)) := by
    intro a
    unfold b_X8_part_5
    rw [if_pos (show nI 0 = 0 from rfl)]
  have go : ∀ (a b : Nat), a < 2 ^ 31 → 0 < b → b < 2 ^ 31 → b_X8_part_5 M x0 x1 x2 (nI a) (nI b) = some (.inl (nI b, nI (a % b))) := by
    intro a b ha h0 hb
    unfold b_X8_part_5
    rw [if_neg (nI_ne0 h0 hb), chk_of (nz_nI h0 hb), nm_eq, nI_rem ha h0 hb]
  intro k
  induction k with
  | zero =>
    intro a b fuel h1 h2 h3 h5
    obtain ⟨g, rfl⟩ : ∃ g, fuel = g + 1 := ⟨fuel - 1, by omega⟩
    have hb : b = 0 := by simpa using h1
    subst hb
    rw [Nat.gcd_zero_right]
    exact loopF_out (body := fun z => b_X8_part_5 M x0 x1 x2 z.1 z.2) (out a)
  | succ k ih =>
    intro a b fuel h1 h2 h3 h5
    obtain ⟨g, rfl⟩ : ∃ g, fuel = g + 1 + 1 := ⟨fuel - 2, by omega⟩
    by_cases hb : b = 0
    · subst hb
      rw [Nat.gcd_zero_right]
      exact loopF_out (body := fun z => b_X8_part_5 M x0 x1 x2 z.1 z.2) (out a)
    · refine (loopF_step (body := fun z => b_X8_part_5 M x0 x1 x2 z.1 z.2) (s := (nI a, nI b)) (s' := (nI b, nI (a % b))) (go a b h2 (by omega) h3)).trans ?_
      have hr : a % b < b := Nat.mod_lt _ (by omega)
      have e1 : Nat.gcd a b = Nat.gcd b (a % b) := by rw [Nat.gcd_comm a b, Nat.gcd_rec b a, Nat.gcd_comm]
      by_cases hz : a % b = 0
      · rw [hz, e1, hz, Nat.gcd_zero_right]
        exact loopF_out (body := fun z => b_X8_part_5 M x0 x1 x2 z.1 z.2) (out b)
      · refine (loopF_step (body := fun z => b_X8_part_5 M x0 x1 x2 z.1 z.2) (s := (nI b, nI (a % b))) (s' := (nI (a % b), nI (b % (a % b)))) (go b (a % b) h3 (by omega) (by omega))).trans ?_
        have hr2 : b % (a % b) < a % b := Nat.mod_lt _ (by omega)
        have hh : b % (a % b) < 2 ^ k := by
          have hp : 2 ^ (k + 1) = 2 * 2 ^ k := by rw [Nat.pow_succ]; omega
          by_cases q : a % b ≤ 2 ^ k
          · omega
          · have e2 : b % (a % b) = b - a % b := by
              rw [Nat.mod_eq_sub_mod (by omega), Nat.mod_eq_of_lt (by omega)]
            omega
        rw [ih (a % b) (b % (a % b)) g hh (by omega) (by omega) (by omega), e1]
        have e2 : Nat.gcd b (a % b) = Nat.gcd (a % b) (b % (a % b)) := by rw [Nat.gcd_comm b (a % b), Nat.gcd_rec (a % b) b, Nat.gcd_comm]
        rw [e2]
def frac (a b : Nat) (x : Int32) : Int32 := if x = 0 then nI (a / Nat.gcd a b) else nI (b / Nat.gcd a b)
theorem xfrac (M : Mem) {a b : Nat} (ha : a < 2 ^ 31) (h0 : 0 < b) (hb : b < 2 ^ 27) (x : Int32) : m_X7_fractionPart M (nI a) (nI b) x = some (frac a b x) := by
  have hg : 0 < Nat.gcd a b := Nat.gcd_pos_of_pos_right _ h0
  have hg2 : Nat.gcd a b ≤ b := Nat.gcd_le_right _ h0
  unfold m_X7_fractionPart m_X7_commonDivisor frac
  have e0 : (nI a, nI b, (0 : Int32)) = (nI a, nI b, nI 0) := rfl
  rw [e0, xgcd_l M 27 a b 0 FUEL hb ha (by omega) (by omega) (FUEL_lt (by omega)), Option.bind_some, Option.bind_some, if_neg (nI_ne0 hg (by omega)), chk_of (nz_nI hg (by omega)), chk_of (nz_nI hg (by omega)), pk_div ha hg (by omega), pk_div (by omega) hg (by omega)]
  by_cases q : x = 0
  · rw [if_pos q, if_pos q]
  · rw [if_neg q, if_neg q]
theorem yfrac (M : Mem) {a b : Nat} (ha : a < 2 ^ 31) (h0 : 0 < b) (hb : b < 2 ^ 27) (x : Int32) : m_X8_part M (nI a) (nI b) x = some (frac a b x) := by
  have hg : 0 < Nat.gcd a b := Nat.gcd_pos_of_pos_right _ h0
  have hg2 : Nat.gcd a b ≤ b := Nat.gcd_le_right _ h0
  unfold m_X8_part frac
  rw [ygcd_l M _ _ _ 27 a b FUEL hb ha (by omega) (FUEL_lt (by omega)), Option.bind_some, chk_of (nz_nI hg (by omega)), chk_of (nz_nI hg (by omega)), pk_div ha hg (by omega), pk_div (by omega) hg (by omega)]
  by_cases q : x = 0
  · rw [if_pos q, if_pos q]
  · rw [if_neg q, if_neg q]
/-! kind, child, power, cell -/
theorem ag_kind {M : Mem} (h : Inv M) (a : Int32) : AgNN (m_X7_kind M a) (m_X8_kind M a) := by
  obtain ⟨S, hS⟩ := h.2.2.1
  have hn := hS.2.2.1.2.1
  unfold m_X7_kind m_X8_kind
  rcases gchild hS a with ⟨j, hj, rfl, h1, h2, h3⟩ | ⟨h1, h2⟩
  · rw [h1, h3, Option.bind_some, Option.bind_some, if_neg n10]
    have e1 := (hS.1.2.2.2.2 j hj).1
    have e2 := (hS.2.1.2.2.2.2.1 j hj).1
    rw [show 4 + 1 + 1 + j = 6 + j by omega] at e1
    refine ⟨nI (S (5 + j)), ?_, ?_⟩
    · show chk _ _ = _
      rw [chk_of h2, e1]
    · rw [show (5 : Int32) + nI j = nI (5 + j) from nI_add 5 j, chk_of (inB_nI (by omega) (by omega)), nI_clamp (by omega), e2]
  · rw [h1, h2]
    exact ⟨-1000001, rfl, rfl⟩
theorem ag_child {M : Mem} (h : Inv M) (a b : Int32) : AgNN (m_X7_child M a b) (m_X8_child M a b) := by
  obtain ⟨S, hS⟩ := h.2.2.1
  have hn := hS.2.2.1.2.1
  unfold m_X7_child m_X8_child
  rcases gchild hS a with ⟨j, hj, rfl, h1, h2, h3⟩ | ⟨h1, h2⟩
  · rw [h1, h3, Option.bind_some, Option.bind_some, if_neg n10]
    have e1 := hS.1.2.2.2.2 j hj
    obtain ⟨f1, f2, f3, f4⟩ := hS.2.1.2.2.2.2.1 j hj
    rw [show 4 + 1 + 1 + j = 6 + j by omega] at e1
    obtain ⟨g1, g2, g3, g4⟩ := e1
    rw [show (15 : Int32) + nI j = nI (15 + j) from nI_add 15 j, show (10 : Int32) + nI j = nI (10 + j) from nI_add 10 j, show (20 : Int32) + nI j = nI (20 + j) from nI_add 20 j, chk_of (inB_nI (by omega) (by omega)), chk_of (inB_nI (by omega) (by omega)), chk_of (inB_nI (by omega) (by omega)), nI_clamp (by omega), nI_clamp (by omega), nI_clamp (by omega), f2, f3, f4]
    show AgNN (chk _ _) _
    rw [chk_of h2, g2, g3, g4]
    rcases gin M b 0 2 0 2 rfl rfl with ⟨p1, p2, p3⟩ | ⟨p1, p3⟩
    · obtain ⟨c, hc, rfl⟩ := inN_nI (x := b) (N := 3) ⟨p1, by omega⟩
      rw [p3, Option.bind_some, if_neg n10]
      have hcc : c = 0 ∨ c = 1 ∨ c = 2 := by omega
      rcases hcc with rfl | rfl | rfl
      · exact ⟨_, rfl, rfl⟩
      · exact ⟨_, rfl, rfl⟩
      · exact ⟨_, rfl, rfl⟩
    · rw [p3, Option.bind_some, if_pos rfl, if_neg (fun q => p1 (by rw [q]; decide)), if_neg (fun q => p1 (by rw [q]; decide)), if_neg (fun q => p1 (by rw [q]; decide))]
      exact ⟨_, rfl, rfl⟩
  · rw [h1, h2]
    exact ⟨-1000001, rfl, rfl⟩
theorem ag_power {M : Mem} (h : Inv M) (a b : Int32) : AgNW (m_X7_power M a b) (m_X8_power M a b) := by
  obtain ⟨S, hS⟩ := h.2.2.1
  have hV := hS.2.2.1
  have hn := hV.2.1
  unfold m_X7_power m_X8_power
  rcases gchild hS a with ⟨j, hj, rfl, h1, h2, h3⟩ | ⟨h1, h2⟩
  · rw [h1, h3, Option.bind_some, Option.bind_some, if_neg n10]
    show AgNW (chk _ _) _
    rw [chk_of h2]
    rcases gcell M M b with ⟨c, hc, rfl, g1, g2⟩ | ⟨g1, g2⟩
    · rw [g1, g2, Option.bind_some, Option.bind_some, if_neg n10, if_neg n10]
      obtain ⟨M2, l1, l2, l3, l4⟩ := ylays hS.2.1 hV
      have e1 := hS.1.2.2.2.2 j hj
      rw [show 4 + 1 + 1 + j = 6 + j by omega] at e1
      obtain ⟨v1, v2, v3, v4⟩ := hV.2.2.2.2.2 j hj
      rw [l1, Option.bind_some, ypower (M := M2) (S := S) (by rw [l3 239 (by decide) (by decide)]; exact hS.2.1) hV l4 hj hc, Option.bind_some]
      rw [e1.2.2.1, xfar M v3 hc, Option.bind_some, hS.1.2.1, xpow M e1.1 e1.2.1 v1 v2.2 (farN_le v3 hc) hV.2.2.2.1, Option.bind_some]
      exact nw_q h rfl rfl l2
    · rw [g1, g2]
      exact nw_q h rfl rfl (EqI.refl _)
  · rw [h1, h2]
    exact nw_q h rfl rfl (EqI.refl _)
theorem pkX_m1 {p : Nat} (hp : p < 2 ^ 30) : (if pkX p = -1 then some (-1000000 : Int32) else some (pkX p)) = some (pkY p) := by
  unfold pkX pkY
  by_cases h : p = 0
  · rw [if_pos h, if_pos h, if_pos rfl]
  · rw [if_neg h, if_neg h, if_neg]
    intro q
    have := congrArg Int32.toInt q
    rw [nI_toInt (by omega), show (-1 : Int32).toInt = -1 from rfl] at this
    omega
theorem ag_cell {M : Mem} (h : Inv M) (a b : Int32) : AgNW (m_X7_cell M a b) (m_X8_cell_ M a b) := by
  obtain ⟨S, hS⟩ := h.2.2.1
  have hV := hS.2.2.1
  have hn := hV.2.1
  have i0 : (0 : Int32).toNatClampNeg = 0 := rfl
  have i4 : (4 : Int32).toNatClampNeg = 4 := rfl
  unfold m_X7_cell m_X8_cell_
  rw [chk_of (by decide), i0, hS.2.1.1, hS.1.1]
  by_cases h0 : nI (S 0) = 0
  · rw [if_pos h0, if_pos h0]
    exact nw_q h rfl rfl (EqI.refl _)
  · rw [if_neg h0, if_neg h0]
    rcases gcell M M a with ⟨c, hc, rfl, g1, g2⟩ | ⟨g1, g2⟩
    · rw [g1, g2, Option.bind_some, Option.bind_some, if_neg n10, if_neg n10]
      obtain ⟨M2, l1, l2, l3, l4⟩ := ylays hS.2.1 hV
      have hY2 : Sqm (M2 239) S := by rw [l3 239 (by decide) (by decide)]; exact hS.2.1
      have hcX : nI c = cX c := (if_pos hc).symm
      rcases geither M M b with ⟨e, f1, f2⟩ | ⟨f1, f2⟩
      · rw [f1, f2, Option.bind_some, Option.bind_some, if_neg n10, if_neg n10, l1, Option.bind_some]
        rcases e with rfl | rfl
        · rw [if_neg (show ¬ (0 : Int32) = 1 by decide), if_pos rfl, ypicker hY2 hV l4 hc, hcX, xpicker (by decide) hS.1 hV, Option.bind_some, Option.bind_some, pkX_m1 (by have := pick_le (S := S) (w := wh S) (S 1) c; omega)]
          exact nw_q h rfl rfl l2
        · rw [if_pos rfl, if_neg n10, chk_of (by decide), i4, hY2.2.2.2.1, bit_at (by have := hV.2.2.2.2.1; omega) (by omega)]
          have hx := xdry hS.1 hV c
          rw [hcX, hx, Option.bind_some]
          have hg := hV.2.2.2.2.1
          have hb : (S 4).testBit c = decide (S 4 / 2 ^ c % 2 = 1) := Nat.testBit_eq_decide_div_mod_eq
          by_cases q : S 4 / 2 ^ c % 2 = 1
          · have hd : ¬ (c < 30 ∧ dry S c = true) := by rintro ⟨-, z⟩; simp [dry, hb, q] at z
            rw [if_neg hd, if_pos rfl, q]
            exact nw_q h rfl rfl l2
          · have q0 : S 4 / 2 ^ c % 2 = 0 := by omega
            have hd : c < 30 ∧ dry S c = true := ⟨hc, by simp [dry, hb, q]⟩
            rw [if_pos hd, if_neg n10, q0]
            exact nw_q h rfl rfl l2
      · rw [f1, f2]
        exact nw_q h rfl rfl (EqI.refl _)
    · rw [g1, g2]
      exact nw_q h rfl rfl (EqI.refl _)
/-! mean, some -/
/-- what both sides stand on when a throw is looked at -/
theorem both {M : Mem} {S : Nat → Nat} (hS : SqI M S) {c s : Nat} (hc : c < 30) (hs : s < 3) : ∃ M1, m_X3_throwAt M (nI c) (nI s) = some M1 ∧ PX M M1 (wayL c s) ∧ SqI M1 S ∧ ∀ M1', EqI M1 M1' → ∃ M2 M3, m_X8_lays M1' = some M2 ∧ m_X8_laysWays M2 (nI c) (nI s) = some M3 ∧ EqI M1' M3 ∧ SqI M3 S ∧ Lay M3 S (wh S) (S 1) ∧ M3 234 24 = nI (wayL c s).length ∧ ∀ i, i < (wayL c s).length → M3 247 i = cY ((wayL c s).getD i 30) := by
  obtain ⟨M1, x1, x2⟩ := xthrow (M0 := M) hc hs
  have hS1 := x2.eqI.sq hS
  refine ⟨M1, x1, x2, hS1, fun M1' he => ?_⟩
  have hS1' := he.sq hS1
  obtain ⟨M2, l1, l2, l3, l4⟩ := ylays hS1'.2.1 hS1'.2.2.1
  obtain ⟨M3, y1, y2⟩ := ythrow (M0 := M2) hc hs
  have hS3 := (l2.trans y2.eqI).sq hS1'
  refine ⟨M2, M3, l1, y1, l2.trans y2.eqI, hS3, ?_, y2.1, y2.2.1⟩
  obtain ⟨a1, a2, a3⟩ := l4
  refine ⟨by rw [y2.2.2.2 21 (by decide)]; exact a1, a2, fun j hj => ?_⟩
  rw [y2.2.2.1 245 (by decide) (by decide)]
  exact a3 j hj
theorem ag_mean {M : Mem} (h : Inv M) (a b c d : Int32) : AgWW (m_X7_mean M a b c d) (fun M1 => m_X8_mean M1 a b c d) := by
  obtain ⟨S, hS⟩ := h.2.2.1
  have hV := hS.2.2.1
  have hn := hV.2.1
  unfold m_X7_mean m_X8_mean
  rcases gchild hS a with ⟨j, hj, rfl, h1, h2, h3⟩ | ⟨h1, h2⟩
  · rw [h1, Option.bind_some]
    show AgWW (chk _ _) _
    rw [chk_of h2]
    rcases gthrow M M b c with ⟨c, s, hc, hs, rfl, rfl, g1, g2, g3⟩ | ⟨g3, g⟩
    · rw [g1, g2, Option.bind_some, Option.bind_some, if_neg n10, if_neg n10]
      rcases geither M M d with ⟨e, f1, f2⟩ | ⟨f1, f2⟩
      · obtain ⟨M1, x1, x2, hS1, hy⟩ := both hS hc hs
        obtain ⟨M2, M3, l1, l2, l3, hS3, hL, w1, w2⟩ := hy M1 (EqI.refl _)
        obtain ⟨o1, o2, o3⟩ := way_ok hc hs
        have hp := picksN_le S (wh S) (S 1) j (wayL c s)
        rw [f1, Option.bind_some, if_neg n10, x1, Option.bind_some, xcount x2 (by omega) (by decide) hS1.1 hV (by omega), Option.bind_some, x2.1, xfrac _ (by omega) (by omega) (by omega), Option.bind_some]
        refine ww_q h rfl x2.eqI (M2 := M3) ?_ l3
        rcases gchild hS1 (nI j) with ⟨j', -, -, -, -, k3⟩ | ⟨k1, -⟩
        · rcases gthrow M M1 (nI c) (nI s) with ⟨_, _, -, -, -, -, -, -, k4⟩ | ⟨-, k5⟩
          · rcases geither M M1 d with ⟨-, -, k6⟩ | ⟨k6, -⟩
            · rw [k3, Option.bind_some, if_neg n10, k4, Option.bind_some, if_neg n10, k6, Option.bind_some, if_neg n10, l1, Option.bind_some, l2, Option.bind_some, yways w1 w2 o1 o3 hS3.2.1 hV hL (by omega), Option.bind_some, w1, yfrac _ (by omega) (by omega) (by omega), Option.bind_some]
            · rw [f1] at k6; exact absurd k6 (by decide)
          · rcases k5 with k5 | ⟨-, k5⟩
            · rw [g1] at k5; exact absurd k5 (by decide)
            · rw [g2] at k5; exact absurd k5 (by decide)
        · rw [xat hS1.1 hV hj] at k1; exact absurd k1 (by simp)
      · refine ww_same h (r := -1000001) ?_ ?_
        · rw [f1]; rfl
        · rw [h3, Option.bind_some, if_neg n10, g3, Option.bind_some, if_neg n10, f2]; rfl
    · refine ww_same h (r := -1000001) ?_ ?_
      · rcases g with g | ⟨g, g'⟩
        · rw [g]; rfl
        · rw [g, Option.bind_some, if_neg n10, g']; rfl
      · rw [h3, Option.bind_some, if_neg n10, g3]; rfl
  · exact ww_same h (r := -1000001) (by rw [h1]; rfl) (by rw [h2]; rfl)
