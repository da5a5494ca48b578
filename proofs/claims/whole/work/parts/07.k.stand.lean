/-! ## weigh, largest; stand -/
theorem aX_eq {a i : Nat} (hi : i < 5) : nI i = aX a ↔ i = a := by
  unfold aX
  by_cases h : a < 5
  · rw [if_pos h, nI_eq (by omega) (by omega)]
  · rw [if_neg h]
    constructor
    · intro q
      have := congrArg Int32.toInt q
      rw [nI_toInt (by omega), show (-1 : Int32).toInt = -1 from rfl] at this
      omega
    · omega
theorem xneeded {M : Mem} {q : Nat} {S : Nat → Nat} (hq : kd q = 5) (hX : Sqx M q S) (hV : VS S) (j a c : Nat) (hj : j < 5) : m_X5_powerNeeded M q (nI j) (aX a) (cX c) = some (if c < 30 ∧ dry S c = true then nI (nd (PW S (wh S) (S 1) c) j a (S 3)) else 1000) := by
  have hn := hV.2.1
  have hh := hV.2.2.2.1
  unfold m_X5_powerNeeded
  rw [xdry hX hV, Option.bind_some]
  by_cases hd : c < 30 ∧ dry S c = true
  · rw [if_pos hd, if_pos hd, if_neg n10]
    have hw : ∀ j, j < S 3 → wh S j < 30 := fun j hj => (hV.2.2.2.2.2 j hj).2.2.1
    have hP := PW_le hV (w := wh S) hh hd.1 hw
    have key := loopF_for (body := fun z => b_X5_powerNeeded_18 M q (nI j) (aX a) (cX c) z.1 z.2) 5 (fun i => (nI (nd (PW S (wh S) (S 1) c) j a (min i (S 3))), nI i)) (nI (nd (PW S (wh S) (S 1) c) j a (S 3))) FUEL (FUEL_lt (by omega)) ?_ ?_
    · rw [Nat.zero_min] at key
      have e0 : ((1 : Int32), (0 : Int32)) = (nI (nd (PW S (wh S) (S 1) c) j a 0), nI 0) := rfl
      rw [e0, key]
      rfl
    · intro i hi
      show b_X5_powerNeeded_18 M q (nI j) (aX a) (cX c) _ (nI i) = _
      unfold b_X5_powerNeeded_18
      rw [if_neg (by rw [show (5 : Int32) = nI 5 from rfl]; exact nI_ge hi (by omega))]
      by_cases hjj : i < S 3
      · rw [xat hX hV hjj, Option.bind_some]
        obtain ⟨c1, c2, c3, c4⟩ := hX.2.2.2.2 i hjj
        obtain ⟨v1, v2, v3, v4⟩ := hV.2.2.2.2.2 i hjj
        show chk (kdB (q + 1 + 1 + i) 2) _ = _
        rw [chk_of (kdB_of (kd_ch hq i (by omega)))]
        have e1 : min i (S 3) = i := by omega
        have e2 : min (i + 1) (S 3) = i + 1 := by omega
        rw [e1, e2]
        conv => rhs; rw [nd]
        by_cases z1 : i = j
        · rw [if_pos ((nI_eq (by omega) (by omega)).mpr z1), if_pos (Or.inl z1), nI_1]
        · rw [if_neg (fun q => z1 ((nI_eq (by omega) (by omega)).mp q))]
          by_cases z2 : i = a
          · rw [if_pos ((aX_eq (by omega)).mpr z2), if_pos (Or.inr z2), nI_1]
          · rw [if_neg (fun q => z2 ((aX_eq (by omega)).mp q)), if_neg (show ¬ (i = j ∨ i = a) by omega)]
            dsimp only
            have hb := nd_bound (P := PW S (wh S) (S 1) c) (j := j) (a := a) (n := i) (B := 101) (by omega) (fun k hk => by have := hP k (by omega); omega)
            have hp := hP i hjj
            have ej : ∀ t, t ≤ 1 → j_X5_powerNeeded_60 M q (nI j) (aX a) (cX c) (nI (nd (PW S (wh S) (S 1) c) j a i)) (nI i) (q + 1 + 1 + i) (nI t) = some (.inl (nI (max (nd (PW S (wh S) (S 1) c) j a i) (PW S (wh S) (S 1) c i + t)), nI (i + 1))) := by
              intro t ht
              unfold j_X5_powerNeeded_60
              rw [c3, show cX c = nI c from if_pos hd.1, xfar M v3 hd.1, Option.bind_some, hX.2.1, xpow M c1 c2 v1 v2.2 (farN_le v3 hd.1) hh, Option.bind_some]
              have e3 : pw (S (5 + i)) (S (10 + i)) (farN (S (15 + i)) c) (S 1) = PW S (wh S) (S 1) c i := rfl
              rw [e3, nI_add, nI_1, nm_eq]
              by_cases z : nd (PW S (wh S) (S 1) c) j a i < PW S (wh S) (S 1) c i + t
              · rw [if_pos (nI_lt z (by omega)), Nat.max_eq_right (by omega)]
              · rw [if_neg (nI_nlt (by omega) (by omega)), Nat.max_eq_left (by omega)]
            by_cases z3 : i < j
            · rw [if_neg (nI_ge z3 (by omega)), if_pos z3]
              exact ej 1 (by omega)
            · rw [if_pos (nI_le (by omega) (by omega)), if_neg z3]
              exact ej 0 (by omega)
      · rw [xat_none hX hV (by unfold inN; rw [nI_toInt (by omega)]; omega), Option.bind_some]
        have e1 : min i (S 3) = S 3 := by omega
        have e2 : min (i + 1) (S 3) = S 3 := by omega
        rw [e1, e2, ← nI_1]
        rfl
    · show b_X5_powerNeeded_18 M q (nI j) (aX a) (cX c) _ (nI 5) = _
      unfold b_X5_powerNeeded_18
      rw [if_pos (by decide)]
      have e1 : min 5 (S 3) = S 3 := by omega
      rw [e1]
  · rw [if_neg hd, if_neg hd, if_pos rfl]
theorem xfill {M : Mem} {T n : Nat} (v : Int32) (ha : alen T = n) (hn : n < 1000) : ∃ M', m_J7_fill_53178 M T v = some M' ∧ (∀ b, b ≠ T → M' b = M b) ∧ (∀ k, k < n → M' T k = v) ∧ ∀ k, n ≤ k → M' T k = M T k := by
  unfold m_J7_fill_53178
  rw [nm_eq, ha]
  have key := loopF_rel (body := fun z => b_J7_fill_53178_5 z.2 T v (Int32.ofNat n) z.1) n (fun i z => z.1 = nI i ∧ (∀ b, b ≠ T → z.2 b = M b) ∧ (∀ k, k < i → z.2 T k = v) ∧ ∀ k, i ≤ k → z.2 T k = M T k) (fun M' => (∀ b, b ≠ T → M' b = M b) ∧ (∀ k, k < n → M' T k = v) ∧ ∀ k, n ≤ k → M' T k = M T k) ?_ ?_ (fuel := FUEL) (FUEL_lt (by omega)) (s := (0, M)) ⟨rfl, fun _ _ => rfl, fun k hk => absurd hk (by omega), fun _ _ => rfl⟩
  · obtain ⟨r, h1, h2⟩ := key
    exact ⟨r, by rw [h1]; rfl, h2⟩
  · rintro i ⟨x, M2⟩ hi ⟨rfl, h1, h2, h3⟩
    dsimp only at h1 h2 h3
    show ∃ s', b_J7_fill_53178_5 M2 T v (nI n) (nI i) = _ ∧ _
    unfold b_J7_fill_53178_5
    rw [if_neg (nI_ge hi (by omega)), chk_of (inB_nI (by omega) (by omega)), nm_eq, nI_clamp (by omega), nI_1]
    refine ⟨_, rfl, rfl, fun b hb => ?_, fun k hk => ?_, fun k hk => ?_⟩
    · dsimp only
      rw [mset_ne _ _ _ hb, h1 b hb]
    · dsimp only
      rw [mset_self, upd_at]
      by_cases e : k = i
      · rw [if_pos e]
      · rw [if_neg e, h2 k (by omega)]
    · dsimp only
      rw [mset_self, upd_at, if_neg (by omega), h3 k (by omega)]
  · rintro ⟨x, M2⟩ ⟨rfl, h1, h2, h3⟩
    show ∃ r, b_J7_fill_53178_5 M2 T v (nI n) (nI n) = _ ∧ _
    unfold b_J7_fill_53178_5
    rw [if_pos (nI_le (Nat.le_refl _) (by omega))]
    exact ⟨M2, rfl, h1, h2, h3⟩
/-- the ways (bits) of one who stands at k -/
def wtB (S : Nat → Nat) (j a k : Nat) (l : List Nat) : Nat → Bool := fun i => wB S (wh S) (S 1) j a k (l.getD i 30)
def told (S : Nat → Nat) (j a : Nat) (l : List Nat) (k n : Nat) : Nat := bs (wtB S j a k l) n
theorem xweigh {M0 M : Mem} {q T : Nat} {S : Nat → Nat} {l : List Nat} (hT : T = 198 ∨ T = 199) (hq : kd q = 5) (hX : Sqx M q S) (hV : VS S) (hP : PX M0 M l) (hl : l.length ≤ 20) (hqT : q < 100) {j a : Nat} (hj : j < S 3) : ∃ M', m_X3_weigh M q (nI j) (aX a) T = some M' ∧ (∀ b, b ≠ T → M' b = M b) ∧ ∀ k, k < 30 → M' T k = nI (told S j a l k l.length) := by
  have hn := hV.2.1
  have hh := hV.2.2.2.1
  have haT : alen T = 30 := by rcases hT with rfl | rfl <;> rfl
  unfold m_X3_weigh
  obtain ⟨M1, f1, f2, f3, -⟩ := xfill (M := M) (T := T) 0 haT (by omega)
  have keepX : ∀ M2 : Mem, (∀ b, b ≠ T → M2 b = M b) → Sqx M2 q S := fun M2 h => hX.eq hV (h q (by omega)) (fun j hj => h _ (by omega))
  have keepP : ∀ M2 : Mem, (∀ b, b ≠ T → M2 b = M b) → PX M2 M2 l := fun M2 h => ⟨by rw [h 196 (by omega)]; exact hP.1, by rw [h 197 (by omega)]; exact hP.2.1, fun _ _ _ => rfl⟩
  rw [f1, Option.bind_some, xat (keepX M1 f2) hV hj, Option.bind_some]
  obtain ⟨v1, v2, v3, v4⟩ := hV.2.2.2.2.2 j hj
  have key := loopF_rel (body := fun z => b_X3_weigh_16 z.2 q (nI j) (aX a) T (some (q + 1 + 1 + j)) z.1) l.length (fun i z => z.1 = nI i ∧ (∀ b, b ≠ T → z.2 b = M b) ∧ ∀ k, k < 30 → z.2 T k = nI (told S j a l k i)) (fun M' => (∀ b, b ≠ T → M' b = M b) ∧ ∀ k, k < 30 → M' T k = nI (told S j a l k l.length)) ?_ ?_ (fuel := FUEL) (FUEL_lt (by omega)) (s := (0, M1)) ⟨rfl, f2, fun k hk => by dsimp only; rw [f3 k hk]; rfl⟩
  · obtain ⟨r, h1, h2⟩ := key
    exact ⟨r, by rw [h1]; rfl, h2⟩
  · rintro i ⟨x, M2⟩ hi ⟨rfl, h1, h2⟩
    dsimp only at h1 h2
    have hX2 := keepX M2 h1
    have hP2 := keepP M2 h1
    show ∃ s', b_X3_weigh_16 M2 q (nI j) (aX a) T (some (q + 1 + 1 + j)) (nI i) = _ ∧ _
    unfold b_X3_weigh_16
    rw [hP2.1, if_neg (nI_ge hi (by omega))]
    show ∃ s', chk (kdB (q + 1 + 1 + j) 2) _ = _ ∧ _
    rw [chk_of (kdB_of (kd_ch hq j (by omega))), xlandAt hP2 hl hi, Option.bind_some, xneeded hq hX2 hV j a _ (by omega), Option.bind_some]
    generalize hc : l.getD i 30 = c
    have hb : ∀ k, told S j a l k (i + 1) = if wB S (wh S) (S 1) j a k c = true then told S j a l k i ||| 2 ^ i else told S j a l k i := by
      intro k
      unfold told
      rw [bs]
      unfold wtB
      rw [hc]
    by_cases hd : c < 30 ∧ dry S c = true
    · rw [if_pos hd]
      have hw : ∀ j, j < S 3 → wh S j < 30 := fun j hj => (hV.2.2.2.2.2 j hj).2.2.1
      have hPW := PW_le hV (w := wh S) hh hd.1 hw
      have hnd := nd_bound (P := PW S (wh S) (S 1) c) (j := j) (a := a) (n := S 3) (B := 101) (by omega) (fun k hk => by have := hPW k (by omega); omega)
      have k2 := loopF_rel (body := fun z => b_X3_weigh_51 z.2 q (nI j) (aX a) T (q + 1 + 1 + j) (nI i) (cX c) (nI (nd (PW S (wh S) (S 1) c) j a (S 3))) z.1) 30 (fun k z => z.1 = nI k ∧ (∀ b, b ≠ T → z.2 b = M b) ∧ ∀ k', k' < 30 → z.2 T k' = nI (if k' < k then told S j a l k' (i + 1) else told S j a l k' i)) (fun M' => (∀ b, b ≠ T → M' b = M b) ∧ ∀ k, k < 30 → M' T k = nI (told S j a l k (i + 1))) ?_ ?_ (fuel := FUEL) (FUEL_lt (by omega)) (s := (0, M2)) ⟨rfl, h1, fun k hk => by rw [if_neg (by omega)]; exact h2 k hk⟩
      · obtain ⟨r, g1, g2⟩ := k2
        exact ⟨(nI (i + 1), r), by rw [g1, Option.bind_some, nI_1], rfl, g2⟩
      · rintro k ⟨x, M3⟩ hk ⟨rfl, g1, g2⟩
        dsimp only at g1 g2
        have hX3 := keepX M3 g1
        show ∃ s', b_X3_weigh_51 M3 q (nI j) (aX a) T (q + 1 + 1 + j) (nI i) (cX c) _ (nI k) = _ ∧ _
        unfold b_X3_weigh_51
        obtain ⟨c1, c2, c3, c4⟩ := hX3.2.2.2.2 j hj
        rw [haT, if_neg (by rw [show Int32.ofNat 30 = nI 30 from rfl]; exact nI_ge hk (by omega)), if_neg (by rw [show (1000 : Int32) = nI 1000 from rfl]; exact nI_ge (by omega) (by omega)), show cX c = nI c from if_pos hd.1, xfar M3 hk hd.1, Option.bind_some, hX3.2.1, xpow M3 c1 c2 v1 v2.2 (farN_le hk hd.1) hh, Option.bind_some]
        have hpw := pw_le v1 v2.2 (farN_le hk hd.1) hh
        have ew : wB S (wh S) (S 1) j a k c = decide (nd (PW S (wh S) (S 1) c) j a (S 3) ≤ pw (S (5 + j)) (S (10 + j)) (farN k c) (S 1)) := by
          unfold wB
          rw [decide_eq_true hd.1, hd.2, Bool.true_and, Bool.true_and]
        by_cases z : pw (S (5 + j)) (S (10 + j)) (farN k c) (S 1) < nd (PW S (wh S) (S 1) c) j a (S 3)
        · rw [if_pos (nI_lt z (by omega)), nI_1]
          refine ⟨_, rfl, rfl, g1, fun k' hk' => ?_⟩
          dsimp only
          rw [g2 k' hk']
          by_cases e : k' = k
          · subst e
            rw [if_neg (by omega), if_pos (by omega), hb, if_neg (by rw [ew, decide_eq_true_iff]; omega)]
          · by_cases e2 : k' < k
            · rw [if_pos e2, if_pos (by omega)]
            · rw [if_neg e2, if_neg (by omega)]
        · have htl : told S j a l k i < 2 ^ i := bs_lt _ _
          have h2i : 2 ^ i ≤ 2 ^ 20 := Nat.pow_le_pow_right (by omega) (by omega)
          rw [if_neg (nI_nlt (by omega) (by omega)), chk_of (inB_nI hk (by omega)), chk_of (inB_nI hk (by omega)), nm_eq, nI_clamp (by omega), nI_1, g2 k hk, if_neg (by omega), sl_1 i (by omega), nx_or (by omega) (by omega)]
          refine ⟨_, rfl, rfl, fun b hb' => ?_, fun k' hk' => ?_⟩
          · dsimp only
            rw [mset_ne _ _ _ hb', g1 b hb']
          · dsimp only
            rw [mset_self, upd_at]
            by_cases e : k' = k
            · subst e
              rw [if_pos rfl, if_pos (by omega), hb, if_pos (by rw [ew, decide_eq_true_iff]; omega)]
            · rw [if_neg e, g2 k' hk']
              by_cases e2 : k' < k
              · rw [if_pos e2, if_pos (by omega)]
              · rw [if_neg e2, if_neg (by omega)]
      · rintro ⟨x, M3⟩ ⟨rfl, g1, g2⟩
        show ∃ r, b_X3_weigh_51 M3 q (nI j) (aX a) T (q + 1 + 1 + j) (nI i) (cX c) _ (nI 30) = _ ∧ _
        unfold b_X3_weigh_51
        rw [haT, if_pos (by decide)]
        refine ⟨M3, rfl, g1, fun k hk => ?_⟩
        have := g2 k hk
        rw [if_pos hk] at this
        exact this
    · rw [if_neg hd]
      have hk0 : ∀ k, told S j a l k (i + 1) = told S j a l k i := by
        intro k
        rw [hb, if_neg]
        intro z
        unfold wB at z
        simp only [Bool.and_eq_true, decide_eq_true_eq] at z
        exact hd ⟨z.1, z.2.1⟩
      have k3 : loopF (fun z => b_X3_weigh_51 z.2 q (nI j) (aX a) T (q + 1 + 1 + j) (nI i) (cX c) 1000 z.1) FUEL (0, M2) = some M2 := by
        refine loopF_out (body := fun z => b_X3_weigh_51 z.2 q (nI j) (aX a) T (q + 1 + 1 + j) (nI i) (cX c) 1000 z.1) (s := (0, M2)) (f := 99999) ?_
        show b_X3_weigh_51 M2 q (nI j) (aX a) T (q + 1 + 1 + j) (nI i) (cX c) 1000 0 = _
        unfold b_X3_weigh_51
        rw [haT, if_neg (by decide), if_pos (by decide)]
      rw [k3, Option.bind_some, nI_1]
      exact ⟨_, rfl, rfl, h1, fun k hk => by dsimp only; rw [h2 k hk, hk0]⟩
  · rintro ⟨x, M2⟩ ⟨rfl, h1, h2⟩
    dsimp only at h1 h2
    show ∃ r, b_X3_weigh_16 M2 q (nI j) (aX a) T (some (q + 1 + 1 + j)) (nI l.length) = _ ∧ _
    unfold b_X3_weigh_16
    rw [(keepP M2 h1).1, if_pos (nI_le (Nat.le_refl _) (by omega))]
    exact ⟨M2, rfl, h1, h2⟩
/-- the first of the greatest: of (best so far, how much and 1) -/
def lgst (f : Nat → Nat) : Nat → Nat × Nat
  | 0 => (0, 0)
  | n + 1 => if (lgst f n).2 < f n + 1 then (n, f n + 1) else lgst f n
theorem lgst_le {f : Nat → Nat} {B n : Nat} (h : ∀ i, i < n → f i ≤ B) : (lgst f n).1 ≤ n ∧ (lgst f n).2 ≤ B + 1 := by
  induction n with
  | zero => exact ⟨Nat.le_refl _, Nat.zero_le _⟩
  | succ n ih =>
    have h1 := ih (fun i hi => h i (by omega))
    have h2 := h n (by omega)
    unfold lgst
    by_cases c : (lgst f n).2 < f n + 1
    · rw [if_pos c]
      dsimp only
      omega
    · rw [if_neg c]
      omega
theorem lgst_congr {f g : Nat → Nat} {n : Nat} (h : ∀ i, i < n → f i = g i) : lgst f n = lgst g n := by
  induction n with
  | zero => rfl
  | succ n ih =>
    unfold lgst
    rw [ih (fun i hi => h i (by omega)), h n (by omega)]
def mI (n : Nat) : Int32 := nI n - 1
theorem mI_le {a b : Nat} (ha : a < 2 ^ 30) (hb : b < 2 ^ 30) : nI a ≤ mI b ↔ ¬ b < a + 1 := by
  unfold mI
  rw [i32_le, show (1 : Int32) = nI 1 from rfl, pk_sub_toInt hb (by omega), nI_toInt (by omega)]
  omega
theorem mI_1 (a : Nat) : mI (a + 1) = nI a := by
  unfold mI
  rw [nI_pred]
theorem xlargest {M : Mem} {T : Nat} {f v : Nat → Nat} (hT : alen T = 30) (hv : ∀ k, k < 30 → M T k = nI (v k) ∧ v k < 2 ^ 32 ∧ pc 32 (v k) = f k) : m_X7_largest M T = some (nI (lgst f 30).1) := by
  have hf : ∀ k, k < 30 → f k ≤ 32 := by
    intro k hk
    rw [← (hv k hk).2.2]
    unfold pc
    exact Nat.le_trans List.countP_le_length (by simp)
  unfold m_X7_largest
  have key := loopF_for (body := fun z => b_X7_largest_6 M T z.1 z.2.1 z.2.2) 30 (fun i => (nI (lgst f i).1, mI (lgst f i).2, nI i)) (nI (lgst f 30).1) FUEL (FUEL_lt (by omega)) ?_ ?_
  · have e0 : ((0 : Int32), (-1 : Int32), (0 : Int32)) = (nI (lgst f 0).1, mI (lgst f 0).2, nI 0) := rfl
    rw [e0, key]
    rfl
  · intro i hi
    show b_X7_largest_6 M T _ _ (nI i) = _
    unfold b_X7_largest_6
    obtain ⟨h1, h2, h3⟩ := hv i hi
    have hb := lgst_le (f := f) (n := i) (B := 32) (fun k hk => hf k (by omega))
    have hfi := hf i hi
    rw [hT, if_neg (by rw [show Int32.ofNat 30 = nI 30 from rfl]; exact nI_ge hi (by omega)), chk_of (inB_nI hi (by omega)), nI_clamp (by omega), h1, bitCount M h2, Option.bind_some, h3, nI_1]
    conv => rhs; rw [lgst]
    by_cases c : (lgst f i).2 < f i + 1
    · rw [if_neg (fun q => (mI_le (by omega) (by omega)).mp q c), if_pos c, mI_1]
    · rw [if_pos ((mI_le (by omega) (by omega)).mpr c), if_neg c]
  · show b_X7_largest_6 M T _ _ (nI 30) = _
    unfold b_X7_largest_6
    rw [hT, if_pos (by decide)]
/-- by how many ways child j picks, standing at k -/
def atN (S w : Nat → Nat) (h j : Nat) (l : List Nat) (k : Nat) : Nat := picksN S (movd w j k) h j l
theorem picksN_eq (S w : Nat → Nat) (h j : Nat) (l : List Nat) : picksN S w h j l = l.countP (fun c => pick S w h c == j + 1) := by
  unfold picksN cnt
  rw [List.take_length]
theorem pc_told {S : Nat → Nat} {j a : Nat} {l : List Nat} {k : Nat} (hj : j < S 3) (ha : S 3 ≤ a) (hl : l.length ≤ 20) : pc 32 (told S j a l k l.length) = atN S (wh S) (S 1) j l k := by
  unfold told
  rw [pc_bs _ (by omega)]
  unfold wtB
  rw [cnt_getD (fun c => wB S (wh S) (S 1) j a k c) l]
  unfold atN
  rw [picksN_eq]
  apply List.countP_congr
  intro c _
  rw [wB_pick hj ha]
/-- the stand of child j, as both sides find it -/
def stdN (S : Nat → Nat) (j : Nat) (l : List Nat) : Nat := (lgst (atN S (wh S) (S 1) j l) 30).1
theorem xbest {M0 M : Mem} {q : Nat} {S : Nat → Nat} {l : List Nat} (hq : kd q = 5) (hX : Sqx M q S) (hV : VS S) (hP : PX M0 M l) (hl : l.length ≤ 20) (hqT : q < 100) {j : Nat} (hj : j < S 3) : ∃ M', m_X7_bestCell M q (nI j) = some (nI (stdN S j l), M') ∧ ∀ b, b ≠ 198 → M' b = M b := by
  unfold m_X7_bestCell
  obtain ⟨M1, h1, h2, h3⟩ := xweigh (M := M) (a := 5) (Or.inl rfl) hq hX hV hP hl hqT hj
  have h1' : m_X3_weigh M q (nI j) (-1) 198 = some M1 := h1
  rw [h1', Option.bind_some, xlargest (f := atN S (wh S) (S 1) j l) (v := fun k => told S j 5 l k l.length) rfl (fun k hk => ⟨h3 k hk, Nat.lt_of_lt_of_le (bs_lt _ _) (Nat.pow_le_pow_right (by omega) (by omega)), pc_told hj hV.2.1 hl⟩), Option.bind_some]
  exact ⟨M1, rfl, h2⟩
/-- the reference: it stands him in each cell -/
theorem ystand {M : Mem} {l : List Nat} {S w : Nat → Nat} {h : Nat} (h1 : M 234 24 = nI l.length) (h2 : ∀ i, i < l.length → M 247 i = cY (l.getD i 30)) (hl : l.length ≤ 19) (hle : ∀ i, i < l.length → l.getD i 30 ≤ 30) (hY : Sqm (M 239) S) (hV : VS S) (hL : Lay M S w h) {j : Nat} (hj : j < S 3) : ∃ M', m_X8_standOf M (nI j) = some (nI (lgst (atN S w h j l) 30).1, M') ∧ (∀ b, b ≠ 245 → M' b = M b) ∧ ∀ i, i < 5 → M' 245 i = M 245 i := by
  have hn := hV.2.1
  unfold m_X8_standOf
  rw [chk_of (inB_nI (by omega) (by omega)), nm_eq, nI_clamp (by omega)]
  generalize hx : M 245 j = x
  have hf : ∀ k, atN S w h j l k ≤ 19 := fun k => Nat.le_trans (picksN_le _ _ _ _ _) hl
  have key := loopF_rel (body := fun z => b_X8_standOf_15 z.2.2.2 (nI j) x z.1 z.2.1 z.2.2.1) 30 (fun i z => z.1 = nI (lgst (atN S w h j l) i).1 ∧ z.2.1 = mI (lgst (atN S w h j l) i).2 ∧ z.2.2.1 = nI i ∧ (∀ b, b ≠ 245 → z.2.2.2 b = M b) ∧ ∀ i, i ≠ j → z.2.2.2 245 i = M 245 i) (fun r => r.1 = nI (lgst (atN S w h j l) 30).1 ∧ (∀ b, b ≠ 245 → r.2 b = M b) ∧ ∀ i, i ≠ j → r.2 245 i = M 245 i) ?_ ?_ (fuel := FUEL) (FUEL_lt (by omega)) (s := (0, -1, 0, M)) ⟨rfl, rfl, rfl, fun _ _ => rfl, fun _ _ => rfl⟩
  · obtain ⟨⟨r1, r2⟩, g1, g2, g3, g4⟩ := key
    dsimp only at g2 g3 g4
    rw [g1, Option.bind_some]
    refine ⟨_, by rw [chk_of (inB_nI (by omega) (by omega)), nm_eq, g2], fun b hb => ?_, fun i hi => ?_⟩
    · rw [mset_ne _ _ _ hb]
      exact g3 b hb
    · dsimp only
      rw [mset_self, upd_at]
      by_cases e : i = j
      · rw [if_pos e, e, hx]
      · rw [if_neg e, g4 i e]
  · rintro i ⟨x1, x2, x3, M2⟩ hi ⟨rfl, rfl, rfl, g1, g2⟩
    dsimp only at g1 g2
    try dsimp only
    show ∃ s', b_X8_standOf_15 M2 (nI j) x _ _ (nI i) = _ ∧ _
    unfold b_X8_standOf_15
    rw [if_neg (by rw [show (30 : Int32) = nI 30 from rfl]; exact nI_ge hi (by omega)), chk_of (inB_nI (by omega) (by omega)), nm_eq, nI_clamp (by omega)]
    generalize hM3 : mset M2 245 j (nI i) = M3
    have g3 : ∀ b, b ≠ 245 → M3 b = M b := fun b hb => by rw [← hM3, mset_ne _ _ _ hb, g1 b hb]
    have g4 : ∀ k, k ≠ j → M3 245 k = M 245 k := fun k hk => by rw [← hM3, mset_self, upd_at, if_neg hk, g2 k hk]
    have g5 : M3 245 j = nI i := by rw [← hM3, mset_self, upd_at, if_pos rfl]
    have hL3 : Lay M3 S (movd w j i) h := by
      obtain ⟨l1, l2, l3⟩ := hL
      refine ⟨by rw [g3 234 (by decide)]; exact l1, l2, fun k hk => ?_⟩
      unfold movd
      by_cases e : k = j
      · rw [if_pos e, e, g5]
        exact ⟨rfl, hi⟩
      · rw [if_neg e, g4 k e]
        exact l3 k hk
    rw [yways (by rw [g3 234 (by decide)]; exact h1) (by rw [g3 247 (by decide)]; exact h2) hl hle (by rw [g3 239 (by decide)]; exact hY) hV hL3 (by omega), Option.bind_some]
    have hb := lgst_le (f := atN S w h j l) (n := i) (B := 19) (fun k _ => hf k)
    have hfi := hf i
    show ∃ s', (if nI (atN S w h j l i) ≤ mI (lgst (atN S w h j l) i).2 then _ else _) = _ ∧ _
    have ej : ∀ s0, j_X8_standOf_50 M3 (nI j) x (mI (lgst (atN S w h j l) i).2) (nI i) (nI (atN S w h j l i)) s0 = if (lgst (atN S w h j l) i).2 < atN S w h j l i + 1 then some (.inl (s0, nI (atN S w h j l i), nI (i + 1), M3)) else some (.inl (s0, mI (lgst (atN S w h j l) i).2, nI (i + 1), M3)) := by
      intro s0
      unfold j_X8_standOf_50
      rw [nI_1]
      by_cases c : (lgst (atN S w h j l) i).2 < atN S w h j l i + 1
      · rw [if_neg (fun q => (mI_le (by omega) (by omega)).mp q c), if_pos c]
      · rw [if_pos ((mI_le (by omega) (by omega)).mpr c), if_neg c]
    show ∃ s', (if nI (atN S w h j l i) ≤ mI (lgst (atN S w h j l) i).2 then j_X8_standOf_50 M3 (nI j) x (mI (lgst (atN S w h j l) i).2) (nI i) (nI (atN S w h j l i)) _ else j_X8_standOf_50 M3 (nI j) x (mI (lgst (atN S w h j l) i).2) (nI i) (nI (atN S w h j l i)) _) = _ ∧ _
    rw [ej, ej]
    by_cases c : (lgst (atN S w h j l) i).2 < atN S w h j l i + 1
    · rw [if_neg (fun q => (mI_le (by omega) (by omega)).mp q c), if_pos c]
      refine ⟨_, rfl, ?_, ?_, rfl, g3, g4⟩
      · rw [lgst, if_pos c]
      · rw [lgst, if_pos c, mI_1]
    · rw [if_pos ((mI_le (by omega) (by omega)).mpr c), if_neg c]
      refine ⟨_, rfl, ?_, ?_, rfl, g3, g4⟩
      · rw [lgst, if_neg c]
      · rw [lgst, if_neg c]
  · rintro ⟨x1, x2, x3, M2⟩ ⟨rfl, rfl, rfl, g1, g2⟩
    show ∃ r, b_X8_standOf_15 M2 (nI j) x _ _ (nI 30) = _ ∧ _
    unfold b_X8_standOf_15
    rw [if_pos (by decide)]
    exact ⟨_, rfl, rfl, g1, g2⟩
