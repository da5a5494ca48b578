/-! ## toss -/
theorem l_rem {a b : Nat} (ha : a < 2 ^ 63) (h0 : 0 < b) (hb : b < 2 ^ 63) : lN a % lN b = lN (a % b) := by
  apply Int64.toInt_inj.mp
  have hr : a % b < b := Nat.mod_lt _ h0
  rw [Int64.toInt_mod, pk_lT ha, pk_lT hb, pk_lT (by omega), Int.tmod_eq_emod_of_nonneg (by omega)]
  exact (Int.natCast_emod a b).symm
theorem l_mul (a b : Nat) : lN a * lN b = lN (a * b) := (Int64.ofNat_mul a b).symm
theorem l_i32 (a : Nat) : (lN a).toInt32 = nI a := by
  apply Int32.toBitVec_inj.1
  show (BitVec.ofNat 64 a).signExtend 32 = BitVec.ofNat 32 a
  apply BitVec.eq_of_toNat_eq
  rw [BitVec.signExtend_eq_setWidth_of_le _ (by decide), BitVec.toNat_setWidth, BitVec.toNat_ofNat, BitVec.toNat_ofNat]
  omega
theorem nzL_l {b : Nat} (h0 : 0 < b) (hb : b < 2 ^ 63) : nzL (lN b) = true := by
  unfold nzL
  refine decide_eq_true fun q => ?_
  have := congrArg Int64.toInt q
  rw [pk_lT hb, show (0 : Int64).toInt = 0 from rfl] at this
  omega
/-- the draws -/
def tX (x : Nat) : Nat → Nat
  | 0 => x
  | t + 1 => tX x t * 16807 % 2147483647
theorem tX_lt {x : Nat} (hx : x < 2147483647) (t : Nat) : tX x t < 2147483647 := by
  cases t with
  | zero => exact hx
  | succ t => exact Nat.mod_lt _ (by decide)
theorem tX_step {x : Nat} (hx : x < 2147483647) (t : Nat) : (lN (tX x t) * 16807) % 2147483647 = lN (tX x (t + 1)) := by
  have := tX_lt hx t
  rw [show (16807 : Int64) = lN 16807 from rfl, show (2147483647 : Int64) = lN 2147483647 from rfl, l_mul, l_rem (by omega) (by decide) (by decide)]
  rfl
def tPk (S : Nat → Nat) (l : List Nat) (x t : Nat) : Nat := pick S (wh S) (S 1) (l.getD (tX x (t + 1) % l.length) 30)
def tN (S : Nat → Nat) (l : List Nat) (x : Nat) : Nat → Nat
  | 0 => 0
  | t + 1 => if tPk S l x t = 0 then tN S l x t else tN S l x t + 1
def tS (S : Nat → Nat) (l : List Nat) (x : Nat) : Nat → Nat → Nat
  | 0 => S
  | t + 1 => if tPk S l x t = 0 then tS S l x t else su (tS S l x t) (20 + (tPk S l x t - 1)) (tS S l x t (20 + (tPk S l x t - 1)) + 1)
theorem tS_ne (S : Nat → Nat) (l : List Nat) (x t : Nat) {y : Nat} (hy : y < 20) : tS S l x t y = S y := by
  induction t with
  | zero => rfl
  | succ t ih =>
    unfold tS
    by_cases c : tPk S l x t = 0
    · rw [if_pos c]; exact ih
    · rw [if_neg c, su_ne _ _ (by omega)]; exact ih
theorem tS_le (S : Nat → Nat) (l : List Nat) (x t y : Nat) : tS S l x t y ≤ S y + t := by
  induction t with
  | zero => exact Nat.le_refl _
  | succ t ih =>
    unfold tS
    by_cases c : tPk S l x t = 0
    · rw [if_pos c]; omega
    · rw [if_neg c]
      unfold su
      by_cases e : y = 20 + (tPk S l x t - 1)
      · rw [if_pos e, ← e]; omega
      · rw [if_neg e]; omega
theorem tN_le (S : Nat → Nat) (l : List Nat) (x t : Nat) : tN S l x t ≤ t := by
  induction t with
  | zero => exact Nat.le_refl _
  | succ t ih =>
    unfold tN
    by_cases c : tPk S l x t = 0
    · rw [if_pos c]; omega
    · rw [if_neg c]; omega
theorem tS_VS {S : Nat → Nat} (hV : VS S) (l : List Nat) (x : Nat) {n t : Nat} (ht : t ≤ n) (hp : ∀ j, j < S 3 → S (20 + j) + n ≤ 9999) : VS (tS S l x t) := by
  obtain ⟨a1, a2, a3, a4, a5, a6⟩ := hV
  unfold VS
  rw [tS_ne S l x t (y := 0) (by omega), tS_ne S l x t (y := 3) (by omega), tS_ne S l x t (y := 1) (by omega), tS_ne S l x t (y := 4) (by omega)]
  refine ⟨a1, a2, a3, a4, a5, fun i hi => ?_⟩
  obtain ⟨b1, b2, b3, b4⟩ := a6 i hi
  rw [tS_ne S l x t (y := 5 + i) (by omega), tS_ne S l x t (y := 10 + i) (by omega), tS_ne S l x t (y := 15 + i) (by omega)]
  refine ⟨b1, b2, b3, ?_⟩
  have h1 := tS_le S l x t (20 + i)
  have h2 := hp i hi
  omega
theorem tS_pick {S : Nat → Nat} (hV : VS S) (l : List Nat) (x t c : Nat) : pick (tS S l x t) (wh (tS S l x t)) (tS S l x t 1) c = pick S (wh S) (S 1) c := by
  have hn := hV.2.1
  rw [tS_ne S l x t (y := 1) (by omega), pick_congr (tS_ne S l x t (by omega)) (tS_ne S l x t (by omega)) (w := wh S)]
  intro j hj
  exact ⟨tS_ne S l x t (by omega), tS_ne S l x t (by omega), tS_ne S l x t (by omega)⟩
theorem xtoss {M : Mem} {S : Nat → Nat} {l : List Nat} {x n : Nat} (hX : Sqx M 4 S) (hV : VS S) (hP : PX M M l) (hl : l.length ≤ 20) (hl1 : 1 ≤ l.length) (hx : x < 2147483647) (hn : n ≤ 20) (hp : ∀ j, j < S 3 → S (20 + j) + n ≤ 9999) : ∃ M', m_X7_throwPennies M (nI n) (nI x) = some (nI (tN S l x n), M') ∧ Sqx M' 4 (tS S l x n) ∧ (∀ a, ¬ (6 ≤ a ∧ a ≤ 10) → M' a = M a) ∧ ∀ j, j < 5 → M' (6 + j) 0 = M (6 + j) 0 := by
  have hn5 := hV.2.1
  unfold m_X7_throwPennies
  rw [nm_eq, nI_l (by omega)]
  have key := loopF_rel (body := fun z => b_X7_throwPennies_9 z.2.2.2 (nI n) z.1 z.2.1 z.2.2.1) n (fun t z => z.1 = lN (tX x t) ∧ z.2.1 = nI (tN S l x t) ∧ z.2.2.1 = nI t ∧ Sqx z.2.2.2 4 (tS S l x t) ∧ (∀ a, ¬ (6 ≤ a ∧ a ≤ 10) → z.2.2.2 a = M a) ∧ ∀ j, j < 5 → z.2.2.2 (6 + j) 0 = M (6 + j) 0) (fun r => r.1 = nI (tN S l x n) ∧ Sqx r.2 4 (tS S l x n) ∧ (∀ a, ¬ (6 ≤ a ∧ a ≤ 10) → r.2 a = M a) ∧ ∀ j, j < 5 → r.2 (6 + j) 0 = M (6 + j) 0) ?_ ?_ (fuel := FUEL) (FUEL_lt (by omega)) (s := (lN x, 0, 0, M)) ⟨rfl, rfl, rfl, hX, fun _ _ => rfl, fun _ _ => rfl⟩
  · obtain ⟨⟨r1, r2⟩, g1, g2, g3⟩ := key
    dsimp only at g2 g3
    rw [g1, g2]
    exact ⟨r2, rfl, g3⟩
  · rintro t ⟨y1, y2, y3, M2⟩ ht ⟨rfl, rfl, rfl, g1, g2, g3⟩
    dsimp only at g1 g2 g3
    show ∃ s', b_X7_throwPennies_9 M2 (nI n) (lN (tX x t)) _ (nI t) = _ ∧ _
    unfold b_X7_throwPennies_9
    have hlt := tX_lt hx (t + 1)
    have hP2 : PX M2 M2 l := ⟨by rw [g2 196 (by omega)]; exact hP.1, by rw [g2 197 (by omega)]; exact hP.2.1, fun _ _ _ => rfl⟩
    have hVt := tS_VS hV l x (t := t) (n := n) (by omega) hp
    have hmod : tX x (t + 1) % l.length < l.length := Nat.mod_lt _ (by omega)
    have hland : m_X3_landBy M2 (lN (tX x (t + 1))) = some (cX (l.getD (tX x (t + 1) % l.length) 30)) := by
      unfold m_X3_landBy
      rw [hP2.1, if_neg (by rw [show (0 : Int32) = nI 0 from rfl]; exact nI_ge (by omega) (by omega)), nI_l (by omega), chk_of (nzL_l (by omega) (by omega)), l_rem (by omega) (by omega) (by omega), l_i32, xlandAt hP2 hl hmod, Option.bind_some]
    have hpk := pick_le (S := S) (w := wh S) (S 1) (l.getD (tX x (t + 1) % l.length) 30)
    rw [if_neg (nI_ge ht (by omega)), tX_step hx, nm_eq, hland, Option.bind_some, xpicker (q := 4) (by decide) g1 hVt, Option.bind_some, tS_pick hV]
    have eN : tN S l x (t + 1) = if tPk S l x t = 0 then tN S l x t else tN S l x t + 1 := rfl
    have eS : tS S l x (t + 1) = if tPk S l x t = 0 then tS S l x t else su (tS S l x t) (20 + (tPk S l x t - 1)) (tS S l x t (20 + (tPk S l x t - 1)) + 1) := rfl
    have ep : pick S (wh S) (S 1) (l.getD (tX x (t + 1) % l.length) 30) = tPk S l x t := rfl
    rw [ep] at hpk ⊢
    rw [eN, eS]
    have h3 : tS S l x t 3 = S 3 := tS_ne S l x t (by omega)
    generalize tPk S l x t = k at *
    by_cases c : k = 0
    · rw [if_pos c, if_pos c, c]
      have : m_X5_at M2 4 (pkX 0) = some none := by
        unfold m_X5_at
        rw [if_pos (by decide)]
      rw [this, Option.bind_some, nI_1]
      exact ⟨_, rfl, rfl, rfl, rfl, g1, g2, g3⟩
    · rw [if_neg c, if_neg c]
      have hk : pkX k = nI (k - 1) := if_neg c
      have hj : k - 1 < tS S l x t 3 := by omega
      rw [hk, xat g1 hVt hj, Option.bind_some]
      show ∃ s', chk (kdB (4 + 1 + 1 + (k - 1)) 2) _ = _ ∧ _
      rw [chk_of (kdB_of (kd_ch (q := 4) (by decide) (k - 1) (by omega))), (g1.2.2.2.2 _ hj).2.2.2, nI_1, nm_eq, nI_1, nI_1, show 4 + 1 + 1 + (k - 1) = 6 + (k - 1) by omega]
      refine ⟨_, rfl, rfl, rfl, rfl, sqx_su g1 hVt hj _ (Or.inr ⟨rfl, rfl⟩), fun a ha => ?_, fun j hj => ?_⟩
      · dsimp only
        rw [mset_ne _ _ _ (by omega), g2 a ha]
      · dsimp only
        by_cases e : j = k - 1
        · rw [e, mset_self, upd_at, if_neg (by decide), g3 _ (by omega)]
        · rw [mset_ne _ _ _ (by omega), g3 j hj]
  · rintro ⟨y1, y2, y3, M2⟩ ⟨rfl, rfl, rfl, g1, g2, g3⟩
    show ∃ r, b_X7_throwPennies_9 M2 (nI n) _ _ (nI n) = _ ∧ _
    unfold b_X7_throwPennies_9
    rw [if_pos (nI_le (Nat.le_refl _) (by omega))]
    exact ⟨_, rfl, rfl, g1, g2, g3⟩
theorem ytoss {M : Mem} {S : Nat → Nat} {l : List Nat} {x n : Nat} (hY : Sqm (M 239) S) (hV : VS S) (hK : PKS M S) (h1 : M 234 24 = nI l.length) (h2 : ∀ i, i < l.length → M 247 i = cY (l.getD i 30)) (hl : l.length ≤ 19) (hl1 : 1 ≤ l.length) (hle : ∀ i, i < l.length → l.getD i 30 ≤ 30) (hx : x < 2147483647) (hn : n ≤ 20) (hp : ∀ j, j < S 3 → S (20 + j) + n ≤ 9999) : ∃ M', loopF (fun z => b_X8_toss_118 z.2.2.2 (nI n) z.1 z.2.1 z.2.2.1) FUEL (lN x, 0, 0, M) = some (nI (tN S l x n), M') ∧ Sqm (M' 239) (tS S l x n) ∧ ∀ a, a ≠ 239 → M' a = M a := by
  have hn5 := hV.2.1
  have key := loopF_rel (body := fun z => b_X8_toss_118 z.2.2.2 (nI n) z.1 z.2.1 z.2.2.1) n (fun t z => z.1 = lN (tX x t) ∧ z.2.1 = nI (tN S l x t) ∧ z.2.2.1 = nI t ∧ Sqm (z.2.2.2 239) (tS S l x t) ∧ (∀ a, a ≠ 239 → z.2.2.2 a = M a)) (fun r => r.1 = nI (tN S l x n) ∧ Sqm (r.2 239) (tS S l x n) ∧ (∀ a, a ≠ 239 → r.2 a = M a)) ?_ ?_ (fuel := FUEL) (FUEL_lt (by omega)) (s := (lN x, 0, 0, M)) ⟨rfl, rfl, rfl, hY, fun _ _ => rfl⟩
  · obtain ⟨⟨r1, r2⟩, g1, g2, g3⟩ := key
    dsimp only at g2 g3
    rw [g1, g2]
    exact ⟨r2, rfl, g3⟩
  · rintro t ⟨y1, y2, y3, M2⟩ ht ⟨rfl, rfl, rfl, g1, g2⟩
    dsimp only at g1 g2
    show ∃ s', b_X8_toss_118 M2 (nI n) (lN (tX x t)) _ (nI t) = _ ∧ _
    unfold b_X8_toss_118
    have hlt := tX_lt hx (t + 1)
    have hVt := tS_VS hV l x (t := t) (n := n) (by omega) hp
    have hmod : tX x (t + 1) % l.length < l.length := Nat.mod_lt _ (by omega)
    have hpk := pick_le (S := S) (w := wh S) (S 1) (l.getD (tX x (t + 1) % l.length) 30)
    rw [if_neg (nI_ge ht (by omega)), tX_step hx, nm_eq, g2 234 (by decide), h1, nI_l (by omega), chk_of (nzL_l (by omega) (by omega)), l_rem (by omega) (by omega) (by omega), l_i32, chk_of (inB_nI (by omega) (by omega)), nI_clamp (by omega), g2 247 (by decide), h2 _ hmod, nm_eq]
    have eN : tN S l x (t + 1) = if tPk S l x t = 0 then tN S l x t else tN S l x t + 1 := rfl
    have eS : tS S l x (t + 1) = if tPk S l x t = 0 then tS S l x t else su (tS S l x t) (20 + (tPk S l x t - 1)) (tS S l x t (20 + (tPk S l x t - 1)) + 1) := rfl
    have ep : pick S (wh S) (S 1) (l.getD (tX x (t + 1) % l.length) 30) = tPk S l x t := rfl
    have hle30 := hle _ hmod
    have h3 : tS S l x t 3 = S 3 := tS_ne S l x t (by omega)
    have hne : ∀ k, k < 30 → ¬ nI k = -1000000 := by
      intro k hk q
      have := congrArg Int32.toInt q
      rw [nI_toInt (by omega), show (-1000000 : Int32).toInt = -1000000 from rfl] at this
      omega
    have skip : tPk S l x t = 0 → ∃ s', j_X8_toss_171 M2 (nI n) (lN (tX x (t + 1))) (nI (tN S l x t)) (nI t) (-1000000) = some (.inl s') ∧ s'.1 = lN (tX x (t + 1)) ∧ s'.2.1 = nI (tN S l x (t + 1)) ∧ s'.2.2.1 = nI (t + 1) ∧ Sqm (s'.2.2.2 239) (tS S l x (t + 1)) ∧ (∀ a, a ≠ 239 → s'.2.2.2 a = M a) := by
      intro c
      unfold j_X8_toss_171
      rw [if_pos rfl, eN, eS, if_pos c, if_pos c, nI_1]
      exact ⟨_, rfl, rfl, rfl, rfl, g1, g2⟩
    by_cases hcell : l.getD (tX x (t + 1) % l.length) 30 < 30
    · have ec : cY (l.getD (tX x (t + 1) % l.length) 30) = nI (l.getD (tX x (t + 1) % l.length) 30) := if_pos hcell
      rw [ec, if_neg (hne _ hcell), chk_of (inB_nI hcell (by omega)), nI_clamp (by omega), g2 246 (by decide), hK _ hcell, ep]
      rw [ep] at hpk
      by_cases c : tPk S l x t = 0
      · have : pkY (tPk S l x t) = -1000000 := if_pos c
        rw [this]
        exact skip c
      · have hk : pkY (tPk S l x t) = nI (tPk S l x t - 1) := if_neg c
        rw [hk, eN, eS, if_neg c, if_neg c]
        generalize tPk S l x t = k at *
        have hj : k - 1 < tS S l x t 3 := by omega
        unfold j_X8_toss_171
        rw [if_neg (hne _ (by omega)), show (20 : Int32) + nI (k - 1) = nI (20 + (k - 1)) from nI_add 20 _, chk_of (inB_nI (by omega) (by omega)), chk_of (inB_nI (by omega) (by omega)), nm_eq, nI_clamp (by omega), (g1.2.2.2.2.1 _ hj).2.2.2, nI_1, nI_1, nI_1]
        refine ⟨_, rfl, rfl, rfl, rfl, ?_, fun a ha => ?_⟩
        · dsimp only
          rw [mset_self]
          exact sqm_su g1 hVt hj _ (Or.inr rfl)
        · dsimp only
          rw [mset_ne _ _ _ ha, g2 a ha]
    · have ec : cY (l.getD (tX x (t + 1) % l.length) 30) = -1000000 := if_neg hcell
      rw [ec, if_pos rfl]
      refine skip ?_
      rw [← ep]
      unfold pick
      rw [if_neg (fun z => hcell z.1)]
  · rintro ⟨y1, y2, y3, M2⟩ ⟨rfl, rfl, rfl, g1, g2⟩
    show ∃ r, b_X8_toss_118 M2 (nI n) _ _ (nI n) = _ ∧ _
    unfold b_X8_toss_118
    rw [if_pos (nI_le (Nat.le_refl _) (by omega))]
    exact ⟨_, rfl, rfl, g1, g2⟩
def mst (S : Nat → Nat) : Nat → Nat
  | 0 => 0
  | i + 1 => if mst S i < S (20 + i) then S (20 + i) else mst S i
theorem mst_iff (S : Nat → Nat) (n : Nat) (hn : n ≤ 9999) (k : Nat) : mst S k + n ≤ 9999 ↔ ∀ j, j < k → S (20 + j) + n ≤ 9999 := by
  induction k with
  | zero => exact ⟨fun _ j hj => absurd hj (by omega), fun _ => by show 0 + n ≤ 9999; omega⟩
  | succ k ih =>
    unfold mst
    by_cases c : mst S k < S (20 + k)
    · rw [if_pos c]
      constructor
      · intro h j hj
        by_cases e : j = k
        · rw [e]; exact h
        · exact ih.mp (by omega) j (by omega)
      · intro h
        exact h k (by omega)
    · rw [if_neg c]
      constructor
      · intro h j hj
        by_cases e : j = k
        · rw [e]; omega
        · exact ih.mp h j (by omega)
      · intro h
        exact ih.mpr fun j hj => h j (by omega)
theorem mst_le {S : Nat → Nat} (hV : VS S) {k : Nat} (hk : k ≤ S 3) : mst S k ≤ 9999 := by
  induction k with
  | zero => exact Nat.zero_le _
  | succ k ih =>
    have := (hV.2.2.2.2.2 k (by omega)).2.2.2
    unfold mst
    by_cases c : mst S k < S (20 + k)
    · rw [if_pos c]; exact this
    · rw [if_neg c]; exact ih (by omega)
theorem xmost {M : Mem} {S : Nat → Nat} (hX : Sqx M 4 S) (hV : VS S) : m_X5_mostPennies M 4 = some (nI (mst S (S 3))) := by
  have hn := hV.2.1
  unfold m_X5_mostPennies
  have key := loopF_for (body := fun z => b_X5_mostPennies_4 M 4 z.1 z.2) 5 (fun i => (nI (mst S (min i (S 3))), nI i)) (nI (mst S (S 3))) FUEL (FUEL_lt (by omega)) ?_ ?_
  · rw [Nat.zero_min] at key
    have e0 : ((0 : Int32), (0 : Int32)) = (nI (mst S 0), nI 0) := rfl
    rw [e0, key]
    rfl
  · intro i hi
    show b_X5_mostPennies_4 M 4 _ (nI i) = _
    unfold b_X5_mostPennies_4
    rw [if_neg (by rw [show (5 : Int32) = nI 5 from rfl]; exact nI_ge hi (by omega))]
    by_cases hj : i < S 3
    · rw [xat hX hV hj, Option.bind_some]
      show chk (kdB (4 + 1 + 1 + i) 2) _ = _
      have v4 := (hV.2.2.2.2.2 i hj).2.2.2
      have hm := mst_le hV (k := i) (by omega)
      rw [chk_of (kdB_of (kd_ch (q := 4) (by decide) i hi)), (hX.2.2.2.2 i hj).2.2.2, nm_eq, nI_1]
      have e1 : min i (S 3) = i := by omega
      have e2 : min (i + 1) (S 3) = i + 1 := by omega
      rw [e1, e2]
      conv => rhs; rw [mst]
      dsimp only
      by_cases c : mst S i < S (20 + i)
      · rw [if_pos (nI_lt c (by omega)), if_pos c]
      · rw [if_neg (nI_nlt (by omega) (by omega)), if_neg c]
    · rw [xat_none hX hV (by unfold inN; rw [nI_toInt (by omega)]; omega), Option.bind_some]
      have e1 : min i (S 3) = S 3 := by omega
      have e2 : min (i + 1) (S 3) = S 3 := by omega
      rw [e1, e2, ← nI_1]
      rfl
  · show b_X5_mostPennies_4 M 4 _ (nI 5) = _
    unfold b_X5_mostPennies_4
    rw [if_pos (by decide)]
    have e1 : min 5 (S 3) = S 3 := by omega
    rw [e1]
theorem yfull {M : Mem} {S : Nat → Nat} (hY : Sqm (M 239) S) (hV : VS S) (x1 x2 x4 : Int32) {n k0 : Nat} (hn : n ≤ 20) (hk : k0 ≤ S 3) (hc : ∀ j, j < k0 → S (20 + j) + n ≤ 9999) (hb : k0 < S 3 → ¬ S (20 + k0) + n ≤ 9999) : loopF (fun z => b_X8_toss_51 M x1 x2 (nI n) x4 z) FUEL 0 = some (if k0 = S 3 then .inl () else .inr (-1000003, M)) := by
  have hn5 := hV.2.1
  have i3 : (3 : Int32).toNatClampNeg = 3 := rfl
  have key := loopF_for (body := fun z => b_X8_toss_51 M x1 x2 (nI n) x4 z) k0 (fun t => nI t) (if k0 = S 3 then .inl () else .inr (-1000003, M)) FUEL (FUEL_lt (by omega)) ?_ ?_
  · exact key
  · intro t ht
    show b_X8_toss_51 M x1 x2 (nI n) x4 (nI t) = _
    unfold b_X8_toss_51
    rw [chk_of (by decide), i3, hY.2.2.1, if_neg (nI_ge (by omega) (by omega)), show (20 : Int32) + nI t = nI (20 + t) from nI_add 20 t, chk_of (inB_nI (by omega) (by omega)), nI_clamp (by omega), (hY.2.2.2.2.1 t (by omega)).2.2.2, nI_add, if_pos (by rw [show (9999 : Int32) = nI 9999 from rfl]; exact nI_le (hc t ht) (by omega)), nI_1]
  · show b_X8_toss_51 M x1 x2 (nI n) x4 (nI k0) = _
    unfold b_X8_toss_51
    rw [chk_of (by decide), i3, hY.2.2.1]
    by_cases q : k0 = S 3
    · rw [if_pos (nI_le (by omega) (by omega)), if_pos q]
    · have v4 := (hV.2.2.2.2.2 k0 (by omega)).2.2.2
      rw [if_neg (nI_ge (by omega) (by omega)), show (20 : Int32) + nI k0 = nI (20 + k0) from nI_add 20 k0, chk_of (inB_nI (by omega) (by omega)), nI_clamp (by omega), (hY.2.2.2.2.1 k0 (by omega)).2.2.2, nI_add, if_neg (by rw [show (9999 : Int32) = nI 9999 from rfl]; exact nI_ge (by have := hb (by omega); omega) (by omega)), if_neg q]
theorem ag_toss {M : Mem} (h : Inv M) (a b c d : Int32) : AgWW (m_X7_toss M a b c d) (fun M1 => m_X8_toss M1 a b c d) := by
  obtain ⟨S, hS⟩ := h.2.2.1
  have hV := hS.2.2.1
  have hn5 := hV.2.1
  have i0 : (0 : Int32).toNatClampNeg = 0 := rfl
  have z1 : (1 : Int32).toInt = 1 := rfl
  have z20 : (20 : Int32).toInt = 20 := rfl
  unfold m_X7_toss m_X8_toss
  rw [hS.1.1]
  by_cases h0 : nI (S 0) = 0
  · rw [if_pos h0]
    refine ww_same h (r := -1000002) rfl ?_
    rw [chk_of (by decide), i0, hS.2.1.1, if_pos h0]
  · rw [if_neg h0]
    rcases gthrow M M a b with ⟨cl, s, hc, hs, rfl, rfl, g1, g2, g3⟩ | ⟨g3, g⟩
    · rw [g1, Option.bind_some, if_neg n10, g2, Option.bind_some, if_neg n10]
      rcases gin M c 1 20 1 20 rfl rfl with ⟨p1, p2, p3⟩ | ⟨p1, p3⟩
      · obtain ⟨n, hn, rfl⟩ := inN_nI (x := c) (N := 21) ⟨by omega, by omega⟩
        rw [nI_toInt (by omega)] at p1
        rw [if_neg (by rw [show (1 : Int32) = nI 1 from rfl]; exact nI_nlt (by omega) (by omega)), if_neg (by rw [show (20 : Int32) = nI 20 from rfl]; exact nI_nlt (by omega) (by omega))]
        rcases gin M d 1 999999 1 999999 rfl rfl with ⟨q1, q2, q3⟩ | ⟨q1, q3⟩
        · obtain ⟨x, hx, rfl⟩ := inN_nI (x := d) (N := 1000000) ⟨by omega, by omega⟩
          rw [nI_toInt (by omega)] at q1
          rw [if_neg (by rw [show (1 : Int32) = nI 1 from rfl]; exact nI_nlt (by omega) (by omega)), if_pos (by rw [show (999999 : Int32) = nI 999999 from rfl]; exact nI_le (by omega) (by omega)), xmost hS.1 hV, Option.bind_some, nI_add]
          have hmst := mst_le hV (Nat.le_refl (S 3))
          have ytop : ∀ M' : Mem, M' 239 = M 239 → m_X8_toss M' (nI cl) (nI s) (nI n) (nI x) = ((loopF (fun z => b_X8_toss_51 M' (nI cl) (nI s) (nI n) (nI x) z) FUEL 0).bind fun z7 => sumC z7 (fun z8 => (m_X8_keeps M').bind fun r9 => (m_X8_lays r9).bind fun r10 => (m_X8_laysPicks r10).bind fun r11 => (m_X8_laysWays r11 (nI cl) (nI s)).bind fun r12 => nm (nI x).toInt64 fun y13 => (loopF (fun z => b_X8_toss_118 z.2.2.2 (nI n) z.1 z.2.1 z.2.2.1) FUEL (y13, 0, 0, r12)).bind fun z22 => some ((z22.1, z22.2))) (fun z => some z)) := by
            intro M' hM
            have k4 : m_X8_isThrow M' (nI cl) (nI s) = some 1 := by
              rcases gthrow M M' (nI cl) (nI s) with ⟨_, _, -, -, -, -, -, -, k4⟩ | ⟨-, k5⟩
              · exact k4
              · rcases k5 with k5 | ⟨-, k5⟩
                · rw [g1] at k5; exact absurd k5 (by decide)
                · rw [g2] at k5; exact absurd k5 (by decide)
            have k5 : m_X8_in M' (nI n).toInt64 1 20 = some 1 := by
              rw [m_inI M' (nI n) 1 20 1 20 rfl rfl, nI_toInt (by omega), if_pos (by omega)]
            have k6 : m_X8_in M' (nI x).toInt64 1 999999 = some 1 := by
              rw [m_inI M' (nI x) 1 999999 1 999999 rfl rfl, nI_toInt (by omega), if_pos (by omega)]
            unfold m_X8_toss
            rw [chk_of (by decide), i0, hM, hS.2.1.1, if_neg h0, k4, Option.bind_some, if_neg n10, k5, Option.bind_some, if_neg n10, k6, Option.bind_some, if_neg n10]
          obtain ⟨k0, c1, c2, c3⟩ := least_bad (fun j => S (20 + j) + n ≤ 9999) (S 3)
          by_cases hf : mst S (S 3) + n ≤ 9999
          · have hp := (mst_iff S n (by omega) (S 3)).mp hf
            have hk0 : k0 = S 3 := by
              by_cases q : k0 < S 3
              · exact absurd (hp k0 q) (c3 q)
              · omega
            rw [if_pos (by rw [show (9999 : Int32) = nI 9999 from rfl]; exact nI_le hf (by omega))]
            obtain ⟨m, p, A, hXA, hYA, hVA⟩ := acts_split h.2.2.2.1
            obtain ⟨M1, p', k1, k2, k3⟩ := xkeep hXA hVA hS.1 hV
            obtain ⟨M2, x1, x2⟩ := xthrow (M0 := M1) hc hs
            obtain ⟨o1, o2, o3⟩ := way_ok hc hs
            have hX1 : Sqx M1 4 S := hS.1.eq hV (k3 4 (by omega)) (fun j hj => k3 _ (by omega))
            have hX2 : Sqx M2 4 S := hX1.eq hV (x2.2.2 4 (by decide) (by decide)) (fun j hj => x2.2.2 _ (by omega) (by omega))
            obtain ⟨M3, t1, t2, t3, t4⟩ := xtoss hX2 hV ⟨x2.1, x2.2.1, fun _ _ _ => rfl⟩ (by omega) o2 (x := x) (n := n) (by omega) (by omega) hp
            rw [k1, Option.bind_some, x1, Option.bind_some, t1, Option.bind_some]
            have gx : ∀ a, ¬ (4 ≤ a ∧ a ≤ 24) → ¬ (196 ≤ a ∧ a ≤ 201) → M3 a = M1 a := fun a h1 h2 => by rw [t3 a (by omega), x2.2.2 a (by omega) (by omega)]
            have e3 : ∀ a, 202 ≤ a → M3 a = M a := fun a ha => by rw [gx a (by omega) (by omega), k3 a (by omega)]
            obtain ⟨M4, y1, y2, y3, y4⟩ := ykeeps (M := M3) (n := m) (A := A) (hYA.keep (by rw [e3 234 (by omega)]) (by rw [e3 241 (by omega)])) hXA.1 hVA (by rw [e3 239 (by omega)]; exact hS.2.1) hV
            have hY4 : Sqm (M4 239) S := by rw [y3 239 (by decide) (by decide), e3 239 (by omega)]; exact hS.2.1
            obtain ⟨M5, l1, l2, l3, l4⟩ := ylays hY4 hV
            have hY5 : Sqm (M5 239) S := by rw [l3 239 (by decide) (by decide)]; exact hY4
            obtain ⟨M6, u1, u2, u3⟩ := ylaysPicks hY5 hV l4
            obtain ⟨M7, w1, w2⟩ := ythrow (M0 := M6) hc hs
            have hY7 : Sqm (M7 239) S := by rw [w2.2.2.1 239 (by decide) (by decide), u2 239 (by decide)]; exact hY5
            obtain ⟨M8, v1, v2, v3⟩ := ytoss (M := M7) (l := wayL cl s) (x := x) (n := n) hY7 hV (fun c hc => by rw [w2.2.2.1 246 (by decide) (by decide)]; exact u3 c hc) w2.1 w2.2.1 o1 o2 o3 (by omega) (by omega) hp
            refine ⟨nI (tN S (wayL cl s) x n), M3, M8, rfl, ?_, ?_⟩
            · show m_X8_toss M3 (nI cl) (nI s) (nI n) (nI x) = _
              have hyf := yfull (M := M3) (by rw [e3 239 (by omega)]; exact hS.2.1) hV (nI cl) (nI s) (nI x) (n := n) (by omega) c1 c2 c3
              rw [if_pos hk0] at hyf
              rw [ytop M3 (e3 239 (by omega)), hyf, Option.bind_some]
              dsimp only [sumC]
              rw [y1, Option.bind_some, l1, Option.bind_some, u1, Option.bind_some, w1, Option.bind_some, nI_l (by omega), nm_eq, v1]
              rfl
            · have l5 : ∀ j, j = 0 ∨ j = 5 ∨ j = 6 ∨ j = 10 ∨ j = 14 → M8 234 j = M4 234 j := by
                intro j h1
                rw [v3 234 (by decide), w2.2.2.2 j (by omega), u2 234 (by decide)]
                obtain ⟨-, -, b1, b2, b3, b4, b5⟩ := l2
                rcases h1 with rfl | rfl | rfl | rfl | rfl
                · exact b1
                · exact b2
                · exact b3
                · exact b4
                · exact b5
              refine inv_act (S' := tS S (wayL cl s) x n) h hXA.1 hVA hV k2 k3 gx y2 y3 y4 (fun a h1 h2 h3 => ?_) l5 t2 v2 (tS_VS hV _ _ (Nat.le_refl _) hp) (fun j hj => ?_)
              · rw [v3 a h1, w2.2.2.1 a h2 (by omega), u2 a (by omega), l3 a h2 (by omega)]
              · rw [t4 j hj, x2.2.2 _ (by omega) (by omega), k3 _ (by omega)]
                exact hS.2.2.2 j hj
          · rw [if_neg (by rw [show (9999 : Int32) = nI 9999 from rfl]; exact nI_ge (by omega) (by omega))]
            have hk0 : k0 ≠ S 3 := fun q => hf ((mst_iff S n (by omega) (S 3)).mpr (by rw [← q]; exact c2))
            refine ww_same h (r := -1000003) rfl ?_
            show m_X8_toss M (nI cl) (nI s) (nI n) (nI x) = _
            have hyf := yfull hS.2.1 hV (nI cl) (nI s) (nI x) (n := n) (by omega) c1 c2 c3
            rw [if_neg hk0] at hyf
            rw [ytop M rfl, hyf]
            rfl
        · refine ww_same h (r := -1000001) ?_ ?_
          · by_cases u1 : d < 1
            · rw [if_pos u1]
            · rw [if_neg u1, if_neg]
              intro u2
              apply q1
              have u : ¬ d.toInt < (1 : Int32).toInt := fun q => u1 (i32_lt.mpr q)
              have v := i32_le.mp u2
              rw [show (999999 : Int32).toInt = 999999 from rfl] at v
              omega
          · rw [chk_of (by decide), i0, hS.2.1.1, if_neg h0, g3, Option.bind_some, if_neg n10, p3, Option.bind_some, if_neg n10, q3]; rfl
      · refine ww_same h (r := -1000001) ?_ ?_
        · by_cases u1 : c < 1
          · rw [if_pos u1]
          · rw [if_neg u1]
            by_cases u2 : 20 < c
            · rw [if_pos u2]
            · exfalso
              apply p1
              have u : ¬ c.toInt < (1 : Int32).toInt := fun q => u1 (i32_lt.mpr q)
              have v : ¬ (20 : Int32).toInt < c.toInt := fun q => u2 (i32_lt.mpr q)
              omega
        · rw [chk_of (by decide), i0, hS.2.1.1, if_neg h0, g3, Option.bind_some, if_neg n10, p3]; rfl
    · refine ww_same h (r := -1000001) ?_ ?_
      · rcases g with g | ⟨g, g'⟩
        · rw [g]; rfl
        · rw [g, Option.bind_some, if_neg n10, g']; rfl
      · rw [chk_of (by decide), i0, hS.2.1.1, if_neg h0, g3]; rfl
