/-! ## a square taken from another; rounds -/
theorem xtake {M : Mem} {q p : Nat} {A : Nat → Nat} (hq : kd q = 5) (hp : kd p = 5) (hd : q + 6 < p ∨ p + 6 < q) (hX : Sqx M p A) (hV : VS A) : ∃ M', m_X5_takeFrom M q p = some M' ∧ Sqx M' q A ∧ (∀ a, a < q ∨ q + 6 < a → M' a = M a) ∧ M' q 0 = M q 0 ∧ ∀ j, j < 5 → M' (q + 1 + 1 + j) 0 = M (q + 1 + 1 + j) 0 := by
  obtain ⟨x1, x2, x3, x4, x5⟩ := hX
  have hn := hV.2.1
  have h01 : isZ (M p 1) = true := by
    rw [x1]
    have : ∀ k, k ≤ 1 → isZ (nI k) = true := by decide +kernel
    exact this _ hV.1
  have hne : p ≠ q := by omega
  unfold m_X5_takeFrom
  rw [chk_of h01, nm_eq, nm_eq, nm_eq, nm_eq]
  rw [mset_ne _ _ _ hne, mset_ne _ _ _ hne, mset_ne _ _ _ hne, mset_ne _ _ _ hne, mset_ne _ _ _ hne, mset_ne _ _ _ hne]
  generalize hM1 : mset (mset (mset (mset M q 1 (M p 1)) q 2 (M p 2)) q 3 (M p 3)) q 4 (M p 4) = M1
  have q0 : ∀ a, a ≠ q → M1 a = M a := fun a ha => by rw [← hM1, mset_ne _ _ _ ha, mset_ne _ _ _ ha, mset_ne _ _ _ ha, mset_ne _ _ _ ha]
  have q1 : M1 q 1 = nI (A 0) ∧ M1 q 2 = nI (A 1) ∧ M1 q 3 = nI (A 4) ∧ M1 q 4 = nI (A 3) ∧ M1 q 0 = M q 0 := by
    rw [← hM1]
    simp only [mset_self, upd_at]
    refine ⟨?_, ?_, ?_, ?_, ?_⟩
    · simpa using x1
    · simpa using x2
    · simpa using x3
    · simpa using x4
    · simp
  have at_q : ∀ M2 : Mem, M2 q = M1 q → ∀ i, i < 5 → m_X5_at M2 q (nI i) = some (if i < A 3 then some (q + 1 + 1 + i) else none) := by
    intro M2 h2 i hi
    unfold m_X5_at
    rw [if_neg (nI_pos (by omega)), h2, q1.2.2.2.1]
    by_cases z : i < A 3
    · rw [if_neg (nI_ge z (by omega)), if_neg (by rw [show (5 : Int32) = nI 5 from rfl]; exact nI_ge (by omega) (by omega)), chk_of (inB_nI (by omega) (by omega)), nI_clamp (by omega), if_pos z]
    · rw [if_pos (nI_le (by omega) (by omega)), if_neg z]
  have at_p : ∀ M2 : Mem, M2 p = M p → ∀ i, i < 5 → m_X5_at M2 p (nI i) = some (if i < A 3 then some (p + 1 + 1 + i) else none) := by
    intro M2 h2 i hi
    unfold m_X5_at
    rw [if_neg (nI_pos (by omega)), h2, x4]
    by_cases z : i < A 3
    · rw [if_neg (nI_ge z (by omega)), if_neg (by rw [show (5 : Int32) = nI 5 from rfl]; exact nI_ge (by omega) (by omega)), chk_of (inB_nI (by omega) (by omega)), nI_clamp (by omega), if_pos z]
    · rw [if_pos (nI_le (by omega) (by omega)), if_neg z]
  have key := loopF_rel (body := fun z => b_X5_takeFrom_34 z.2 q p z.1) 5 (fun i z => z.1 = nI i ∧ (∀ a, a < q ∨ q + 6 < a → z.2 a = M a) ∧ z.2 q = M1 q ∧ (∀ j, j < 5 → z.2 (q + 1 + 1 + j) 0 = M (q + 1 + 1 + j) 0) ∧ ∀ j, j < i → j < A 3 → z.2 (q + 1 + 1 + j) 1 = nI (A (5 + j)) ∧ z.2 (q + 1 + 1 + j) 2 = nI (A (10 + j)) ∧ z.2 (q + 1 + 1 + j) 3 = nI (A (15 + j)) ∧ z.2 (q + 1 + 1 + j) 4 = nI (A (20 + j))) (fun M' => Sqx M' q A ∧ (∀ a, a < q ∨ q + 6 < a → M' a = M a) ∧ M' q 0 = M q 0 ∧ ∀ j, j < 5 → M' (q + 1 + 1 + j) 0 = M (q + 1 + 1 + j) 0) ?_ ?_ (fuel := FUEL) (FUEL_lt (by omega)) (s := (0, M1)) ⟨rfl, fun a ha => q0 a (by omega), rfl, fun j hj => congrFun (q0 _ (by omega)) 0, fun j hj => absurd hj (by omega)⟩
  · obtain ⟨r, h1, h2⟩ := key
    exact ⟨r, by rw [h1]; rfl, h2⟩
  · rintro i ⟨x, M2⟩ hi ⟨rfl, h1, h2, h3, h4⟩
    dsimp only at h1 h2 h3 h4
    show ∃ s', b_X5_takeFrom_34 M2 q p (nI i) = _ ∧ _
    unfold b_X5_takeFrom_34
    rw [if_neg (by rw [show (5 : Int32) = nI 5 from rfl]; exact nI_ge hi (by omega)), at_q M2 h2 i hi, at_p M2 (h1 p (by omega)) i hi, Option.bind_some, Option.bind_some]
    by_cases z : i < A 3
    · rw [if_pos z, if_pos z]
      show ∃ s', chk (kdB (q + 1 + 1 + i) 2) (chk (kdB (p + 1 + 1 + i) 2) _) = _ ∧ _
      rw [chk_of (kdB_of (kd_ch hq i hi)), chk_of (kdB_of (kd_ch hp i hi))]
      unfold m_X2_takeFrom
      have hne2 : p + 1 + 1 + i ≠ q + 1 + 1 + i := by omega
      rw [nm_eq, nm_eq, nm_eq, nm_eq, mset_ne _ _ _ hne2, mset_ne _ _ _ hne2, mset_ne _ _ _ hne2, mset_ne _ _ _ hne2, mset_ne _ _ _ hne2, mset_ne _ _ _ hne2, Option.bind_some, nI_1]
      have hps : M2 (p + 1 + 1 + i) = M (p + 1 + 1 + i) := h1 _ (by omega)
      obtain ⟨c1, c2, c3, c4⟩ := x5 i z
      rw [hps, c1, c2, c3, c4]
      refine ⟨_, rfl, rfl, fun a ha => ?_, ?_, fun j hj => ?_, fun j hj hj3 => ?_⟩
      · dsimp only
        have ha' : a ≠ q + 1 + 1 + i := by omega
        rw [mset_ne _ _ _ ha', mset_ne _ _ _ ha', mset_ne _ _ _ ha', mset_ne _ _ _ ha', h1 a ha]
      · dsimp only
        have ha' : q ≠ q + 1 + 1 + i := by omega
        rw [mset_ne _ _ _ ha', mset_ne _ _ _ ha', mset_ne _ _ _ ha', mset_ne _ _ _ ha', h2]
      · dsimp only
        by_cases e : j = i
        · subst e
          simp only [mset_self, upd_at]
          simpa using h3 j hj
        · have ha' : q + 1 + 1 + j ≠ q + 1 + 1 + i := by omega
          rw [mset_ne _ _ _ ha', mset_ne _ _ _ ha', mset_ne _ _ _ ha', mset_ne _ _ _ ha', h3 j hj]
      · dsimp only
        by_cases e : j = i
        · subst e
          simp only [mset_self, upd_at]
          simp
        · have ha' : q + 1 + 1 + j ≠ q + 1 + 1 + i := by omega
          rw [mset_ne _ _ _ ha', mset_ne _ _ _ ha', mset_ne _ _ _ ha', mset_ne _ _ _ ha']
          exact h4 j (by omega) hj3
    · rw [if_neg z, if_neg z, nI_1]
      exact ⟨_, rfl, rfl, h1, h2, h3, fun j hj hj3 => h4 j (by omega) hj3⟩
  · rintro ⟨x, M2⟩ ⟨rfl, h1, h2, h3, h4⟩
    dsimp only at h1 h2 h3 h4
    show ∃ r, b_X5_takeFrom_34 M2 q p (nI 5) = _ ∧ _
    unfold b_X5_takeFrom_34
    rw [if_pos (by decide)]
    refine ⟨M2, rfl, ⟨by rw [h2]; exact q1.1, by rw [h2]; exact q1.2.1, by rw [h2]; exact q1.2.2.1, by rw [h2]; exact q1.2.2.2.1, fun j hj => h4 j (by omega) hj⟩, h1, by rw [h2]; exact q1.2.2.2.2, h3⟩
/-- the square with its children at w -/
def Sw (S w : Nat → Nat) : Nat → Nat := fun x => if 15 ≤ x ∧ x < 20 then w (x - 15) else S x
theorem Sw_ne (S w : Nat → Nat) {x : Nat} (h : x < 15 ∨ 20 ≤ x) : Sw S w x = S x := if_neg (by omega)
theorem Sw_at (S w : Nat → Nat) {j : Nat} (h : j < 5) : Sw S w (15 + j) = w j := by
  unfold Sw
  rw [if_pos (by omega), show 15 + j - 15 = j by omega]
theorem VS.sw {S w : Nat → Nat} (hV : VS S) (hw : ∀ j, j < S 3 → w j < 30) : VS (Sw S w) := by
  obtain ⟨a1, a2, a3, a4, a5, a6⟩ := hV
  unfold VS
  rw [Sw_ne S w (x := 0) (by omega), Sw_ne S w (x := 3) (by omega), Sw_ne S w (x := 1) (by omega), Sw_ne S w (x := 4) (by omega)]
  refine ⟨a1, a2, a3, a4, a5, fun j hj => ?_⟩
  obtain ⟨b1, b2, b3, b4⟩ := a6 j hj
  rw [Sw_ne S w (x := 5 + j) (by omega), Sw_ne S w (x := 10 + j) (by omega), Sw_ne S w (x := 20 + j) (by omega), Sw_at S w (by omega)]
  exact ⟨b1, b2, hw j hj, b4⟩
theorem bst_congr {P Q : Nat → Nat} {n : Nat} (h : ∀ j, j < n → P j = Q j) : bst P n = bst Q n := by
  induction n with
  | zero => rfl
  | succ n ih =>
    unfold bst
    rw [ih (fun j hj => h j (by omega)), h n (by omega)]
theorem pick_congr {S S' w w' : Nat → Nat} {h c : Nat} (h3 : S' 3 = S 3) (h4 : S' 4 = S 4) (hj : ∀ j, j < S 3 → S' (5 + j) = S (5 + j) ∧ S' (10 + j) = S (10 + j) ∧ w' j = w j) : pick S' w' h c = pick S w h c := by
  unfold pick dry
  rw [h4, h3]
  have e : bst (PW S' w' h c) (S 3) = bst (PW S w h c) (S 3) := by
    apply bst_congr
    intro j hj'
    obtain ⟨a, b, d⟩ := hj j hj'
    unfold PW
    rw [a, b, d]
  rw [e]
theorem atN_congr {S S' w w' : Nat → Nat} {h j : Nat} {l : List Nat} (h3 : S' 3 = S 3) (h4 : S' 4 = S 4) (hj : ∀ j, j < S 3 → S' (5 + j) = S (5 + j) ∧ S' (10 + j) = S (10 + j) ∧ w' j = w j) (k : Nat) : atN S' w' h j l k = atN S w h j l k := by
  unfold atN
  rw [picksN_eq, picksN_eq]
  apply List.countP_congr
  intro c _
  rw [pick_congr h3 h4 (w := movd w j k)]
  intro i hi
  obtain ⟨a, b, d⟩ := hj i hi
  refine ⟨a, b, ?_⟩
  unfold movd
  rw [d]
theorem stdN_sw {S w : Nat → Nat} (hV : VS S) (l : List Nat) (j : Nat) : stdN (Sw S w) j l = (lgst (atN S w (S 1) j l) 30).1 := by
  unfold stdN
  rw [Sw_ne S w (x := 1) (by omega)]
  have : lgst (atN (Sw S w) (wh (Sw S w)) (S 1) j l) 30 = lgst (atN S w (S 1) j l) 30 := by
    apply lgst_congr
    intro k _
    apply atN_congr (Sw_ne S w (by omega)) (Sw_ne S w (by omega))
    intro i hi
    have := hV.2.1
    exact ⟨Sw_ne S w (by omega), Sw_ne S w (by omega), Sw_at S w (by omega)⟩
  rw [this]
/-- one after another goes where his stand is -/
def rd (S : Nat → Nat) (l : List Nat) (w : Nat → Nat) : Nat → Bool × (Nat → Nat)
  | 0 => (false, w)
  | i + 1 => ((rd S l w i).1 || decide ((rd S l w i).2 i ≠ (lgst (atN S (rd S l w i).2 (S 1) i l) 30).1), movd (rd S l w i).2 i (lgst (atN S (rd S l w i).2 (S 1) i l) 30).1)
theorem std_lt (S w : Nat → Nat) (h j : Nat) (l : List Nat) : (lgst (atN S w h j l) 30).1 < 30 := by
  have key : ∀ n, (lgst (atN S w h j l) n).1 ≤ n - 1 := by
    intro n
    induction n with
    | zero => exact Nat.le_refl _
    | succ n ih =>
      unfold lgst
      by_cases c : (lgst (atN S w h j l) n).2 < atN S w h j l n + 1
      · rw [if_pos c]
        exact Nat.le_refl _
      · rw [if_neg c]
        omega
  have := key 30
  omega
theorem rd_lt {S w : Nat → Nat} {l : List Nat} (hw : ∀ j, j < S 3 → w j < 30) (i : Nat) : ∀ j, j < S 3 → (rd S l w i).2 j < 30 := by
  induction i with
  | zero => exact hw
  | succ i ih =>
    intro j hj
    show movd _ _ _ j < 30
    unfold movd
    by_cases e : j = i
    · rw [if_pos e]
      exact std_lt _ _ _ _ _
    · rw [if_neg e]
      exact ih j hj
/-- round by round: in which (0: more), where they are then -/
def stl (S : Nat → Nat) (l : List Nat) : Nat → Nat → (Nat → Nat) → Nat × (Nat → Nat)
  | 0, _, w => (0, w)
  | n + 1, r, w => if (rd S l w (S 3)).1 = false then (r, (rd S l w (S 3)).2) else stl S l n (r + 1) (rd S l w (S 3)).2
def bI (b : Bool) : Int32 := if b = true then 1 else 0
/-- what stays of the class while it tries out -/
def TR (M M' : Mem) : Prop := ∀ a, (a < 18 ∨ 24 < a) → a ≠ 198 → M' a = M a
theorem xsettle_round {M : Mem} {S w : Nat → Nat} {l : List Nat} (x1 : Int32) (hV : VS S) (hw : ∀ j, j < S 3 → w j < 30) (hX : Sqx M 18 (Sw S w)) (hP : PX M M l) (hl : l.length ≤ 20) : ∃ M', loopF (fun z => b_X7_settle_12 z.2.2 x1 z.1 z.2.1) FUEL (0, 0, M) = some (bI (rd S l w (S 3)).1, M') ∧ Sqx M' 18 (Sw S (rd S l w (S 3)).2) ∧ TR M M' := by
  have hn := hV.2.1
  have key := loopF_rel (body := fun z => b_X7_settle_12 z.2.2 x1 z.1 z.2.1) 5 (fun i z => z.1 = bI (rd S l w (min i (S 3))).1 ∧ z.2.1 = nI i ∧ Sqx z.2.2 18 (Sw S (rd S l w (min i (S 3))).2) ∧ TR M z.2.2) (fun r => r.1 = bI (rd S l w (S 3)).1 ∧ Sqx r.2 18 (Sw S (rd S l w (S 3)).2) ∧ TR M r.2) ?_ ?_ (fuel := FUEL) (FUEL_lt (by omega)) (s := (0, 0, M)) ⟨by rw [Nat.zero_min]; rfl, rfl, by rw [Nat.zero_min]; exact hX, fun _ _ _ => rfl⟩
  · obtain ⟨⟨r1, r2⟩, h1, h2, h3⟩ := key
    dsimp only at h2 h3
    rw [h1, h2]
    exact ⟨r2, rfl, h3⟩
  · rintro i ⟨y2, y3, M2⟩ hi ⟨rfl, rfl, h1, h2⟩
    dsimp only at h1 h2
    show ∃ s', b_X7_settle_12 M2 x1 _ (nI i) = _ ∧ _
    unfold b_X7_settle_12
    rw [if_neg (by rw [show (5 : Int32) = nI 5 from rfl]; exact nI_ge hi (by omega))]
    have hV2 := hV.sw (rd_lt (l := l) hw (min i (S 3)))
    have e3 : Sw S (rd S l w (min i (S 3))).2 3 = S 3 := Sw_ne _ _ (by omega)
    by_cases z : i < S 3
    · have e1 : min i (S 3) = i := by omega
      have e2 : min (i + 1) (S 3) = i + 1 := by omega
      rw [e1] at h1 hV2 e3 ⊢
      rw [e2]
      generalize hw2 : (rd S l w i).2 = w2 at *
      rw [xat h1 hV2 (by rw [e3]; exact z), Option.bind_some]
      show ∃ s', chk (kdB (18 + 1 + 1 + i) 2) _ = _ ∧ _
      have hk := kd_ch (q := 18) (by decide) i hi
      have hP2 : PX M2 M2 l := ⟨by rw [h2 196 (by decide) (by decide)]; exact hP.1, by rw [h2 197 (by decide) (by decide)]; exact hP.2.1, fun _ _ _ => rfl⟩
      obtain ⟨M3, b1, b2⟩ := xbest (q := 18) (by decide) h1 hV2 hP2 hl (by omega) (j := i) (by rw [e3]; exact z)
      rw [stdN_sw hV] at b1
      rw [chk_of (kdB_of hk), b1, Option.bind_some]
      have hX3 : Sqx M3 18 (Sw S w2) := h1.eq hV2 (b2 18 (by decide)) (fun j hj => b2 _ (by omega))
      have hc := (hX3.2.2.2.2 i (by rw [e3]; exact z)).2.2.1
      rw [Sw_at _ _ (by omega)] at hc
      have hT3 : TR M M3 := fun a ha hb => by rw [b2 a hb]; exact h2 a ha hb
      have hlt := std_lt S w2 (S 1) i l
      have hwi : w2 i < 30 := by rw [← hw2]; exact rd_lt hw i i z
      have er : rd S l w (i + 1) = ((rd S l w i).1 || decide (w2 i ≠ (lgst (atN S w2 (S 1) i l) 30).1), movd w2 i (lgst (atN S w2 (S 1) i l) 30).1) := by rw [← hw2]; rfl
      rw [er]
      generalize (lgst (atN S w2 (S 1) i l) 30).1 = t at *
      show ∃ s', j_X7_settle_45 M3 x1 _ (nI i) (some (18 + 1 + 1 + i)) (nI t) = _ ∧ _
      unfold j_X7_settle_45
      show ∃ s', chk (kdB (18 + 1 + 1 + i) 2) _ = _ ∧ _
      rw [chk_of (kdB_of hk), hc, nI_1]
      by_cases e : w2 i = t
      · rw [if_pos (by rw [e])]
        refine ⟨_, rfl, ?_, rfl, ?_, hT3⟩
        · dsimp only
          simp [e]
        · dsimp only
          have : Sw S (movd w2 i t) = Sw S w2 := by
            funext x
            unfold Sw movd
            by_cases q : 15 ≤ x ∧ x < 20
            · rw [if_pos q, if_pos q]
              by_cases q2 : x - 15 = i
              · rw [if_pos q2, q2, e]
              · rw [if_neg q2]
            · rw [if_neg q, if_neg q]
          rw [this]
          exact hX3
      · rw [if_neg (by rw [nI_eq (by omega) (by omega)]; exact e), nm_eq]
        refine ⟨_, rfl, ?_, rfl, ?_, ?_⟩
        · dsimp only
          simp [e, bI]
        · dsimp only
          obtain ⟨f1, f2, f3, f4, f5⟩ := hX3
          have hz : 18 ≠ 18 + 1 + 1 + i := by omega
          refine ⟨by rw [mset_ne _ _ _ hz]; exact f1, by rw [mset_ne _ _ _ hz]; exact f2, by rw [mset_ne _ _ _ hz]; exact f3, by rw [mset_ne _ _ _ hz]; exact f4, fun j hj => ?_⟩
          have e3' : Sw S (movd w2 i t) 3 = S 3 := Sw_ne _ _ (by omega)
          rw [e3'] at hj
          have := f5 j (by rw [e3]; exact hj)
          rw [Sw_ne _ _ (x := 5 + j) (by omega), Sw_ne _ _ (x := 10 + j) (by omega), Sw_ne _ _ (x := 20 + j) (by omega), Sw_at _ _ (by omega)] at this
          rw [Sw_ne _ _ (x := 5 + j) (by omega), Sw_ne _ _ (x := 10 + j) (by omega), Sw_ne _ _ (x := 20 + j) (by omega), Sw_at _ _ (by omega)]
          by_cases q : j = i
          · subst q
            simp only [mset_self, upd_at, movd]
            simpa using ⟨this.1, this.2.1, this.2.2.2⟩
          · rw [mset_ne _ _ _ (by omega)]
            unfold movd
            rw [if_neg q]
            exact this
        · intro a ha hb
          dsimp only
          rw [mset_ne _ _ _ (by omega)]
          exact hT3 a ha hb
    · have e1 : min i (S 3) = S 3 := by omega
      have e2 : min (i + 1) (S 3) = S 3 := by omega
      rw [e1] at h1 hV2 e3 ⊢
      rw [e2]
      generalize rd S l w (S 3) = p at *
      have ej : ∀ b, optC none (j_X7_settle_45 M2 x1 b (nI i) none (-1)) (fun a5 => chk (kdB a5 2) ((m_X7_bestCell M2 18 (nI i)).bind fun r7 => j_X7_settle_45 r7.2 x1 b (nI i) (some a5) r7.1)) = some (.inl (b, nI (i + 1), M2)) := by
        intro b
        rw [← nI_1]
        rfl
      rw [xat_none h1 hV2 (by unfold inN; rw [nI_toInt (by omega), e3]; omega), Option.bind_some, ej]
      exact ⟨_, rfl, rfl, rfl, h1, h2⟩
  · rintro ⟨y2, y3, M2⟩ ⟨rfl, rfl, h1, h2⟩
    dsimp only at h1 h2
    show ∃ r, b_X7_settle_12 M2 x1 _ (nI 5) = _ ∧ _
    unfold b_X7_settle_12
    rw [if_pos (by decide)]
    have e1 : min 5 (S 3) = S 3 := by omega
    rw [e1] at h1 ⊢
    exact ⟨_, rfl, rfl, h1, h2⟩
theorem ysettle_round {M : Mem} {l : List Nat} {S w : Nat → Nat} (x1 : Int32) (h1 : M 234 24 = nI l.length) (h2 : ∀ i, i < l.length → M 247 i = cY (l.getD i 30)) (hl : l.length ≤ 19) (hle : ∀ i, i < l.length → l.getD i 30 ≤ 30) (hY : Sqm (M 239) S) (hV : VS S) (hL : Lay M S w (S 1)) : ∃ M', loopF (fun z => b_X8_settles_12 z.2.2 x1 z.1 z.2.1) FUEL (0, 0, M) = some (bI (rd S l w (S 3)).1, M') ∧ Lay M' S (rd S l w (S 3)).2 (S 1) ∧ ∀ b, b ≠ 245 → M' b = M b := by
  have hn := hV.2.1
  have hw : ∀ j, j < S 3 → w j < 30 := fun j hj => (hL.2.2 j hj).2
  have i3 : (3 : Int32).toNatClampNeg = 3 := rfl
  have key := loopF_rel (body := fun z => b_X8_settles_12 z.2.2 x1 z.1 z.2.1) (S 3) (fun i z => z.1 = bI (rd S l w i).1 ∧ z.2.1 = nI i ∧ Lay z.2.2 S (rd S l w i).2 (S 1) ∧ ∀ b, b ≠ 245 → z.2.2 b = M b) (fun r => r.1 = bI (rd S l w (S 3)).1 ∧ Lay r.2 S (rd S l w (S 3)).2 (S 1) ∧ ∀ b, b ≠ 245 → r.2 b = M b) ?_ ?_ (fuel := FUEL) (FUEL_lt (by omega)) (s := (0, 0, M)) ⟨rfl, rfl, hL, fun _ _ => rfl⟩
  · obtain ⟨⟨r1, r2⟩, g1, g2, g3⟩ := key
    dsimp only at g2 g3
    rw [g1, g2]
    exact ⟨r2, rfl, g3⟩
  · rintro i ⟨y2, y3, M2⟩ hi ⟨rfl, rfl, g1, g2⟩
    dsimp only at g1 g2
    show ∃ s', b_X8_settles_12 M2 x1 _ (nI i) = _ ∧ _
    unfold b_X8_settles_12
    have hwi : (rd S l w i).2 i < 30 := rd_lt hw i i hi
    have er : rd S l w (i + 1) = ((rd S l w i).1 || decide ((rd S l w i).2 i ≠ (lgst (atN S (rd S l w i).2 (S 1) i l) 30).1), movd (rd S l w i).2 i (lgst (atN S (rd S l w i).2 (S 1) i l) 30).1) := rfl
    rw [er]
    generalize (rd S l w i).2 = w2 at *
    obtain ⟨M3, y1, y2, y3⟩ := ystand (M := M2) (by rw [g2 234 (by decide)]; exact h1) (by rw [g2 247 (by decide)]; exact h2) hl hle (by rw [g2 239 (by decide)]; exact hY) hV g1 hi
    rw [chk_of (by decide), i3, g2 239 (by decide), hY.2.2.1, if_neg (nI_ge hi (by omega)), y1, Option.bind_some, nm_eq]
    have hlt := std_lt S w2 (S 1) i l
    generalize (lgst (atN S w2 (S 1) i l) 30).1 = t at *
    have e49 : ∀ b : Bool, j_X8_settles_49 M3 x1 (nI i) (nI t) (bI b) = some (.inl (bI b, nI (i + 1), mset M3 245 i (nI t))) := by
      intro b
      unfold j_X8_settles_49
      rw [chk_of (inB_nI (by omega) (by omega)), nm_eq, nI_clamp (by omega), nI_1]
    have e44 : j_X8_settles_44 M3 x1 (nI i) (nI t) = some (.inl (bI true, nI (i + 1), mset M3 245 i (nI t))) := e49 true
    have fin : ∀ b : Bool, ∃ s' : Int32 × Int32 × Mem, (some (.inl (bI b, nI (i + 1), mset M3 245 i (nI t))) : Option ((Int32 × Int32 × Mem) ⊕ (Int32 × Mem))) = some (.inl s') ∧ s'.1 = bI b ∧ s'.2.1 = nI (i + 1) ∧ Lay s'.2.2 S (movd w2 i t) (S 1) ∧ ∀ b, b ≠ 245 → s'.2.2 b = M b := by
      intro b
      refine ⟨_, rfl, rfl, rfl, ?_, fun b hb => ?_⟩
      · obtain ⟨l1, l2, l3⟩ := g1
        refine ⟨?_, l2, fun j hj => ?_⟩
        · show mset M3 245 i (nI t) 234 21 = _
          rw [mset_ne _ _ _ (by decide), y2 234 (by decide)]
          exact l1
        · show mset M3 245 i (nI t) 245 j = _ ∧ _
          rw [mset_self, upd_at]
          unfold movd
          by_cases e : j = i
          · rw [if_pos e, if_pos e]
            exact ⟨rfl, hlt⟩
          · rw [if_neg e, if_neg e, y3 j (by omega)]
            exact l3 j hj
      · show mset M3 245 i (nI t) b = _
        rw [mset_ne _ _ _ hb, y2 b hb, g2 b hb]
    cases hb : (rd S l w i).1 with
    | true =>
      show ∃ s', (if bI true = 0 then _ else _) = _ ∧ _
      rw [if_neg (by decide), e44]
      rw [Bool.true_or]
      exact fin true
    | false =>
      show ∃ s', (if bI false = 0 then _ else _) = _ ∧ _
      rw [if_pos (show bI false = 0 from rfl)]
      dsimp only
      have e5 : M3 245 i = nI (w2 i) := by rw [y3 i (by omega), (g1.2.2 i hi).1]
      rw [chk_of (inB_nI (by omega) (by omega)), nI_clamp (by omega)]
      rw [Bool.false_or]
      by_cases e : w2 i = t
      · rw [if_pos (by rw [e5, e])]
        have e0 := e49 false
        have : decide (w2 i ≠ t) = false := by simp [e]
        rw [this]
        show ∃ s', j_X8_settles_49 M3 x1 (nI i) (nI t) (bI false) = _ ∧ _
        rw [e0]
        exact fin false
      · rw [if_neg (by rw [e5, nI_eq (by omega) (by omega)]; exact fun z => e z.symm), e44]
        have : decide (w2 i ≠ t) = true := by simp [e]
        rw [this]
        exact fin true
  · rintro ⟨y2, y3, M2⟩ ⟨rfl, rfl, g1, g2⟩
    dsimp only at g1 g2
    show ∃ r, b_X8_settles_12 M2 x1 _ (nI (S 3)) = _ ∧ _
    unfold b_X8_settles_12
    rw [chk_of (by decide), i3, g2 239 (by decide), hY.2.2.1, if_pos (nI_le (Nat.le_refl _) (by omega))]
    exact ⟨_, rfl, rfl, g1, g2⟩
