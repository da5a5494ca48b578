/-! ## the grammar -/
def nxt (t : Nat → Nat) (n : Nat) (T : Nat × Nat × Nat) : Nat × Nat × Nat := tok t n T.2.2
theorem nxt_TK {t : Nat → Nat} {n : Nat} {T : Nat × Nat × Nat} (h : TK t n T) : TK t n (nxt t n T) := tok_spec t h.2.1
def val (t : Nat → Nat) (T : Nat × Nat × Nat) : Int32 := vI' t T.1 (T.2.2 - T.1)
def pNum (t : Nat → Nat) (lo hi : Nat) (T : Nat × Nat × Nat) : (Nat × Nat) ⊕ Nat := if T.2.1 = 2 then (if (lo : Int) ≤ (val t T).toInt ∧ (val t T).toInt ≤ hi then .inr (val t T).toInt.toNat else .inl (2, T.1)) else .inl (1, T.1)
theorem pNum_r {t : Nat → Nat} {lo hi v : Nat} {T : Nat × Nat × Nat} (h : pNum t lo hi T = .inr v) (hh : hi < 1000) : T.2.1 = 2 ∧ val t T = nI v ∧ lo ≤ v ∧ v ≤ hi := by
  unfold pNum at h
  by_cases c : T.2.1 = 2
  · rw [if_pos c] at h
    by_cases c2 : (lo : Int) ≤ (val t T).toInt ∧ (val t T).toInt ≤ hi
    · rw [if_pos c2] at h
      have e := Sum.inr.inj h
      refine ⟨c, ?_, by omega, by omega⟩
      apply Int32.toInt_inj.mp
      rw [nI_toInt (by omega)]
      omega
    · rw [if_neg c2] at h
      exact absurd h (by simp)
  · rw [if_neg c] at h
    exact absurd h (by simp)
def DX (M : Mem) (S : Nat → Nat) : Prop := M 11 2 = nI (S 1) ∧ M 11 3 = nI (S 4) ∧ M 11 4 = nI (S 3) ∧ ∀ j, j < S 3 → M (13 + j) 1 = nI (S (5 + j)) ∧ M (13 + j) 2 = nI (S (10 + j)) ∧ M (13 + j) 3 = nI (S (15 + j)) ∧ M (13 + j) 4 = nI (S (20 + j))
def DY (f : Nat → Int32) (S : Nat → Nat) : Prop := f 1 = nI (S 1) ∧ f 3 = nI (S 3) ∧ f 4 = nI (S 4) ∧ (∀ j, j < S 3 → f (5 + j) = nI (S (5 + j)) ∧ f (10 + j) = nI (S (10 + j)) ∧ f (15 + j) = nI (S (15 + j)) ∧ f (20 + j) = nI (S (20 + j))) ∧ ∀ j, j < 5 → f (20 + j) = 0
def FRx (M0 M : Mem) : Prop := (∀ a, a ≠ 2 → ¬ (11 ≤ a ∧ a ≤ 17) → M a = M0 a) ∧ M 2 1 = M0 2 1
def FRy (M0 M : Mem) : Prop := (∀ a, a ≠ 234 → a ≠ 240 → M a = M0 a) ∧ ∀ j, j < 15 ∨ 19 < j → M 234 j = M0 234 j
def GX (M0 : Mem) (t : Nat → Nat) (n : Nat) (S : Nat → Nat) (M : Mem) : Prop := TPx M t n ∧ DX M S ∧ FRx M0 M
def GY (M0 : Mem) (t : Nat → Nat) (n : Nat) (S : Nat → Nat) (c : Nat) (M : Mem) : Prop := TPy M t n ∧ DY (M 240) S ∧ M 240 2 = nI c ∧ FRy M0 M
theorem GX.step {M0 M : Mem} {t : Nat → Nat} {n : Nat} {S : Nat → Nat} {i : Nat} (h : GX M0 t n S M) (h3 : M 2 3 = nI i) (hi : i ≤ n) : ∃ M', m_X6_step M = some M' ∧ GX M0 t n S M' ∧ XTk M' t (tok t n i) := by
  obtain ⟨h1, h2, h4, h5⟩ := h
  obtain ⟨M', s1, s2, s3, s4⟩ := xstep h1 hi h3
  refine ⟨M', s1, ⟨h1.keep s4 (s3 3 (by decide)), ?_, fun a a1 a2 => by rw [s3 a a1, h4 a a1 a2], by rw [s4, h5]⟩, s2⟩
  unfold DX
  rw [s3 11 (by decide)]
  refine ⟨h2.1, h2.2.1, h2.2.2.1, fun j hj => ?_⟩
  rw [s3 (13 + j) (by omega)]
  exact h2.2.2.2 j hj
theorem GX.set {M0 M : Mem} {t : Nat → Nat} {n : Nat} {S : Nat → Nat} (h : GX M0 t n S M) {j : Nat} (hj : j ≠ 1) (v : Int32) : GX M0 t n S (mset M 2 j v) := by
  obtain ⟨h1, h2, h4, h5⟩ := h
  have e1 : mset M 2 j v 2 1 = M 2 1 := by rw [mset_self, upd_at, if_neg (fun z => hj z.symm)]
  refine ⟨h1.keep e1 (mset_ne _ _ _ (by decide)), ?_, fun a a1 a2 => by rw [mset_ne _ _ _ a1, h4 a a1 a2], by rw [e1, h5]⟩
  unfold DX
  rw [mset_ne _ _ _ (by decide)]
  refine ⟨h2.1, h2.2.1, h2.2.2.1, fun j hj => ?_⟩
  rw [mset_ne _ _ _ (by omega)]
  exact h2.2.2.2 j hj
theorem ytok {M0 M : Mem} {t : Nat → Nat} {n i : Nat} (hT : TPy M t n) (hF : FRy M0 M) (h0 : M 234 15 = nI i) (hi : i ≤ n) : ∃ M', m_X8_token M = some M' ∧ TPy M' t n ∧ FRy M0 M' ∧ YTk M' (tok t n i) ∧ M' 240 = M 240 := by
  obtain ⟨M', s1, s2, s3, s4⟩ := ytoken hT hi h0
  exact ⟨M', s1, hT.keep (s4 5 (by omega)) (s3 238 (by decide)), ⟨fun a a1 a2 => by rw [s3 a a1, hF.1 a a1 a2], fun j hj => by rw [s4 j (by omega), hF.2 j hj]⟩, s2, s3 240 (by decide)⟩
/-- a fault, on either side -/
def BX (M0 M : Mem) (f : Nat × Nat) : Prop := FRx M0 M ∧ M 2 6 = nI f.1 ∧ M 2 2 = nI f.2
def BY (M0 M : Mem) (f : Nat × Nat) : Prop := FRy M0 M ∧ M 234 19 = nI f.1 ∧ M 234 17 = nI f.2
theorem BX.mk {M0 M : Mem} {s : Nat} (h : FRx M0 M) (h2 : M 2 2 = nI s) (f : Nat) : BX M0 (mset M 2 6 (nI f)) (f, s) := ⟨⟨fun a a1 a2 => by rw [mset_ne _ _ _ a1, h.1 a a1 a2], by rw [mset_self, upd_at, if_neg (by decide), h.2]⟩, by rw [mset_self, upd_at, if_pos rfl], by rw [mset_self, upd_at, if_neg (by decide)]; exact h2⟩
theorem BY.mk {M0 M : Mem} {s : Nat} (h : FRy M0 M) (h2 : M 234 17 = nI s) (f : Nat) : BY M0 (mset M 234 19 (nI f)) (f, s) := ⟨⟨fun a a1 a2 => by rw [mset_ne _ _ _ a1, h.1 a a1 a2], fun j hj => by rw [mset_self, upd_at, if_neg (by omega), h.2 j hj]⟩, by rw [mset_self, upd_at, if_pos rfl], by rw [mset_self, upd_at, if_neg (by decide)]; exact h2⟩
theorem xnum {M0 M : Mem} {t : Nat → Nat} {T : Nat × Nat × Nat} {lo hi : Nat} (hF : FRx M0 M) (hX : XTk M t T) (hk : T.2.1 ≤ 4) (hh : hi < 1000) (hl : lo ≤ hi) : match pNum t lo hi T with
    | .inl f => ∃ M', m_X6_takeNumber M (nI lo) (nI hi) = some (0, M') ∧ BX M0 M' f
    | .inr v => m_X6_takeNumber M (nI lo) (nI hi) = some (1, M) ∧ M 2 5 = nI v ∧ lo ≤ v ∧ v ≤ hi := by
  cases hp : pNum t lo hi T with
  | inr v =>
    obtain ⟨p1, p2, p3, p4⟩ := pNum_r hp hh
    have h5 : M 2 5 = nI v := by rw [hX.2.2.2 p1]; exact p2
    refine ⟨?_, h5, p3, p4⟩
    unfold m_X6_takeNumber
    rw [hX.2.2.1, p1, if_pos (by decide), h5, if_neg (nI_nlt p3 (by omega)), if_pos (nI_le p4 (by omega))]
  | inl f =>
    show ∃ M', _ ∧ _
    unfold pNum at hp
    unfold m_X6_takeNumber
    rw [hX.2.2.1]
    by_cases c : T.2.1 = 2
    · rw [if_pos c] at hp
      have h5 : M 2 5 = val t T := hX.2.2.2 c
      rw [c, if_pos (by decide), h5]
      by_cases c2 : (lo : Int) ≤ (val t T).toInt ∧ (val t T).toInt ≤ hi
      · rw [if_pos c2] at hp
        exact absurd hp (by simp)
      · rw [if_neg c2] at hp
        have e := Sum.inl.inj hp
        subst e
        have er : j_X6_takeNumber_30 M = some (0, mset M 2 6 (nI 2)) := rfl
        refine ⟨mset M 2 6 (nI 2), ?_, BX.mk hF hX.1 2⟩
        rw [er]
        by_cases c3 : val t T < nI lo
        · rw [if_pos c3]
        · rw [if_neg c3, if_neg]
          intro c4
          apply c2
          have a : ¬ (val t T).toInt < (nI lo).toInt := fun z => c3 (i32_lt.mpr z)
          have b := i32_le.mp c4
          rw [nI_toInt (by omega)] at a b
          omega
    · rw [if_neg c] at hp
      have e := Sum.inl.inj hp
      subst e
      rw [if_neg (by rw [show (2 : Int32) = nI 2 from rfl, nI_eq (by omega) (by omega)]; exact c)]
      exact ⟨mset M 2 6 (nI 1), rfl, BX.mk hF hX.1 1⟩
theorem ynum {M0 M : Mem} {t : Nat → Nat} {n : Nat} {T : Nat × Nat × Nat} {lo hi q : Nat} (hT : TPy M t n) (hF : FRy M0 M) (hX : YTk M T) (hK : TK t n T) (hh : hi < 1000) (hl : lo ≤ hi) (hq : q < 39) : match pNum t lo hi T with
    | .inl f => ∃ M', m_X8_number M (nI q) (nI lo) (nI hi) = some (0, M') ∧ BY M0 M' f
    | .inr v => lo ≤ v ∧ v ≤ hi ∧ ∃ M', m_X8_number M (nI q) (nI lo) (nI hi) = some (1, M') ∧ TPy M' t n ∧ FRy M0 M' ∧ YTk M' (nxt t n T) ∧ M' 240 = upd (M 240) q (nI v) := by
  have base : T.2.1 = 2 → m_X8_number M (nI q) (nI lo) (nI hi) = (m_X8_in M (val t T).toInt64 (nI lo).toInt64 (nI hi).toInt64).bind fun r4 => if r4 = 0 then ((m_X8_wrong M 2).bind fun r8 => chk (isZ r8.1) (some ((r8.1, r8.2)))) else (chk (inB (nI q) 39) (nm (mset M 240 (nI q).toNatClampNeg (val t T)) fun M6 => (m_X8_token M6).bind fun r7 => some ((1, r7)))) := by
    intro c
    unfold m_X8_number
    rw [hX.2.2.1, c, if_pos (by decide), ynumL _ _ _ hT hX hK, Option.bind_some]
    rfl
  cases hp : pNum t lo hi T with
  | inr v =>
    obtain ⟨p1, p2, p3, p4⟩ := pNum_r hp hh
    refine ⟨p3, p4, ?_⟩
    have hin : m_X8_in M (val t T).toInt64 (nI lo).toInt64 (nI hi).toInt64 = some 1 := by
      rw [p2, m_inI M (nI v) _ _ lo hi (by rw [Int32.toInt_toInt64, nI_toInt (by omega)]) (by rw [Int32.toInt_toInt64, nI_toInt (by omega)]), nI_toInt (by omega), if_pos (by omega)]
    rw [base p1, hin, Option.bind_some, if_neg n10, chk_of (inB_nI hq (by omega)), nm_eq, nI_clamp (by omega), p2]
    obtain ⟨M', s1, s2, s3, s4, s5⟩ := ytok (M0 := M0) (M := mset M 240 q (nI v)) (hT.keep (by rw [mset_ne _ _ _ (by decide)]) (by rw [mset_ne _ _ _ (by decide)])) ⟨fun a a1 a2 => by rw [mset_ne _ _ _ a2, hF.1 a a1 a2], fun j hj => by rw [mset_ne _ _ _ (by decide), hF.2 j hj]⟩ (by rw [mset_ne _ _ _ (by decide)]; exact hX.2.1) hK.2.1
    rw [s1, Option.bind_some]
    exact ⟨M', rfl, s2, s3, s4, by rw [s5, mset_self]⟩
  | inl f =>
    show ∃ M', _ ∧ _
    unfold pNum at hp
    by_cases c : T.2.1 = 2
    · rw [if_pos c] at hp
      by_cases c2 : (lo : Int) ≤ (val t T).toInt ∧ (val t T).toInt ≤ hi
      · rw [if_pos c2] at hp
        exact absurd hp (by simp)
      · rw [if_neg c2] at hp
        have e := Sum.inl.inj hp
        subst e
        have hhx : (nI hi).toInt64.toInt = hi := by rw [Int32.toInt_toInt64, nI_toInt (by omega)]
        have hin : m_X8_in M (val t T).toInt64 (nI lo).toInt64 (nI hi).toInt64 = some 0 := by
          rw [m_inI M _ _ _ lo hi (by rw [Int32.toInt_toInt64, nI_toInt (by omega)]) hhx, if_neg c2]
        rw [base c, hin]
        exact ⟨mset M 234 19 (nI 2), rfl, BY.mk hF hX.1 2⟩
    · rw [if_neg c] at hp
      have e := Sum.inl.inj hp
      subst e
      unfold m_X8_number
      have := hK.2.2.1
      rw [hX.2.2.1, if_neg (by rw [show (2 : Int32) = nI 2 from rfl, nI_eq (by omega) (by omega)]; exact c)]
      exact ⟨mset M 234 19 (nI 1), rfl, BY.mk hF hX.1 1⟩
/-! the sign -/
theorem xsign {M0 M : Mem} {t : Nat → Nat} {n : Nat} {S : Nat → Nat} {T : Nat × Nat × Nat} (h : GX M0 t n S M) (hX : XTk M t T) (hK : TK t n T) : if T.2.1 = 3 then ∃ M', m_X6_takeEnd M = some (1, M') ∧ GX M0 t n S M' ∧ XTk M' t (nxt t n T) else ∃ M', m_X6_takeEnd M = some (0, M') ∧ BX M0 M' (1, T.1) := by
  have hk := hK.2.2.1
  unfold m_X6_takeEnd
  rw [hX.2.2.1]
  by_cases c : T.2.1 = 3
  · rw [if_pos c, c, if_pos (by decide)]
    obtain ⟨M', s1, s2, s3⟩ := h.step hX.2.1 hK.2.1
    rw [s1, Option.bind_some]
    exact ⟨M', rfl, s2, s3⟩
  · rw [if_neg c, if_neg (by rw [show (3 : Int32) = nI 3 from rfl, nI_eq (by omega) (by omega)]; exact c)]
    exact ⟨mset M 2 6 (nI 1), rfl, BX.mk h.2.2 hX.1 1⟩
theorem ysign {M0 M : Mem} {t : Nat → Nat} {n : Nat} {T : Nat × Nat × Nat} (hT : TPy M t n) (hF : FRy M0 M) (hX : YTk M T) (hK : TK t n T) : if T.2.1 = 3 then ∃ M', m_X8_sign M = some (1, M') ∧ TPy M' t n ∧ FRy M0 M' ∧ YTk M' (nxt t n T) ∧ M' 240 = M 240 else ∃ M', m_X8_sign M = some (0, M') ∧ BY M0 M' (1, T.1) := by
  have hk := hK.2.2.1
  unfold m_X8_sign
  rw [hX.2.2.1]
  by_cases c : T.2.1 = 3
  · rw [if_pos c, c, if_pos (by decide)]
    obtain ⟨M', s1, s2, s3, s4, s5⟩ := ytok hT hF hX.2.1 hK.2.1
    rw [s1, Option.bind_some]
    exact ⟨M', rfl, s2, s3, s4, s5⟩
  · rw [if_neg c, if_neg (by rw [show (3 : Int32) = nI 3 from rfl, nI_eq (by omega) (by omega)]; exact c)]
    exact ⟨mset M 234 19 (nI 1), rfl, BY.mk hF hX.1 1⟩
/-! a cell -/
def pCell (t : Nat → Nat) (n : Nat) (T : Nat × Nat × Nat) : (Nat × Nat) ⊕ (Nat × Nat) := match pNum t 0 5 T with
  | .inl f => .inl f
  | .inr x => match pNum t 0 4 (nxt t n T) with
    | .inl f => .inl f
    | .inr y => .inr (x, y)
theorem xcellR {M0 M : Mem} {t : Nat → Nat} {n : Nat} {S : Nat → Nat} {T : Nat × Nat × Nat} (h : GX M0 t n S M) (hX : XTk M t T) (hK : TK t n T) : match pCell t n T with
    | .inl f => ∃ M', m_X6_takeCell M = some (0, M') ∧ BX M0 M' f
    | .inr v => v.1 ≤ 5 ∧ v.2 ≤ 4 ∧ ∃ M', m_X6_takeCell M = some (1, M') ∧ GX M0 t n S M' ∧ M' 2 3 = nI (nxt t n T).2.2 ∧ M' 2 5 = nI (6 * v.2 + v.1) := by
  have h1 := xnum (lo := 0) (hi := 5) h.2.2 hX hK.2.2.1 (by omega) (by omega)
  have hK2 := nxt_TK hK
  unfold pCell m_X6_takeCell
  cases hp : pNum t 0 5 T with
  | inl f =>
    rw [hp] at h1
    obtain ⟨M', g1, g2⟩ := h1
    have g1' : m_X6_takeNumber M 0 5 = some (0, M') := g1
    show ∃ M', _ ∧ _
    rw [g1', Option.bind_some, if_pos rfl]
    exact ⟨M', rfl, g2⟩
  | inr x =>
    rw [hp] at h1
    obtain ⟨g1, g2, -, g3⟩ := h1
    have g1' : m_X6_takeNumber M 0 5 = some (1, M) := g1
    obtain ⟨M2, s1, s2, s3⟩ := h.step hX.2.1 hK.2.1
    have h2 := xnum (lo := 0) (hi := 4) s2.2.2 s3 hK2.2.2.1 (by omega) (by omega)
    rw [g1', Option.bind_some, if_neg n10, nm_eq, s1, Option.bind_some]
    dsimp only
    rw [g2]
    have en : tok t n T.2.2 = nxt t n T := rfl
    rw [en] at h2 s3
    cases hp2 : pNum t 0 4 (nxt t n T) with
    | inl f =>
      rw [hp2] at h2
      obtain ⟨M', k1, k2⟩ := h2
      have k1' : m_X6_takeNumber M2 0 4 = some (0, M') := k1
      show ∃ M', _ ∧ _
      rw [k1', Option.bind_some, if_pos rfl]
      exact ⟨M', rfl, k2⟩
    | inr y =>
      rw [hp2] at h2
      obtain ⟨k1, k2, -, k3⟩ := h2
      have k1' : m_X6_takeNumber M2 0 4 = some (1, M2) := k1
      refine ⟨g3, k3, ?_⟩
      rw [k1', Option.bind_some, if_neg n10]
      dsimp only
      rw [k2, show (6 : Int32) = nI 6 from rfl, pk_mul, nI_add, nm_eq]
      exact ⟨_, rfl, s2.set (by decide) _, by rw [mset_self, upd_at, if_neg (by decide)]; exact s3.2.1, by rw [mset_self, upd_at, if_pos rfl]⟩
theorem ycellR {M0 M : Mem} {t : Nat → Nat} {n : Nat} {T : Nat × Nat × Nat} (hT : TPy M t n) (hF : FRy M0 M) (hX : YTk M T) (hK : TK t n T) : match pCell t n T with
    | .inl f => ∃ M', m_X8_cell M = some (0, M') ∧ BY M0 M' f
    | .inr v => ∃ M', m_X8_cell M = some (1, M') ∧ TPy M' t n ∧ FRy M0 M' ∧ YTk M' (nxt t n (nxt t n T)) ∧ M' 240 = upd (upd (M 240) 37 (nI v.1)) 38 (nI v.2) := by
  have h1 := ynum (M0 := M0) (q := 37) (lo := 0) (hi := 5) hT hF hX hK (by omega) (by omega) (by omega)
  have hK2 := nxt_TK hK
  unfold pCell m_X8_cell
  cases hp : pNum t 0 5 T with
  | inl f =>
    rw [hp] at h1
    obtain ⟨M', g1, g2⟩ := h1
    have g1' : m_X8_number M 37 0 5 = some (0, M') := g1
    show ∃ M', _ ∧ _
    rw [g1', Option.bind_some, if_pos rfl]
    exact ⟨M', rfl, g2⟩
  | inr x =>
    rw [hp] at h1
    obtain ⟨-, -, M1, g1, g2, g3, g4, g5⟩ := h1
    have g1' : m_X8_number M 37 0 5 = some (1, M1) := g1
    have h2 := ynum (M0 := M0) (q := 38) (lo := 0) (hi := 4) g2 g3 g4 hK2 (by omega) (by omega) (by omega)
    rw [g1', Option.bind_some, if_neg n10]
    cases hp2 : pNum t 0 4 (nxt t n T) with
    | inl f =>
      rw [hp2] at h2
      obtain ⟨M', k1, k2⟩ := h2
      have k1' : m_X8_number M1 38 0 4 = some (0, M') := k1
      show ∃ M', _ ∧ _
      dsimp only
      rw [k1', Option.bind_some, if_pos rfl]
      exact ⟨M', rfl, k2⟩
    | inr y =>
      rw [hp2] at h2
      obtain ⟨-, -, M2, k1, k2, k3, k4, k5⟩ := h2
      have k1' : m_X8_number M1 38 0 4 = some (1, M2) := k1
      show ∃ M', _ ∧ _
      dsimp only
      rw [k1', Option.bind_some, if_neg n10]
      exact ⟨M2, rfl, k2, k3, k4, by rw [k5, g5]⟩
