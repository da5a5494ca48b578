/-! a drain, a child -/
def DV (S : Nat → Nat) : Prop := S 0 = 1 ∧ S 1 ≤ 20 ∧ S 3 ≤ 5 ∧ S 4 < 2 ^ 30 ∧ ∀ j, j < S 3 → (1 ≤ S (5 + j) ∧ S (5 + j) ≤ 5) ∧ (1 ≤ S (10 + j) ∧ S (10 + j) ≤ 9) ∧ S (15 + j) < 30 ∧ S (20 + j) = 0
def addD (S : Nat → Nat) (c : Nat) : Nat → Nat := fun y => if y = 4 then S 4 ||| 2 ^ c else S y
theorem addD_ne (S : Nat → Nat) (c : Nat) {y : Nat} (h : y ≠ 4) : addD S c y = S y := if_neg h
theorem DV.addD {S : Nat → Nat} (h : DV S) {c : Nat} (hc : c < 30) : DV (addD S c) := by
  obtain ⟨a0, a1, a2, a3, a4⟩ := h
  unfold DV
  rw [addD_ne S c (y := 0) (by omega), addD_ne S c (y := 1) (by omega), addD_ne S c (y := 3) (by omega)]
  refine ⟨a0, a1, a2, Nat.or_lt_two_pow a3 (Nat.pow_lt_pow_right (by omega) hc), fun j hj => ?_⟩
  rw [addD_ne S c (y := 5 + j) (by omega), addD_ne S c (y := 10 + j) (by omega), addD_ne S c (y := 15 + j) (by omega), addD_ne S c (y := 20 + j) (by omega)]
  exact a4 j hj
def pDrain (t : Nat → Nat) (n : Nat) (T : Nat × Nat × Nat) : (Nat × Nat) ⊕ (Nat × (Nat × Nat × Nat)) := match pCell t n (nxt t n T) with
  | .inl f => .inl f
  | .inr v => if (nxt t n (nxt t n (nxt t n T))).2.1 = 3 then .inr (6 * v.2 + v.1, nxt t n (nxt t n (nxt t n (nxt t n T)))) else .inl (1, (nxt t n (nxt t n (nxt t n T))).1)
theorem xdrain {M0 M : Mem} {t : Nat → Nat} {n : Nat} {S : Nat → Nat} {T : Nat × Nat × Nat} (h : GX M0 t n S M) (hX : XTk M t T) (hK : TK t n T) (hD : DV S) : match pDrain t n T with
    | .inl f => ∃ M', m_X6_readDrain M 11 = some (0, M') ∧ BX M0 M' f
    | .inr v => v.1 < 30 ∧ TK t n v.2 ∧ ∃ M', m_X6_readDrain M 11 = some (1, M') ∧ GX M0 t n (addD S v.1) M' ∧ XTk M' t v.2 := by
  have hK1 := nxt_TK hK
  have hK2 := nxt_TK hK1
  have hK3 := nxt_TK hK2
  have hK4 := nxt_TK hK3
  obtain ⟨M1, s1, s2, s3⟩ := h.step hX.2.1 hK.2.1
  have en : tok t n T.2.2 = nxt t n T := rfl
  rw [en] at s3
  have hc := xcellR s2 s3 hK1
  unfold pDrain m_X6_readDrain
  rw [s1, Option.bind_some]
  cases hp : pCell t n (nxt t n T) with
  | inl f =>
    rw [hp] at hc
    obtain ⟨M', g1, g2⟩ := hc
    show ∃ M', _ ∧ _
    rw [g1, Option.bind_some, if_pos rfl]
    exact ⟨M', rfl, g2⟩
  | inr v =>
    rw [hp] at hc
    obtain ⟨v1, v2, M2, g1, g2, g3, g4⟩ := hc
    have hv : 6 * v.2 + v.1 < 30 := by omega
    dsimp only
    rw [g1, Option.bind_some, if_neg n10]
    dsimp only
    have h2c : 2 ^ (6 * v.2 + v.1) < 2 ^ 30 := Nat.pow_lt_pow_right (by omega) hv
    have hd4 := hD.2.2.2.1
    rw [g4, g2.2.1.2.1, sl_1 _ (by omega), nx_or (by omega) (by omega), nm_eq]
    have hG : GX M0 t n (addD S (6 * v.2 + v.1)) (mset M2 11 3 (nI (S 4 ||| 2 ^ (6 * v.2 + v.1)))) := by
      obtain ⟨a1, a2, a3, a4⟩ := g2
      refine ⟨a1.keep (by rw [mset_ne _ _ _ (by decide)]) (mset_ne _ _ _ (by decide)), ⟨?_, ?_, ?_, fun j hj => ?_⟩, fun a b1 b2 => by rw [mset_ne _ _ _ (by omega), a3 a b1 b2], by rw [mset_ne _ _ _ (by decide), a4]⟩
      · rw [mset_self, upd_at, if_neg (by decide), addD_ne S _ (by omega)]; exact a2.1
      · rw [mset_self, upd_at, if_pos rfl]; rfl
      · rw [mset_self, upd_at, if_neg (by decide), addD_ne S _ (by omega)]; exact a2.2.2.1
      · rw [addD_ne S _ (by omega)] at hj
        rw [mset_ne _ _ _ (by omega), addD_ne S _ (y := 5 + j) (by omega), addD_ne S _ (y := 10 + j) (by omega), addD_ne S _ (y := 15 + j) (by omega), addD_ne S _ (y := 20 + j) (by omega)]
        exact a2.2.2.2 j hj
    obtain ⟨M3, q1, q2, q3⟩ := hG.step (i := (nxt t n (nxt t n T)).2.2) (by rw [mset_ne _ _ _ (by decide)]; exact g3) hK2.2.1
    have en3 : tok t n (nxt t n (nxt t n T)).2.2 = nxt t n (nxt t n (nxt t n T)) := rfl
    rw [en3] at q3
    have hsg := xsign q2 q3 hK3
    rw [q1, Option.bind_some]
    by_cases c : (nxt t n (nxt t n (nxt t n T))).2.1 = 3
    · rw [if_pos c] at hsg ⊢
      obtain ⟨M4, e1, e2, e3⟩ := hsg
      refine ⟨hv, hK4, M4, ?_, e2, e3⟩
      rw [e1, Option.bind_some]
      rfl
    · rw [if_neg c] at hsg ⊢
      obtain ⟨M4, e1, e2⟩ := hsg
      refine ⟨M4, ?_, e2⟩
      rw [e1, Option.bind_some]
      rfl
theorem DY.upd {f : Nat → Int32} {S : Nat → Nat} (h : DY f S) (hD : DV S) {q : Nat} (v : Int32) (hq : q = 2 ∨ q = 37 ∨ q = 38 ∨ ∃ b, (b = 5 ∨ b = 10 ∨ b = 15) ∧ q = b + S 3 ∧ S 3 < 5) : DY (upd f q v) S := by
  obtain ⟨a1, a2, a3, a4, a5⟩ := h
  have h5 := hD.2.2.1
  have hne : q ≠ 1 ∧ q ≠ 3 ∧ q ≠ 4 ∧ (∀ j, j < S 3 → q ≠ 5 + j ∧ q ≠ 10 + j ∧ q ≠ 15 + j ∧ q ≠ 20 + j) ∧ ∀ j, j < 5 → q ≠ 20 + j := by
    rcases hq with rfl | rfl | rfl | ⟨b, hb, rfl, hs⟩
    · exact ⟨by omega, by omega, by omega, fun j hj => by omega, fun j hj => by omega⟩
    · exact ⟨by omega, by omega, by omega, fun j hj => by omega, fun j hj => by omega⟩
    · exact ⟨by omega, by omega, by omega, fun j hj => by omega, fun j hj => by omega⟩
    · exact ⟨by omega, by omega, by omega, fun j hj => by omega, fun j hj => by omega⟩
  obtain ⟨n1, n3, n4, n5, n6⟩ := hne
  refine ⟨by rw [upd_at, if_neg (fun z => n1 z.symm)]; exact a1, by rw [upd_at, if_neg (fun z => n3 z.symm)]; exact a2, by rw [upd_at, if_neg (fun z => n4 z.symm)]; exact a3, fun j hj => ?_, fun j hj => ?_⟩
  · obtain ⟨c1, c2, c3, c4⟩ := n5 j hj
    rw [upd_at, if_neg (fun z => c1 z.symm), upd_at, if_neg (fun z => c2 z.symm), upd_at, if_neg (fun z => c3 z.symm), upd_at, if_neg (fun z => c4 z.symm)]
    exact a4 j hj
  · rw [upd_at, if_neg (fun z => n6 j hj z.symm)]
    exact a5 j hj
theorem ydrain {M0 M : Mem} {t : Nat → Nat} {n : Nat} {S : Nat → Nat} {c : Nat} {T : Nat × Nat × Nat} (h : GY M0 t n S c M) (hX : YTk M T) (hK : TK t n T) (hD : DV S) (hc : c ≤ 6) : if c = 6 then ∃ M', m_X8_readsDrain M = some (0, M') ∧ BY M0 M' (3, T.1) else match pDrain t n T with
    | .inl f => ∃ M', m_X8_readsDrain M = some (0, M') ∧ BY M0 M' f
    | .inr v => ∃ M', m_X8_readsDrain M = some (1, M') ∧ GY M0 t n (addD S v.1) (c + 1) M' ∧ YTk M' v.2 := by
  have hK1 := nxt_TK hK
  have hK2 := nxt_TK hK1
  have hK3 := nxt_TK hK2
  obtain ⟨h1, h2, h3, h4⟩ := h
  have i2 : (2 : Int32).toNatClampNeg = 2 := rfl
  have i4 : (4 : Int32).toNatClampNeg = 4 := rfl
  have i37 : (37 : Int32).toNatClampNeg = 37 := rfl
  have i38 : (38 : Int32).toNatClampNeg = 38 := rfl
  unfold m_X8_readsDrain
  rw [chk_of (by decide), i2, h3]
  by_cases c6 : c = 6
  · rw [if_pos c6, if_pos (by rw [c6]; rfl)]
    exact ⟨mset M 234 19 (nI 3), rfl, BY.mk h4 hX.1 3⟩
  · rw [if_neg c6, if_neg (by rw [show (6 : Int32) = nI 6 from rfl, nI_eq (by omega) (by omega)]; exact c6)]
    obtain ⟨M1, s1, s2, s3, s4, s5⟩ := ytok h1 h4 hX.2.1 hK.2.1
    have en : tok t n T.2.2 = nxt t n T := rfl
    rw [en] at s4
    have hcl := ycellR s2 s3 s4 hK1
    unfold pDrain
    rw [s1, Option.bind_some]
    cases hp : pCell t n (nxt t n T) with
    | inl f =>
      rw [hp] at hcl
      obtain ⟨M', g1, g2⟩ := hcl
      show ∃ M', _ ∧ _
      rw [g1, Option.bind_some, if_pos rfl]
      exact ⟨M', rfl, g2⟩
    | inr v =>
      rw [hp] at hcl
      obtain ⟨M2, g1, g2, g3, g4, g5⟩ := hcl
      have hv12 : v.1 ≤ 5 ∧ v.2 ≤ 4 := by
        unfold pCell at hp
        cases ha : pNum t 0 5 (nxt t n T) with
        | inl f => rw [ha] at hp; exact absurd hp (by simp)
        | inr x =>
          rw [ha] at hp
          cases hb : pNum t 0 4 (nxt t n (nxt t n T)) with
          | inl f => simp only [hb] at hp; exact absurd hp (by simp)
          | inr y =>
            simp only [hb] at hp
            have e := Sum.inr.inj hp
            subst e
            exact ⟨(pNum_r ha (by omega)).2.2.2, (pNum_r hb (by omega)).2.2.2⟩
      have hsg := ysign g2 g3 g4 hK3
      dsimp only
      rw [g1, Option.bind_some, if_neg n10]
      dsimp only
      by_cases q : (nxt t n (nxt t n (nxt t n T))).2.1 = 3
      · rw [if_pos q] at hsg ⊢
        obtain ⟨M3, e1, e2, e3, e4, e5⟩ := hsg
        have hf : M3 240 = upd (upd (M 240) 37 (nI v.1)) 38 (nI v.2) := by rw [e5, g5, s5]
        have h2c : 2 ^ (6 * v.2 + v.1) < 2 ^ 30 := Nat.pow_lt_pow_right (by omega) (by omega)
        have hd4 := hD.2.2.2.1
        show ∃ M', _ ∧ _
        rw [e1, Option.bind_some, if_neg n10, chk_of (by decide), chk_of (by decide), nm_eq, chk_of (by decide), chk_of (by decide), chk_of (by decide), chk_of (by decide), nm_eq]
        dsimp only
        rw [i4, i37, i38, mset_self, hf]
        have f37 : upd (upd (upd (M 240) 37 (nI v.1)) 38 (nI v.2)) 2 (upd (upd (M 240) 37 (nI v.1)) 38 (nI v.2) 2 + 1) 37 = nI v.1 := rfl
        have f38 : upd (upd (upd (M 240) 37 (nI v.1)) 38 (nI v.2)) 2 (upd (upd (M 240) 37 (nI v.1)) 38 (nI v.2) 2 + 1) 38 = nI v.2 := rfl
        have f2 : upd (upd (M 240) 37 (nI v.1)) 38 (nI v.2) 2 + 1 = nI (c + 1) := by
          show M 240 2 + 1 = _
          rw [h3, nI_1]
        have f4 : upd (upd (upd (M 240) 37 (nI v.1)) 38 (nI v.2)) 2 (upd (upd (M 240) 37 (nI v.1)) 38 (nI v.2) 2 + 1) 4 = nI (S 4) := by
          show M 240 4 = _
          exact h2.2.2.1
        rw [f37, f38, f4, f2, show (6 : Int32) = nI 6 from rfl, pk_mul, nI_add, sl_1 _ (by omega), nx_or (by omega) (by omega)]
        refine ⟨_, rfl, ⟨e2.keep (by rw [mset_ne _ _ _ (by decide), mset_ne _ _ _ (by decide)]) (by rw [mset_ne _ _ _ (by decide), mset_ne _ _ _ (by decide)]), ?_, ?_, fun a a1 a2 => by rw [mset_ne _ _ _ a2, mset_ne _ _ _ a2, e3.1 a a1 a2], fun j hj => by rw [mset_ne _ _ _ (by decide), mset_ne _ _ _ (by decide), e3.2 j hj]⟩, ?_⟩
        · rw [mset_self, mset_self, hf]
          have hb := ((h2.upd hD (q := 37) (nI v.1) (by omega)).upd hD (q := 38) (nI v.2) (by omega)).upd hD (q := 2) (nI (c + 1)) (by omega)
          obtain ⟨b1, b2, b3, b4, b5⟩ := hb
          refine ⟨by rw [upd_at, if_neg (by decide), addD_ne S _ (by omega)]; exact b1, by rw [upd_at, if_neg (by decide), addD_ne S _ (by omega)]; exact b2, by rw [upd_at, if_pos rfl]; rfl, fun j hj => ?_, fun j hj => ?_⟩
          · rw [addD_ne S _ (by omega)] at hj
            rw [upd_at _ 4 _ (5 + j), if_neg (by omega), upd_at _ 4 _ (10 + j), if_neg (by omega), upd_at _ 4 _ (15 + j), if_neg (by omega), upd_at _ 4 _ (20 + j), if_neg (by omega), addD_ne S _ (y := 5 + j) (by omega), addD_ne S _ (y := 10 + j) (by omega), addD_ne S _ (y := 15 + j) (by omega), addD_ne S _ (y := 20 + j) (by omega)]
            exact b4 j hj
          · rw [upd_at, if_neg (by omega)]
            exact b5 j hj
        · rw [mset_self, upd_at, if_neg (by decide), mset_self, upd_at, if_pos rfl]
        · unfold YTk
          rw [mset_ne _ _ _ (by decide), mset_ne _ _ _ (by decide)]
          exact e4
      · rw [if_neg q] at hsg ⊢
        obtain ⟨M3, e1, e2⟩ := hsg
        show ∃ M', _ ∧ _
        rw [e1, Option.bind_some, if_pos rfl]
        exact ⟨M3, rfl, e2⟩
