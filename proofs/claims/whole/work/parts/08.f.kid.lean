/-! a child -/
def kndN (t : Nat → Nat) (T : Nat × Nat × Nat) : Nat := if isW t T 3 = true then 1 else if isW t T 4 = true then 2 else if isW t T 5 = true then 3 else if isW t T 6 = true then 4 else if isW t T 7 = true then 5 else 0
theorem kndN_le (t : Nat → Nat) (T : Nat × Nat × Nat) : kndN t T ≤ 5 := by
  unfold kndN
  by_cases c1 : isW t T 3 = true
  · rw [if_pos c1]; omega
  · rw [if_neg c1]
    by_cases c2 : isW t T 4 = true
    · rw [if_pos c2]; omega
    · rw [if_neg c2]
      by_cases c3 : isW t T 5 = true
      · rw [if_pos c3]; omega
      · rw [if_neg c3]
        by_cases c4 : isW t T 6 = true
        · rw [if_pos c4]; omega
        · rw [if_neg c4]
          by_cases c5 : isW t T 7 = true
          · rw [if_pos c5]; omega
          · rw [if_neg c5]; omega
theorem xkind {M : Mem} {t : Nat → Nat} {n : Nat} {T : Nat × Nat × Nat} (hT : TPx M t n) (hX : XTk M t T) (hK : TK t n T) : m_X6_kindNamed M = some (if kndN t T = 0 then -1000000 else nI (kndN t T)) := by
  unfold m_X6_kindNamed kndN
  rw [xname hT hX hK (w := 3) (by omega), xname hT hX hK (w := 4) (by omega), xname hT hX hK (w := 5) (by omega), xname hT hX hK (w := 6) (by omega), xname hT hX hK (w := 7) (by omega)]
  simp only [Option.bind_some]
  by_cases c1 : isW t T 3 = true
  · rw [if_pos c1, if_pos c1, if_neg n10]; rfl
  · rw [if_neg c1, if_neg c1, if_pos rfl]
    by_cases c2 : isW t T 4 = true
    · rw [if_pos c2, if_pos c2, if_neg n10]; rfl
    · rw [if_neg c2, if_neg c2, if_pos rfl]
      by_cases c3 : isW t T 5 = true
      · rw [if_pos c3, if_pos c3, if_neg n10]; rfl
      · rw [if_neg c3, if_neg c3, if_pos rfl]
        by_cases c4 : isW t T 6 = true
        · rw [if_pos c4, if_pos c4, if_neg n10]; rfl
        · rw [if_neg c4, if_neg c4, if_pos rfl]
          by_cases c5 : isW t T 7 = true
          · rw [if_pos c5, if_pos c5, if_neg n10]; rfl
          · rw [if_neg c5, if_neg c5, if_pos rfl]; rfl
theorem fv_w : fv (wrd 0) = 7102839 ∧ fv (wrd 1) = 431415716206 ∧ fv (wrd 2) = 426953501796 ∧ fv (wrd 3) = 495756340332 ∧ fv (wrd 4) = 6449511 ∧ fv (wrd 5) = 7563385 ∧ fv (wrd 6) = 444200875621 ∧ fv (wrd 7) = 418498375534 := by decide +kernel
theorem yW {M : Mem} {t : Nat → Nat} {n : Nat} {T : Nat × Nat × Nat} (hT : TPy M t n) (hK : TK t n T) {w c : Nat} (hw : w < 8) (hc : fv (wrd w) = c) (h0 : 0 < c) (hc2 : c < 2 ^ 63) : lg_cmp (lN (nmV t T)) (lN c) = 0 ↔ isW t T w = true := by
  obtain ⟨h1, h2⟩ := nmV_w hT hK hw hc h0
  rw [lgc_eq h2 hc2]
  exact h1
theorem ykind {α : Type} {M : Mem} {t : Nat → Nat} {n : Nat} {T : Nat × Nat × Nat} (hT : TPy M t n) (hK : TK t n T) (f : Int32 → α) : (if (lg_cmp (lN (nmV t T)) 495756340332) = 0 then f 1 else (if (lg_cmp (lN (nmV t T)) 6449511) = 0 then f 2 else (if (lg_cmp (lN (nmV t T)) 7563385) = 0 then f 3 else (if (lg_cmp (lN (nmV t T)) 444200875621) = 0 then f 4 else (if (lg_cmp (lN (nmV t T)) 418498375534) = 0 then f 5 else f 0))))) = f (nI (kndN t T)) := by
  obtain ⟨f0, f1, f2, f3, f4, f5, f6, f7⟩ := fv_w
  have y3 := yW hT hK (w := 3) (by omega) f3 (by omega) (by omega)
  have y4 := yW hT hK (w := 4) (by omega) f4 (by omega) (by omega)
  have y5 := yW hT hK (w := 5) (by omega) f5 (by omega) (by omega)
  have y6 := yW hT hK (w := 6) (by omega) f6 (by omega) (by omega)
  have y7 := yW hT hK (w := 7) (by omega) f7 (by omega) (by omega)
  rw [show lN 495756340332 = (495756340332 : Int64) from rfl] at y3
  rw [show lN 6449511 = (6449511 : Int64) from rfl] at y4
  rw [show lN 7563385 = (7563385 : Int64) from rfl] at y5
  rw [show lN 444200875621 = (444200875621 : Int64) from rfl] at y6
  rw [show lN 418498375534 = (418498375534 : Int64) from rfl] at y7
  unfold kndN
  by_cases c1 : isW t T 3 = true
  · rw [if_pos (y3.mpr c1), if_pos c1]; rfl
  · rw [if_neg (fun z => c1 (y3.mp z)), if_neg c1]
    by_cases c2 : isW t T 4 = true
    · rw [if_pos (y4.mpr c2), if_pos c2]; rfl
    · rw [if_neg (fun z => c2 (y4.mp z)), if_neg c2]
      by_cases c3 : isW t T 5 = true
      · rw [if_pos (y5.mpr c3), if_pos c3]; rfl
      · rw [if_neg (fun z => c3 (y5.mp z)), if_neg c3]
        by_cases c4 : isW t T 6 = true
        · rw [if_pos (y6.mpr c4), if_pos c4]; rfl
        · rw [if_neg (fun z => c4 (y6.mp z)), if_neg c4]
          by_cases c5 : isW t T 7 = true
          · rw [if_pos (y7.mpr c5), if_pos c5]; rfl
          · rw [if_neg (fun z => c5 (y7.mp z)), if_neg c5]; rfl
def addC (S : Nat → Nat) (k c st : Nat) : Nat → Nat := fun y => if y = 3 then S 3 + 1 else if y = 5 + S 3 then k else if y = 10 + S 3 then st else if y = 15 + S 3 then c else if y = 20 + S 3 then 0 else S y
theorem addC_ne {S : Nat → Nat} {k c st y : Nat} (h : y ≠ 3 ∧ y ≠ 5 + S 3 ∧ y ≠ 10 + S 3 ∧ y ≠ 15 + S 3 ∧ y ≠ 20 + S 3) : addC S k c st y = S y := by
  unfold addC
  rw [if_neg h.1, if_neg h.2.1, if_neg h.2.2.1, if_neg h.2.2.2.1, if_neg h.2.2.2.2]
theorem addC_at {S : Nat → Nat} {k c st : Nat} (h : S 3 < 5) : addC S k c st 3 = S 3 + 1 ∧ addC S k c st (5 + S 3) = k ∧ addC S k c st (10 + S 3) = st ∧ addC S k c st (15 + S 3) = c ∧ addC S k c st (20 + S 3) = 0 := by
  unfold addC
  refine ⟨if_pos rfl, ?_, ?_, ?_, ?_⟩
  · rw [if_neg (by omega), if_pos rfl]
  · rw [if_neg (by omega), if_neg (by omega), if_pos rfl]
  · rw [if_neg (by omega), if_neg (by omega), if_neg (by omega), if_pos rfl]
  · rw [if_neg (by omega), if_neg (by omega), if_neg (by omega), if_neg (by omega), if_pos rfl]
theorem addC_old {S : Nat → Nat} {k c st j : Nat} (h : S 3 < 5) (hj : j < S 3) : addC S k c st (5 + j) = S (5 + j) ∧ addC S k c st (10 + j) = S (10 + j) ∧ addC S k c st (15 + j) = S (15 + j) ∧ addC S k c st (20 + j) = S (20 + j) := ⟨addC_ne (by omega), addC_ne (by omega), addC_ne (by omega), addC_ne (by omega)⟩
theorem DV.addC {S : Nat → Nat} (h : DV S) {k c st : Nat} (h5 : S 3 < 5) (hk : 1 ≤ k ∧ k ≤ 5) (hc : c < 30) (hs : 1 ≤ st ∧ st ≤ 9) : DV (addC S k c st) := by
  obtain ⟨a0, a1, a2, a3, a4⟩ := h
  obtain ⟨b3, b5, b10, b15, b20⟩ := addC_at (k := k) (c := c) (st := st) h5
  unfold DV
  rw [addC_ne (y := 0) (by omega), addC_ne (y := 1) (by omega), addC_ne (y := 4) (by omega), b3]
  refine ⟨a0, a1, by omega, a3, fun j hj => ?_⟩
  by_cases e : j = S 3
  · subst e
    rw [b5, b10, b15, b20]
    exact ⟨hk, hs, hc, rfl⟩
  · obtain ⟨c1, c2, c3, c4⟩ := addC_old (k := k) (c := c) (st := st) h5 (j := j) (by omega)
    rw [c1, c2, c3, c4]
    exact a4 j (by omega)
def pChild (t : Nat → Nat) (n : Nat) (T : Nat × Nat × Nat) : (Nat × Nat) ⊕ ((Nat × Nat × Nat) × (Nat × Nat × Nat)) := if kndN t (nxt t n T) = 0 then .inl (1, (nxt t n T).1) else match pCell t n (nxt t n (nxt t n T)) with
  | .inl f => .inl f
  | .inr v => match pNum t 1 9 (nxt t n (nxt t n (nxt t n (nxt t n T)))) with
    | .inl f => .inl f
    | .inr st => if (nxt t n (nxt t n (nxt t n (nxt t n (nxt t n T))))).2.1 = 3 then .inr ((kndN t (nxt t n T), 6 * v.2 + v.1, st), nxt t n (nxt t n (nxt t n (nxt t n (nxt t n (nxt t n T)))))) else .inl (1, (nxt t n (nxt t n (nxt t n (nxt t n (nxt t n T))))).1)
theorem xadd_child {M0 M : Mem} {t : Nat → Nat} {n : Nat} {S : Nat → Nat} (h : GX M0 t n S M) (h5 : S 3 < 5) (k c st : Nat) : ∃ M', m_X5_addChild M 11 (nI k) (nI c) (nI st) = some M' ∧ GX M0 t n (addC S k c st) M' ∧ M' 2 = M 2 := by
  obtain ⟨h1, ⟨d1, d2, d3, d4⟩, h3, h4⟩ := h
  obtain ⟨b3, b5, b10, b15, b20⟩ := addC_at (k := k) (c := c) (st := st) h5
  unfold m_X5_addChild
  rw [d3, nI_1, nm_eq]
  have hat : m_X5_at (mset M 11 4 (nI (S 3 + 1))) 11 (mset M 11 4 (nI (S 3 + 1)) 11 4 - 1) = some (some (13 + S 3)) := by
    unfold m_X5_at
    rw [mset_self, upd_at, if_pos rfl, nI_pred, if_neg (nI_pos (by omega)), if_neg (nI_ge (by omega) (by omega)), if_neg (by rw [show (5 : Int32) = nI 5 from rfl]; exact nI_ge h5 (by omega)), chk_of (inB_nI h5 (by omega)), nI_clamp (by omega)]
  rw [hat, Option.bind_some]
  show ∃ M', chk (kdB (13 + S 3) 2) _ = _ ∧ _
  rw [chk_of (kdB_of (kd_ch (q := 11) (by decide) (S 3) h5)), nm_eq, nm_eq, nm_eq, nm_eq]
  generalize hM' : mset (mset (mset (mset (mset M 11 4 (nI (S 3 + 1))) (13 + S 3) 1 (nI k)) (13 + S 3) 3 (nI c)) (13 + S 3) 2 (nI st)) (13 + S 3) 4 0 = M'
  have g1 : ∀ a, a ≠ 11 → a ≠ 13 + S 3 → M' a = M a := fun a a1 a2 => by rw [← hM', mset_ne _ _ _ a2, mset_ne _ _ _ a2, mset_ne _ _ _ a2, mset_ne _ _ _ a2, mset_ne _ _ _ a1]
  have g11 : M' 11 = upd (M 11) 4 (nI (S 3 + 1)) := by rw [← hM', mset_ne _ _ _ (by omega), mset_ne _ _ _ (by omega), mset_ne _ _ _ (by omega), mset_ne _ _ _ (by omega), mset_self]
  have gc : M' (13 + S 3) = upd (upd (upd (upd (M (13 + S 3)) 1 (nI k)) 3 (nI c)) 2 (nI st)) 4 0 := by rw [← hM', mset_self, mset_self, mset_self, mset_self, mset_ne _ _ _ (by omega)]
  refine ⟨M', rfl, ⟨h1.keep (by rw [g1 2 (by decide) (by omega)]) (g1 3 (by decide) (by omega)), ⟨?_, ?_, ?_, fun j hj => ?_⟩, fun a a1 a2 => by rw [g1 a (by omega) (by omega), h3 a a1 a2], by rw [g1 2 (by decide) (by omega), h4]⟩, g1 2 (by decide) (by omega)⟩
  · rw [g11, upd_at, if_neg (by decide), addC_ne (y := 1) (by omega)]; exact d1
  · rw [g11, upd_at, if_neg (by decide), addC_ne (y := 4) (by omega)]; exact d2
  · rw [g11, upd_at, if_pos rfl, b3]
  · rw [b3] at hj
    by_cases e : j = S 3
    · subst e
      rw [gc, b5, b10, b15, b20]
      exact ⟨rfl, rfl, rfl, rfl⟩
    · obtain ⟨c1, c2, c3, c4⟩ := addC_old (k := k) (c := c) (st := st) h5 (j := j) (by omega)
      rw [c1, c2, c3, c4, g1 _ (by omega) (by omega)]
      exact d4 j (by omega)
theorem xchild {M0 M : Mem} {t : Nat → Nat} {n : Nat} {S : Nat → Nat} {T : Nat × Nat × Nat} (h : GX M0 t n S M) (hX : XTk M t T) (hK : TK t n T) (hD : DV S) (h5 : S 3 < 5) : match pChild t n T with
    | .inl f => ∃ M', m_X6_readChild M 11 = some (0, M') ∧ BX M0 M' f
    | .inr v => DV (addC S v.1.1 v.1.2.1 v.1.2.2) ∧ TK t n v.2 ∧ ∃ M', m_X6_readChild M 11 = some (1, M') ∧ GX M0 t n (addC S v.1.1 v.1.2.1 v.1.2.2) M' ∧ XTk M' t v.2 := by
  have hK1 := nxt_TK hK
  have hK2 := nxt_TK hK1
  have hK3 := nxt_TK hK2
  have hK4 := nxt_TK hK3
  have hK5 := nxt_TK hK4
  have hK6 := nxt_TK hK5
  obtain ⟨M1, s1, s2, s3⟩ := h.step hX.2.1 hK.2.1
  have en : ∀ T, tok t n T.2.2 = nxt t n T := fun _ => rfl
  rw [en] at s3
  unfold pChild m_X6_readChild
  rw [s1, Option.bind_some, xkind s2.1 s3 hK1, Option.bind_some]
  have hkl := kndN_le t (nxt t n T)
  by_cases k0 : kndN t (nxt t n T) = 0
  · rw [if_pos k0, if_pos k0, if_pos rfl]
    exact ⟨mset M1 2 6 (nI 1), rfl, BX.mk s2.2.2 s3.1 1⟩
  · rw [if_neg k0, if_neg k0]
    have hne : ¬ nI (kndN t (nxt t n T)) = -1000000 := by
      intro q
      have := congrArg Int32.toInt q
      rw [nI_toInt (by omega), show (-1000000 : Int32).toInt = -1000000 from rfl] at this
      omega
    obtain ⟨M2, q1, q2, q3⟩ := s2.step s3.2.1 hK1.2.1
    rw [en] at q3
    have hc := xcellR q2 q3 hK2
    rw [if_neg hne, q1, Option.bind_some]
    cases hp : pCell t n (nxt t n (nxt t n T)) with
    | inl f =>
      rw [hp] at hc
      obtain ⟨M', g1, g2⟩ := hc
      show ∃ M', _ ∧ _
      rw [g1, Option.bind_some, if_pos rfl]
      exact ⟨M', rfl, g2⟩
    | inr v =>
      rw [hp] at hc
      obtain ⟨v1, v2, M3, g1, g2, g3, g4⟩ := hc
      have hv : 6 * v.2 + v.1 < 30 := by omega
      dsimp only
      rw [g1, Option.bind_some, if_neg n10, nm_eq]
      dsimp only
      obtain ⟨M4, r1, r2, r3⟩ := g2.step (i := (nxt t n (nxt t n (nxt t n T))).2.2) g3 hK3.2.1
      rw [en] at r3
      have hn := xnum (lo := 1) (hi := 9) r2.2.2 r3 hK4.2.2.1 (by omega) (by omega)
      rw [r1, Option.bind_some, g4]
      cases hp2 : pNum t 1 9 (nxt t n (nxt t n (nxt t n (nxt t n T)))) with
      | inl f =>
        rw [hp2] at hn
        obtain ⟨M', k1, k2⟩ := hn
        have k1' : m_X6_takeNumber M4 1 9 = some (0, M') := k1
        show ∃ M', _ ∧ _
        rw [k1', Option.bind_some, if_pos rfl]
        exact ⟨M', rfl, k2⟩
      | inr st =>
        rw [hp2] at hn
        obtain ⟨k1, k2, k3, k4⟩ := hn
        have k1' : m_X6_takeNumber M4 1 9 = some (1, M4) := k1
        dsimp only
        rw [k1', Option.bind_some, if_neg n10]
        dsimp only
        obtain ⟨M5, a1, a2, a3⟩ := xadd_child r2 h5 (kndN t (nxt t n T)) (6 * v.2 + v.1) st
        rw [k2, a1, Option.bind_some]
        obtain ⟨M6, e1, e2, e3⟩ := a2.step (i := (nxt t n (nxt t n (nxt t n (nxt t n T)))).2.2) (by rw [a3]; exact r3.2.1) hK4.2.1
        rw [en] at e3
        have hsg := xsign e2 e3 hK5
        rw [e1, Option.bind_some]
        by_cases c : (nxt t n (nxt t n (nxt t n (nxt t n (nxt t n T))))).2.1 = 3
        · rw [if_pos c] at hsg ⊢
          obtain ⟨M7, z1, z2, z3⟩ := hsg
          refine ⟨hD.addC h5 ⟨Nat.pos_of_ne_zero k0, hkl⟩ hv ⟨k3, k4⟩, hK6, M7, ?_, z2, z3⟩
          rw [z1, Option.bind_some]
          rfl
        · rw [if_neg c] at hsg ⊢
          obtain ⟨M7, z1, z2⟩ := hsg
          refine ⟨M7, ?_, z2⟩
          rw [z1, Option.bind_some]
          rfl
theorem pCell_le {t : Nat → Nat} {n : Nat} {T : Nat × Nat × Nat} {v : Nat × Nat} (hp : pCell t n T = .inr v) : v.1 ≤ 5 ∧ v.2 ≤ 4 := by
  unfold pCell at hp
  cases ha : pNum t 0 5 T with
  | inl f => rw [ha] at hp; exact absurd hp (by simp)
  | inr x =>
    rw [ha] at hp
    cases hb : pNum t 0 4 (nxt t n T) with
    | inl f => simp only [hb] at hp; exact absurd hp (by simp)
    | inr y =>
      simp only [hb] at hp
      have e := Sum.inr.inj hp
      subst e
      exact ⟨(pNum_r ha (by omega)).2.2.2, (pNum_r hb (by omega)).2.2.2⟩
theorem ychild {M0 M : Mem} {t : Nat → Nat} {n : Nat} {S : Nat → Nat} {c : Nat} {T : Nat × Nat × Nat} (h : GY M0 t n S c M) (hX : YTk M T) (hK : TK t n T) (hD : DV S) : if S 3 = 5 then ∃ M', m_X8_readsChild M = some (0, M') ∧ BY M0 M' (3, T.1) else match pChild t n T with
    | .inl f => ∃ M', m_X8_readsChild M = some (0, M') ∧ BY M0 M' f
    | .inr v => ∃ M', m_X8_readsChild M = some (1, M') ∧ GY M0 t n (addC S v.1.1 v.1.2.1 v.1.2.2) c M' ∧ YTk M' v.2 := by
  have hK1 := nxt_TK hK
  have hK2 := nxt_TK hK1
  have hK3 := nxt_TK hK2
  have hK4 := nxt_TK hK3
  have hK5 := nxt_TK hK4
  obtain ⟨h1, h2, h3, h4⟩ := h
  have h35 := hD.2.2.1
  have i3 : (3 : Int32).toNatClampNeg = 3 := rfl
  have i37 : (37 : Int32).toNatClampNeg = 37 := rfl
  have i38 : (38 : Int32).toNatClampNeg = 38 := rfl
  have en : ∀ T, tok t n T.2.2 = nxt t n T := fun _ => rfl
  unfold m_X8_readsChild
  rw [chk_of (by decide), i3, nm_eq, h2.2.1]
  by_cases c5 : S 3 = 5
  · rw [if_pos c5, if_pos (by rw [c5]; rfl)]
    exact ⟨mset M 234 19 (nI 3), rfl, BY.mk h4 hX.1 3⟩
  · rw [if_neg c5, if_neg (by rw [show (5 : Int32) = nI 5 from rfl, nI_eq (by omega) (by omega)]; exact c5)]
    have hlt : S 3 < 5 := by omega
    obtain ⟨M1, s1, s2, s3, s4, s5⟩ := ytok h1 h4 hX.2.1 hK.2.1
    rw [en] at s4
    rw [s1, Option.bind_some, yname s2 s4 hK1, Option.bind_some, ykind s2 hK1 (fun k => j_X8_readsChild_88 M1 (nI (S 3)) k)]
    unfold pChild
    have hkl := kndN_le t (nxt t n T)
    generalize hkk : kndN t (nxt t n T) = k at *
    unfold j_X8_readsChild_88
    by_cases k0 : k = 0
    · rw [if_pos k0, if_pos (by rw [k0]; rfl)]
      exact ⟨mset M1 234 19 (nI 1), rfl, BY.mk s3 s4.1 1⟩
    · rw [if_neg k0, if_neg (nI_ne0 (by omega) (by omega))]
      obtain ⟨M2, q1, q2, q3, q4, q5⟩ := ytok s2 s3 s4.2.1 hK1.2.1
      rw [en] at q4
      have hcl := ycellR q2 q3 q4 hK2
      rw [q1, Option.bind_some]
      cases hp : pCell t n (nxt t n (nxt t n T)) with
      | inl f =>
        rw [hp] at hcl
        obtain ⟨M', g1, g2⟩ := hcl
        show ∃ M', _ ∧ _
        rw [g1, Option.bind_some, if_pos rfl]
        exact ⟨M', rfl, g2⟩
      | inr v =>
        rw [hp] at hcl
        obtain ⟨M3, g1, g2, g3, g4, g5⟩ := hcl
        have hv := pCell_le hp
        have hn := ynum (M0 := M0) (q := 10 + S 3) (lo := 1) (hi := 9) g2 g3 g4 hK4 (by omega) (by omega) (by omega)
        dsimp only
        rw [g1, Option.bind_some, if_neg n10]
        dsimp only
        cases hp2 : pNum t 1 9 (nxt t n (nxt t n (nxt t n (nxt t n T)))) with
        | inl f =>
          rw [hp2] at hn
          obtain ⟨M', k1, k2⟩ := hn
          have k1' : m_X8_number M3 (10 + nI (S 3)) 1 9 = some (0, M') := by rw [show (10 : Int32) + nI (S 3) = nI (10 + S 3) from nI_add 10 _]; exact k1
          show ∃ M', _ ∧ _
          rw [k1', Option.bind_some, if_pos rfl]
          exact ⟨M', rfl, k2⟩
        | inr st =>
          rw [hp2] at hn
          obtain ⟨-, -, M4, k1, k2, k3, k4, k5⟩ := hn
          have k1' : m_X8_number M3 (10 + nI (S 3)) 1 9 = some (1, M4) := by rw [show (10 : Int32) + nI (S 3) = nI (10 + S 3) from nI_add 10 _]; exact k1
          have hsg := ysign k2 k3 k4 hK5
          dsimp only
          rw [k1', Option.bind_some, if_neg n10]
          dsimp only
          by_cases q : (nxt t n (nxt t n (nxt t n (nxt t n (nxt t n T))))).2.1 = 3
          · rw [if_pos q] at hsg ⊢
            obtain ⟨M5, e1, e2, e3, e4, e5⟩ := hsg
            have hf : M5 240 = upd (upd (upd (M 240) 37 (nI v.1)) 38 (nI v.2)) (10 + S 3) (nI st) := by rw [e5, k5, g5, q5, s5]
            show ∃ M', _ ∧ _
            rw [e1, Option.bind_some, if_neg n10, show (5 : Int32) + nI (S 3) = nI (5 + S 3) from nI_add 5 _, show (15 : Int32) + nI (S 3) = nI (15 + S 3) from nI_add 15 _, chk_of (inB_nI (by omega) (by omega)), nm_eq, chk_of (by decide), chk_of (by decide), chk_of (inB_nI (by omega) (by omega)), nm_eq, chk_of (by decide), chk_of (by decide), nm_eq, nI_clamp (by omega), nI_clamp (by omega), i37, i38]
            dsimp only
            have b0 := ((h2.upd hD (q := 37) (nI v.1) (by omega)).upd hD (q := 38) (nI v.2) (by omega)).upd hD (q := 10 + S 3) (nI st) (by right; right; right; exact ⟨10, by omega, rfl, hlt⟩)
            have b1 := b0.upd hD (q := 5 + S 3) (nI k) (by right; right; right; exact ⟨5, by omega, rfl, hlt⟩)
            have b2 := b1.upd hD (q := 15 + S 3) (nI (6 * v.2 + v.1)) (by right; right; right; exact ⟨15, by omega, rfl, hlt⟩)
            rw [← hf] at b2
            have f37 : mset M5 240 (5 + S 3) (nI k) 240 37 = nI v.1 := by
              rw [mset_self, upd_at, if_neg (by omega), hf, upd_at, if_neg (by omega), upd_at, if_neg (by decide), upd_at, if_pos rfl]
            have f38 : mset M5 240 (5 + S 3) (nI k) 240 38 = nI v.2 := by
              rw [mset_self, upd_at, if_neg (by omega), hf, upd_at, if_neg (by omega), upd_at, if_pos rfl]
            rw [f37, f38, show (6 : Int32) = nI 6 from rfl, pk_mul, nI_add]
            have f3 : mset (mset M5 240 (5 + S 3) (nI k)) 240 (15 + S 3) (nI (6 * v.2 + v.1)) 240 3 = nI (S 3) := by
              rw [mset_self, mset_self]
              exact b2.2.1
            rw [i3, f3, nI_1]
            obtain ⟨u3, u5, u10, u15, u20⟩ := addC_at (k := k) (c := 6 * v.2 + v.1) (st := st) hlt
            refine ⟨_, rfl, ⟨e2.keep (by rw [mset_ne _ _ _ (by decide), mset_ne _ _ _ (by decide), mset_ne _ _ _ (by decide)]) (by rw [mset_ne _ _ _ (by decide), mset_ne _ _ _ (by decide), mset_ne _ _ _ (by decide)]), ?_, ?_, fun a a1 a2 => by rw [mset_ne _ _ _ a2, mset_ne _ _ _ a2, mset_ne _ _ _ a2, e3.1 a a1 a2], fun j hj => by rw [mset_ne _ _ _ (by decide), mset_ne _ _ _ (by decide), mset_ne _ _ _ (by decide), e3.2 j hj]⟩, ?_⟩
            · rw [mset_self, mset_self, mset_self]
              obtain ⟨w1, w2, w3, w4, w5⟩ := b2
              refine ⟨by rw [upd_at, if_neg (by decide), addC_ne (y := 1) (by omega)]; exact w1, by rw [upd_at, if_pos rfl, u3], by rw [upd_at, if_neg (by decide), addC_ne (y := 4) (by omega)]; exact w3, fun j hj => ?_, fun j hj => ?_⟩
              · rw [u3] at hj
                rw [upd_at _ 3 _ (5 + j), if_neg (by omega), upd_at _ 3 _ (10 + j), if_neg (by omega), upd_at _ 3 _ (15 + j), if_neg (by omega), upd_at _ 3 _ (20 + j), if_neg (by omega)]
                by_cases e : j = S 3
                · subst e
                  rw [u5, u10, u15, u20]
                  refine ⟨?_, ?_, ?_, ?_⟩
                  · rw [upd_at, if_neg (by omega), upd_at, if_pos rfl]
                  · rw [upd_at, if_neg (by omega), upd_at, if_neg (by omega), hf, upd_at, if_pos rfl]
                  · rw [upd_at, if_pos rfl]
                  · exact w5 _ hlt
                · obtain ⟨c1, c2, c3, c4⟩ := addC_old (k := k) (c := 6 * v.2 + v.1) (st := st) hlt (j := j) (by omega)
                  rw [c1, c2, c3, c4]
                  exact w4 j (by omega)
              · rw [upd_at, if_neg (by omega)]
                exact w5 j hj
            · rw [mset_self, upd_at, if_neg (by decide), mset_self, upd_at, if_neg (by omega), mset_self, upd_at, if_neg (by omega), hf, upd_at, if_neg (by omega), upd_at, if_neg (by decide), upd_at, if_neg (by decide)]
              exact h3
            · unfold YTk
              rw [mset_ne _ _ _ (by decide), mset_ne _ _ _ (by decide), mset_ne _ _ _ (by decide)]
              exact e4
          · rw [if_neg q] at hsg ⊢
            obtain ⟨M5, e1, e2⟩ := hsg
            show ∃ M', _ ∧ _
            rw [e1, Option.bind_some, if_pos rfl]
            exact ⟨M5, rfl, e2⟩
