/-! the whole text -/
def dl (t : Nat → Nat) (n : Nat) : Nat → (Nat → Nat) → Nat × Nat × Nat → (Nat × Nat) ⊕ ((Nat → Nat) × (Nat × Nat × Nat))
  | 0, S, T => if isW t T 1 = true then .inl (3, T.1) else .inr (S, T)
  | m + 1, S, T => if isW t T 1 = true then (match pDrain t n T with
    | .inl f => .inl f
    | .inr v => dl t n m (addD S v.1) v.2) else .inr (S, T)
def cl (t : Nat → Nat) (n : Nat) : Nat → (Nat → Nat) → Nat × Nat × Nat → (Nat × Nat) ⊕ ((Nat → Nat) × (Nat × Nat × Nat))
  | 0, S, T => if isW t T 2 = true then .inl (3, T.1) else .inr (S, T)
  | m + 1, S, T => if isW t T 2 = true then (match pChild t n T with
    | .inl f => .inl f
    | .inr v => cl t n m (addC S v.1.1 v.1.2.1 v.1.2.2) v.2) else .inr (S, T)
theorem xdl {M0 : Mem} {t : Nat → Nat} {n : Nat} : ∀ (m c : Nat) (S : Nat → Nat) (T : Nat × Nat × Nat) (M : Mem) (fuel : Nat), c + m = 6 → m < fuel → GX M0 t n S M → XTk M t T → TK t n T → DV S → match dl t n m S T with
    | .inl f => ∃ M', loopF (fun z => b_X6_read_21 z.2 11 z.1) fuel (nI c, M) = some (.inr (0, M')) ∧ BX M0 M' f
    | .inr v => ∃ M', loopF (fun z => b_X6_read_21 z.2 11 z.1) fuel (nI c, M) = some (.inl M') ∧ GX M0 t n v.1 M' ∧ XTk M' t v.2 ∧ TK t n v.2 ∧ DV v.1 ∧ v.1 3 = S 3 := by
  intro m
  induction m with
  | zero =>
    intro c S T M fuel hc hf hG hX hK hD
    obtain ⟨g, rfl⟩ : ∃ g, fuel = g + 1 := ⟨fuel - 1, by omega⟩
    have e : c = 6 := by omega
    subst e
    unfold dl
    have hn := xname hG.1 hX hK (w := 1) (by omega)
    by_cases q : isW t T 1 = true
    · rw [if_pos q] at hn ⊢
      refine ⟨mset M 2 6 (nI 3), loopF_out (body := fun z => b_X6_read_21 z.2 11 z.1) (s := (nI 6, M)) ?_, BX.mk hG.2.2 hX.1 3⟩
      show b_X6_read_21 M 11 (nI 6) = _
      unfold b_X6_read_21
      rw [hn, Option.bind_some, if_neg n10, if_neg (by decide)]
      rfl
    · rw [if_neg q] at hn ⊢
      refine ⟨M, loopF_out (body := fun z => b_X6_read_21 z.2 11 z.1) (s := (nI 6, M)) ?_, hG, hX, hK, hD, rfl⟩
      show b_X6_read_21 M 11 (nI 6) = _
      unfold b_X6_read_21
      rw [hn, Option.bind_some, if_pos rfl]
  | succ m ih =>
    intro c S T M fuel hc hf hG hX hK hD
    obtain ⟨g, rfl⟩ : ∃ g, fuel = g + 1 := ⟨fuel - 1, by omega⟩
    unfold dl
    have hn := xname hG.1 hX hK (w := 1) (by omega)
    by_cases q : isW t T 1 = true
    · rw [if_pos q] at hn ⊢
      have hd := xdrain hG hX hK hD
      have body : b_X6_read_21 M 11 (nI c) = (m_X6_readDrain M 11).bind fun r5 => if r5.1 = 0 then (some (.inr (.inr ((0, r5.2))))) else (some (.inl (nI (c + 1), r5.2))) := by
        unfold b_X6_read_21
        rw [hn, Option.bind_some, if_neg n10, if_pos (by rw [show (6 : Int32) = nI 6 from rfl]; exact nI_lt (by omega) (by omega)), nI_1]
      cases hp : pDrain t n T with
      | inl f =>
        rw [hp] at hd
        obtain ⟨M', g1, g2⟩ := hd
        refine ⟨M', loopF_out (body := fun z => b_X6_read_21 z.2 11 z.1) (s := (nI c, M)) ?_, g2⟩
        show b_X6_read_21 M 11 (nI c) = _
        rw [body, g1, Option.bind_some, if_pos rfl]
      | inr v =>
        rw [hp] at hd
        obtain ⟨v1, v2, M', g1, g2, g3⟩ := hd
        have hst : (fun z : Int32 × Mem => b_X6_read_21 z.2 11 z.1) (nI c, M) = some (.inl (nI (c + 1), M')) := by
          show b_X6_read_21 M 11 (nI c) = _
          rw [body, g1, Option.bind_some, if_neg n10]
        rw [loopF_step (body := fun z => b_X6_read_21 z.2 11 z.1) hst]
        have := ih (c + 1) (addD S v.1) v.2 M' g (by omega) (by omega) g2 g3 v2 (hD.addD v1)
        rw [addD_ne S v.1 (y := 3) (by omega)] at this
        exact this
    · rw [if_neg q] at hn ⊢
      refine ⟨M, loopF_out (body := fun z => b_X6_read_21 z.2 11 z.1) (s := (nI c, M)) ?_, hG, hX, hK, hD, rfl⟩
      show b_X6_read_21 M 11 (nI c) = _
      unfold b_X6_read_21
      rw [hn, Option.bind_some, if_pos rfl]
theorem ydl {M0 : Mem} {t : Nat → Nat} {n : Nat} : ∀ (m c : Nat) (S : Nat → Nat) (T : Nat × Nat × Nat) (M : Mem) (fuel : Nat), c + m = 6 → m < fuel → GY M0 t n S c M → YTk M T → TK t n T → DV S → match dl t n m S T with
    | .inl f => ∃ M', loopF (fun z => b_X8_reads_71 z) fuel M = some (.inr (0, M')) ∧ BY M0 M' f
    | .inr v => ∃ M' c', loopF (fun z => b_X8_reads_71 z) fuel M = some (.inl M') ∧ GY M0 t n v.1 c' M' ∧ YTk M' v.2 := by
  intro m
  induction m with
  | zero =>
    intro c S T M fuel hc hf hG hX hK hD
    obtain ⟨g, rfl⟩ : ∃ g, fuel = g + 1 := ⟨fuel - 1, by omega⟩
    have e : c = 6 := by omega
    subst e
    unfold dl
    have hn := yname hG.1 hX hK
    have hw := yW hG.1 hK (w := 1) (by omega) fv_w.2.1 (by omega) (by omega)
    rw [show lN 431415716206 = (431415716206 : Int64) from rfl] at hw
    have hd := ydrain hG hX hK hD (by omega)
    rw [if_pos rfl] at hd
    by_cases q : isW t T 1 = true
    · rw [if_pos q]
      obtain ⟨M', g1, g2⟩ := hd
      refine ⟨M', loopF_out (body := fun z => b_X8_reads_71 z) ?_, g2⟩
      show b_X8_reads_71 M = _
      unfold b_X8_reads_71
      rw [hn, Option.bind_some, if_pos (hw.mpr q), g1, Option.bind_some, if_pos rfl]
    · rw [if_neg q]
      refine ⟨M, 6, loopF_out (body := fun z => b_X8_reads_71 z) ?_, hG, hX⟩
      show b_X8_reads_71 M = _
      unfold b_X8_reads_71
      rw [hn, Option.bind_some, if_neg (fun z => q (hw.mp z))]
  | succ m ih =>
    intro c S T M fuel hc hf hG hX hK hD
    obtain ⟨g, rfl⟩ : ∃ g, fuel = g + 1 := ⟨fuel - 1, by omega⟩
    unfold dl
    have hn := yname hG.1 hX hK
    have hw := yW hG.1 hK (w := 1) (by omega) fv_w.2.1 (by omega) (by omega)
    rw [show lN 431415716206 = (431415716206 : Int64) from rfl] at hw
    have hd := ydrain hG hX hK hD (by omega)
    rw [if_neg (by omega)] at hd
    by_cases q : isW t T 1 = true
    · rw [if_pos q]
      have body : b_X8_reads_71 M = (m_X8_readsDrain M).bind fun r11 => if r11.1 = 0 then (some (.inr (.inr ((0, r11.2))))) else (some (.inl r11.2)) := by
        unfold b_X8_reads_71
        rw [hn, Option.bind_some, if_pos (hw.mpr q)]
      have hv30 : ∀ v, pDrain t n T = .inr v → v.1 < 30 ∧ TK t n v.2 := by
        intro v hp
        unfold pDrain at hp
        cases ha : pCell t n (nxt t n T) with
        | inl f => rw [ha] at hp; exact absurd hp (by simp)
        | inr w =>
          rw [ha] at hp
          have hl := pCell_le ha
          by_cases z : (nxt t n (nxt t n (nxt t n T))).2.1 = 3
          · simp only [if_pos z] at hp
            have e := Sum.inr.inj hp
            subst e
            exact ⟨by show 6 * w.2 + w.1 < 30; omega, nxt_TK (nxt_TK (nxt_TK (nxt_TK hK)))⟩
          · simp only [if_neg z] at hp
            exact absurd hp (by simp)
      cases hp : pDrain t n T with
      | inl f =>
        rw [hp] at hd
        obtain ⟨M', g1, g2⟩ := hd
        refine ⟨M', loopF_out (body := fun z => b_X8_reads_71 z) ?_, g2⟩
        show b_X8_reads_71 M = _
        rw [body, g1, Option.bind_some, if_pos rfl]
      | inr v =>
        rw [hp] at hd
        obtain ⟨v1, v2⟩ := hv30 v hp
        obtain ⟨M', g1, g2, g3⟩ := hd
        have hst : (fun z : Mem => b_X8_reads_71 z) M = some (.inl M') := by
          show b_X8_reads_71 M = _
          rw [body, g1, Option.bind_some, if_neg n10]
        rw [loopF_step (body := fun z => b_X8_reads_71 z) hst]
        exact ih (c + 1) (addD S v.1) v.2 M' g (by omega) (by omega) g2 g3 v2 (hD.addD v1)
    · rw [if_neg q]
      refine ⟨M, c, loopF_out (body := fun z => b_X8_reads_71 z) ?_, hG, hX⟩
      show b_X8_reads_71 M = _
      unfold b_X8_reads_71
      rw [hn, Option.bind_some, if_neg (fun z => q (hw.mp z))]
theorem xcl {M0 : Mem} {t : Nat → Nat} {n : Nat} : ∀ (m : Nat) (S : Nat → Nat) (T : Nat × Nat × Nat) (M : Mem) (fuel : Nat), S 3 + m = 5 → m < fuel → GX M0 t n S M → XTk M t T → TK t n T → DV S → match cl t n m S T with
    | .inl f => ∃ M', loopF (fun z => b_X6_read_60 z.2 11 z.1) fuel (nI (S 3), M) = some (.inr (0, M')) ∧ BX M0 M' f
    | .inr v => ∃ M', loopF (fun z => b_X6_read_60 z.2 11 z.1) fuel (nI (S 3), M) = some (.inl M') ∧ GX M0 t n v.1 M' ∧ XTk M' t v.2 ∧ TK t n v.2 ∧ DV v.1 := by
  intro m
  induction m with
  | zero =>
    intro S T M fuel hc hf hG hX hK hD
    obtain ⟨g, rfl⟩ : ∃ g, fuel = g + 1 := ⟨fuel - 1, by omega⟩
    have e : S 3 = 5 := by omega
    unfold cl
    have hn := xname hG.1 hX hK (w := 2) (by omega)
    rw [e]
    by_cases q : isW t T 2 = true
    · rw [if_pos q] at hn ⊢
      refine ⟨mset M 2 6 (nI 3), loopF_out (body := fun z => b_X6_read_60 z.2 11 z.1) (s := (nI 5, M)) ?_, BX.mk hG.2.2 hX.1 3⟩
      show b_X6_read_60 M 11 (nI 5) = _
      unfold b_X6_read_60
      rw [hn, Option.bind_some, if_neg n10, if_neg (by decide)]
      rfl
    · rw [if_neg q] at hn ⊢
      refine ⟨M, loopF_out (body := fun z => b_X6_read_60 z.2 11 z.1) (s := (nI 5, M)) ?_, hG, hX, hK, hD⟩
      show b_X6_read_60 M 11 (nI 5) = _
      unfold b_X6_read_60
      rw [hn, Option.bind_some, if_pos rfl]
  | succ m ih =>
    intro S T M fuel hc hf hG hX hK hD
    obtain ⟨g, rfl⟩ : ∃ g, fuel = g + 1 := ⟨fuel - 1, by omega⟩
    unfold cl
    have hn := xname hG.1 hX hK (w := 2) (by omega)
    have h5 : S 3 < 5 := by omega
    by_cases q : isW t T 2 = true
    · rw [if_pos q] at hn ⊢
      have hd := xchild hG hX hK hD h5
      have body : b_X6_read_60 M 11 (nI (S 3)) = (m_X6_readChild M 11).bind fun r5 => if r5.1 = 0 then (some (.inr (.inr ((0, r5.2))))) else (some (.inl (nI (S 3 + 1), r5.2))) := by
        unfold b_X6_read_60
        rw [hn, Option.bind_some, if_neg n10, if_pos (by rw [show (5 : Int32) = nI 5 from rfl]; exact nI_lt (by omega) (by omega)), nI_1]
      cases hp : pChild t n T with
      | inl f =>
        rw [hp] at hd
        obtain ⟨M', g1, g2⟩ := hd
        refine ⟨M', loopF_out (body := fun z => b_X6_read_60 z.2 11 z.1) (s := (nI (S 3), M)) ?_, g2⟩
        show b_X6_read_60 M 11 (nI (S 3)) = _
        rw [body, g1, Option.bind_some, if_pos rfl]
      | inr v =>
        rw [hp] at hd
        obtain ⟨v1, v2, M', g1, g2, g3⟩ := hd
        have hst : (fun z : Int32 × Mem => b_X6_read_60 z.2 11 z.1) (nI (S 3), M) = some (.inl (nI (S 3 + 1), M')) := by
          show b_X6_read_60 M 11 (nI (S 3)) = _
          rw [body, g1, Option.bind_some, if_neg n10]
        rw [loopF_step (body := fun z => b_X6_read_60 z.2 11 z.1) hst]
        have e3 : addC S v.1.1 v.1.2.1 v.1.2.2 3 = S 3 + 1 := (addC_at h5).1
        have := ih (addC S v.1.1 v.1.2.1 v.1.2.2) v.2 M' g (by omega) (by omega) g2 g3 v2 v1
        rw [e3] at this
        exact this
    · rw [if_neg q] at hn ⊢
      refine ⟨M, loopF_out (body := fun z => b_X6_read_60 z.2 11 z.1) (s := (nI (S 3), M)) ?_, hG, hX, hK, hD⟩
      show b_X6_read_60 M 11 (nI (S 3)) = _
      unfold b_X6_read_60
      rw [hn, Option.bind_some, if_pos rfl]
theorem pChild_ok {t : Nat → Nat} {n : Nat} {S : Nat → Nat} {T : Nat × Nat × Nat} {v : (Nat × Nat × Nat) × (Nat × Nat × Nat)} (hK : TK t n T) (hD : DV S) (h5 : S 3 < 5) (hp : pChild t n T = .inr v) : DV (addC S v.1.1 v.1.2.1 v.1.2.2) ∧ TK t n v.2 := by
  unfold pChild at hp
  by_cases k0 : kndN t (nxt t n T) = 0
  · rw [if_pos k0] at hp
    exact absurd hp (by simp)
  · rw [if_neg k0] at hp
    cases ha : pCell t n (nxt t n (nxt t n T)) with
    | inl f => rw [ha] at hp; exact absurd hp (by simp)
    | inr w =>
      rw [ha] at hp
      have hl := pCell_le ha
      cases hb : pNum t 1 9 (nxt t n (nxt t n (nxt t n (nxt t n T)))) with
      | inl f => simp only [hb] at hp; exact absurd hp (by simp)
      | inr st =>
        simp only [hb] at hp
        have hs := pNum_r hb (by omega)
        by_cases z : (nxt t n (nxt t n (nxt t n (nxt t n (nxt t n T))))).2.1 = 3
        · rw [if_pos z] at hp
          have e := Sum.inr.inj hp
          subst e
          exact ⟨hD.addC h5 ⟨Nat.pos_of_ne_zero k0, kndN_le t _⟩ (by show 6 * w.2 + w.1 < 30; omega) ⟨hs.2.2.1, hs.2.2.2⟩, nxt_TK (nxt_TK (nxt_TK (nxt_TK (nxt_TK (nxt_TK hK)))))⟩
        · rw [if_neg z] at hp
          exact absurd hp (by simp)
theorem ycl {M0 : Mem} {t : Nat → Nat} {n c : Nat} : ∀ (m : Nat) (S : Nat → Nat) (T : Nat × Nat × Nat) (M : Mem) (fuel : Nat), S 3 + m = 5 → m < fuel → GY M0 t n S c M → YTk M T → TK t n T → DV S → match cl t n m S T with
    | .inl f => ∃ M', loopF (fun z => b_X8_reads_91 z) fuel M = some (.inr (0, M')) ∧ BY M0 M' f
    | .inr v => ∃ M', loopF (fun z => b_X8_reads_91 z) fuel M = some (.inl M') ∧ GY M0 t n v.1 c M' ∧ YTk M' v.2 := by
  intro m
  induction m with
  | zero =>
    intro S T M fuel hc hf hG hX hK hD
    obtain ⟨g, rfl⟩ : ∃ g, fuel = g + 1 := ⟨fuel - 1, by omega⟩
    have e : S 3 = 5 := by omega
    unfold cl
    have hn := yname hG.1 hX hK
    have hw := yW hG.1 hK (w := 2) (by omega) fv_w.2.2.1 (by omega) (by omega)
    rw [show lN 426953501796 = (426953501796 : Int64) from rfl] at hw
    have hd := ychild hG hX hK hD
    rw [if_pos e] at hd
    by_cases q : isW t T 2 = true
    · rw [if_pos q]
      obtain ⟨M', g1, g2⟩ := hd
      refine ⟨M', loopF_out (body := fun z => b_X8_reads_91 z) ?_, g2⟩
      show b_X8_reads_91 M = _
      unfold b_X8_reads_91
      rw [hn, Option.bind_some, if_pos (hw.mpr q), g1, Option.bind_some, if_pos rfl]
    · rw [if_neg q]
      refine ⟨M, loopF_out (body := fun z => b_X8_reads_91 z) ?_, hG, hX⟩
      show b_X8_reads_91 M = _
      unfold b_X8_reads_91
      rw [hn, Option.bind_some, if_neg (fun z => q (hw.mp z))]
  | succ m ih =>
    intro S T M fuel hc hf hG hX hK hD
    obtain ⟨g, rfl⟩ : ∃ g, fuel = g + 1 := ⟨fuel - 1, by omega⟩
    unfold cl
    have h5 : S 3 < 5 := by omega
    have hn := yname hG.1 hX hK
    have hw := yW hG.1 hK (w := 2) (by omega) fv_w.2.2.1 (by omega) (by omega)
    rw [show lN 426953501796 = (426953501796 : Int64) from rfl] at hw
    have hd := ychild hG hX hK hD
    rw [if_neg (by omega)] at hd
    by_cases q : isW t T 2 = true
    · rw [if_pos q]
      have body : b_X8_reads_91 M = (m_X8_readsChild M).bind fun r11 => if r11.1 = 0 then (some (.inr (.inr ((0, r11.2))))) else (some (.inl r11.2)) := by
        unfold b_X8_reads_91
        rw [hn, Option.bind_some, if_pos (hw.mpr q)]
      cases hp : pChild t n T with
      | inl f =>
        rw [hp] at hd
        obtain ⟨M', g1, g2⟩ := hd
        refine ⟨M', loopF_out (body := fun z => b_X8_reads_91 z) ?_, g2⟩
        show b_X8_reads_91 M = _
        rw [body, g1, Option.bind_some, if_pos rfl]
      | inr v =>
        rw [hp] at hd
        obtain ⟨v1, v2⟩ := pChild_ok hK hD h5 hp
        obtain ⟨M', g1, g2, g3⟩ := hd
        have hst : (fun z : Mem => b_X8_reads_91 z) M = some (.inl M') := by
          show b_X8_reads_91 M = _
          rw [body, g1, Option.bind_some, if_neg n10]
        rw [loopF_step (body := fun z => b_X8_reads_91 z) hst]
        have e3 : addC S v.1.1 v.1.2.1 v.1.2.2 3 = S 3 + 1 := (addC_at h5).1
        exact ih (addC S v.1.1 v.1.2.1 v.1.2.2) v.2 M' g (by omega) (by omega) g2 g3 v2 v1
    · rw [if_neg q]
      refine ⟨M, loopF_out (body := fun z => b_X8_reads_91 z) ?_, hG, hX⟩
      show b_X8_reads_91 M = _
      unfold b_X8_reads_91
      rw [hn, Option.bind_some, if_neg (fun z => q (hw.mp z))]
theorem dl_ok {t : Nat → Nat} {n : Nat} : ∀ (m : Nat) (S : Nat → Nat) (T : Nat × Nat × Nat), TK t n T → DV S → ∀ v, dl t n m S T = .inr v → TK t n v.2 ∧ DV v.1 ∧ v.1 3 = S 3 := by
  intro m
  induction m with
  | zero =>
    intro S T hK hD v hp
    unfold dl at hp
    by_cases q : isW t T 1 = true
    · rw [if_pos q] at hp
      exact absurd hp (by simp)
    · rw [if_neg q] at hp
      have e := Sum.inr.inj hp
      subst e
      exact ⟨hK, hD, rfl⟩
  | succ m ih =>
    intro S T hK hD v hp
    unfold dl at hp
    by_cases q : isW t T 1 = true
    · rw [if_pos q] at hp
      cases hp2 : pDrain t n T with
      | inl f => rw [hp2] at hp; exact absurd hp (by simp)
      | inr u =>
        rw [hp2] at hp
        have hu : u.1 < 30 ∧ TK t n u.2 := by
          unfold pDrain at hp2
          cases ha : pCell t n (nxt t n T) with
          | inl f => rw [ha] at hp2; exact absurd hp2 (by simp)
          | inr w =>
            rw [ha] at hp2
            have hl := pCell_le ha
            by_cases z : (nxt t n (nxt t n (nxt t n T))).2.1 = 3
            · simp only [if_pos z] at hp2
              have e := Sum.inr.inj hp2
              subst e
              exact ⟨by show 6 * w.2 + w.1 < 30; omega, nxt_TK (nxt_TK (nxt_TK (nxt_TK hK)))⟩
            · simp only [if_neg z] at hp2
              exact absurd hp2 (by simp)
        obtain ⟨r1, r2, r3⟩ := ih (addD S u.1) u.2 hu.2 (hD.addD hu.1) v hp
        exact ⟨r1, r2, by rw [r3, addD_ne S u.1 (by omega)]⟩
    · rw [if_neg q] at hp
      have e := Sum.inr.inj hp
      subst e
      exact ⟨hK, hD, rfl⟩
theorem cl_ok {t : Nat → Nat} {n : Nat} : ∀ (m : Nat) (S : Nat → Nat) (T : Nat × Nat × Nat), S 3 + m = 5 → TK t n T → DV S → ∀ w, cl t n m S T = .inr w → w.2.2.1 ≤ 4 := by
  intro m
  induction m with
  | zero =>
    intro S T h5 hK hD v hp
    unfold cl at hp
    by_cases q : isW t T 2 = true
    · rw [if_pos q] at hp
      exact absurd hp (by simp)
    · rw [if_neg q] at hp
      have e := Sum.inr.inj hp
      subst e
      exact hK.2.2.1
  | succ m ih =>
    intro S T h5 hK hD v hp
    unfold cl at hp
    by_cases q : isW t T 2 = true
    · rw [if_pos q] at hp
      cases hp2 : pChild t n T with
      | inl f => rw [hp2] at hp; exact absurd hp (by simp)
      | inr u =>
        rw [hp2] at hp
        obtain ⟨u1, u2⟩ := pChild_ok hK hD (by omega) hp2
        have e3 : addC S u.1.1 u.1.2.1 u.1.2.2 3 = S 3 + 1 := (addC_at (by omega)).1
        exact ih _ u.2 (by omega) u2 u1 v hp
    · rw [if_neg q] at hp
      have e := Sum.inr.inj hp
      subst e
      exact hK.2.2.1
/-! the law, all -/
def S00 : Nat → Nat := fun y => if y = 0 then 1 else 0
def pRead (t : Nat → Nat) (n : Nat) : (Nat × Nat) ⊕ (Nat → Nat) := if isW t (tok t n 0) 0 = true then (match pNum t 0 20 (nxt t n (tok t n 0)) with
  | .inl f => .inl f
  | .inr h => if (nxt t n (nxt t n (tok t n 0))).2.1 = 3 then (match dl t n 6 (su S00 1 h) (nxt t n (nxt t n (nxt t n (tok t n 0)))) with
    | .inl f => .inl f
    | .inr v => match cl t n 5 v.1 v.2 with
      | .inl f => .inl f
      | .inr w => if w.2.2.1 = 0 then .inr w.1 else .inl (1, w.2.1)) else .inl (1, (nxt t n (nxt t n (tok t n 0))).1)) else .inl (1, (tok t n 0).1)
theorem DV_S00 {h : Nat} (hh : h ≤ 20) : DV (su S00 1 h) := ⟨rfl, hh, by show 0 ≤ 5; omega, by show 0 < 2 ^ 30; omega, fun j hj => absurd (show j < 0 from hj) (by omega)⟩
theorem xread {M : Mem} {t : Nat → Nat} {n : Nat} (hT : TPx M t n) (hD0 : DX M S00) : match pRead t n with
    | .inl f => ∃ M', m_X6_read M 11 = some (0, M') ∧ BX M M' f
    | .inr S => DV S ∧ ∃ M', m_X6_read M 11 = some (1, M') ∧ GX M t n S M' := by
  have hG : GX M t n S00 M := ⟨hT, hD0, fun _ _ _ => rfl, rfl⟩
  have hG0 : GX M t n S00 (mset M 2 3 0) := hG.set (by decide) 0
  obtain ⟨M1, a1, a2, a3⟩ := hG0.step (i := 0) (by rw [mset_self, upd_at, if_pos rfl]; rfl) (by omega)
  have hK0 : TK t n (tok t n 0) := tok_spec t (Nat.zero_le _)
  have hK1 := nxt_TK hK0
  have hK2 := nxt_TK hK1
  have hK3 := nxt_TK hK2
  have en : ∀ T, tok t n T.2.2 = nxt t n T := fun _ => rfl
  unfold pRead m_X6_read
  rw [nm_eq, a1, Option.bind_some]
  unfold m_X6_readLaw
  have hn := xname a2.1 a3 hK0 (w := 0) (by omega)
  rw [hn, Option.bind_some]
  by_cases q : isW t (tok t n 0) 0 = true
  · rw [if_pos q, if_pos q, if_neg n10]
    obtain ⟨M2, b1, b2, b3⟩ := a2.step a3.2.1 hK0.2.1
    rw [en] at b3
    have hnu := xnum (lo := 0) (hi := 20) b2.2.2 b3 hK1.2.2.1 (by omega) (by omega)
    rw [b1, Option.bind_some]
    cases hp : pNum t 0 20 (nxt t n (tok t n 0)) with
    | inl f =>
      rw [hp] at hnu
      obtain ⟨M', k1, k2⟩ := hnu
      have k1' : m_X6_takeNumber M2 0 20 = some (0, M') := k1
      show ∃ M', _ ∧ _
      rw [k1', Option.bind_some, if_pos rfl, Option.bind_some, if_pos rfl]
      exact ⟨M', rfl, k2⟩
    | inr h =>
      rw [hp] at hnu
      obtain ⟨k1, k2, -, k3⟩ := hnu
      have k1' : m_X6_takeNumber M2 0 20 = some (1, M2) := k1
      dsimp only
      rw [k1', Option.bind_some, if_neg n10]
      dsimp only
      rw [k2, nm_eq]
      have hG3 : GX M t n (su S00 1 h) (mset M2 11 2 (nI h)) := by
        obtain ⟨c1, c2, c3, c4⟩ := b2
        refine ⟨c1.keep (by rw [mset_ne _ _ _ (by decide)]) (mset_ne _ _ _ (by decide)), ⟨?_, ?_, ?_, fun j hj => absurd (show j < 0 from hj) (by omega)⟩, fun a d1 d2 => by rw [mset_ne _ _ _ (by omega), c3 a d1 d2], by rw [mset_ne _ _ _ (by decide), c4]⟩
        · rw [mset_self, upd_at, if_pos rfl]; rfl
        · rw [mset_self, upd_at, if_neg (by decide)]; exact c2.2.1
        · rw [mset_self, upd_at, if_neg (by decide)]; exact c2.2.2.1
      obtain ⟨M3, d1, d2, d3⟩ := hG3.step (i := (nxt t n (tok t n 0)).2.2) (by rw [mset_ne _ _ _ (by decide)]; exact b3.2.1) hK1.2.1
      rw [en] at d3
      have hsg := xsign d2 d3 hK2
      rw [d1, Option.bind_some]
      by_cases c : (nxt t n (nxt t n (tok t n 0))).2.1 = 3
      · rw [if_pos c] at hsg ⊢
        obtain ⟨M4, e1, e2, e3⟩ := hsg
        rw [e1, Option.bind_some]
        have ez : isZ (1 : Int32) = true := by decide
        rw [chk_of ez, Option.bind_some, if_neg n10]
        have hdl := xdl (M0 := M) 6 0 (su S00 1 h) _ M4 FUEL (by omega) (FUEL_lt (by omega)) e2 e3 hK3 (DV_S00 k3)
        cases hp2 : dl t n 6 (su S00 1 h) (nxt t n (nxt t n (nxt t n (tok t n 0)))) with
        | inl f =>
          rw [hp2] at hdl
          obtain ⟨M', g1, g2⟩ := hdl
          have g1' : loopF (fun z => b_X6_read_21 z.2 11 z.1) FUEL (0, M4) = _ := g1
          show ∃ M', _ ∧ _
          dsimp only
          rw [g1', Option.bind_some]
          exact ⟨M', rfl, g2⟩
        | inr v =>
          rw [hp2] at hdl
          obtain ⟨M5, g1, g2, g3, g4, g5, g6⟩ := hdl
          have g1' : loopF (fun z => b_X6_read_21 z.2 11 z.1) FUEL (0, M4) = _ := g1
          have h30 : v.1 3 = 0 := g6
          dsimp only
          rw [g1', Option.bind_some]
          dsimp only [sumC]
          have hcl := xcl (M0 := M) 5 v.1 v.2 M5 FUEL (by omega) (FUEL_lt (by omega)) g2 g3 g4 g5
          rw [h30] at hcl
          cases hp3 : cl t n 5 v.1 v.2 with
          | inl f =>
            rw [hp3] at hcl
            obtain ⟨M', w1, w2⟩ := hcl
            have w1' : loopF (fun z => b_X6_read_60 z.2 11 z.1) FUEL (0, M5) = _ := w1
            show ∃ M', _ ∧ _
            rw [w1', Option.bind_some]
            exact ⟨M', rfl, w2⟩
          | inr w =>
            rw [hp3] at hcl
            obtain ⟨M6, w1, w2, w3, w4, w5⟩ := hcl
            have w1' : loopF (fun z => b_X6_read_60 z.2 11 z.1) FUEL (0, M5) = _ := w1
            dsimp only
            rw [w1', Option.bind_some]
            dsimp only
            have hk4 := w4.2.2.1
            by_cases z : w.2.2.1 = 0
            · rw [if_pos z, w3.2.2.1, z, if_pos (by decide)]
              exact ⟨w5, M6, rfl, w2⟩
            · rw [if_neg z, w3.2.2.1, if_neg (nI_ne0 (by omega) (by omega))]
              exact ⟨mset M6 2 6 (nI 1), rfl, BX.mk w2.2.2 w3.1 1⟩
      · rw [if_neg c] at hsg ⊢
        obtain ⟨M4, e1, e2⟩ := hsg
        rw [e1, Option.bind_some]
        have ez : isZ (0 : Int32) = true := by decide
        rw [chk_of ez, Option.bind_some, if_pos rfl]
        exact ⟨M4, rfl, e2⟩
  · rw [if_neg q, if_neg q, if_pos rfl]
    exact ⟨mset M1 2 6 (nI 1), rfl, BX.mk a2.2.2 a3.1 1⟩
theorem yread {M : Mem} {t : Nat → Nat} {n : Nat} (hT : TPy M t n) : match pRead t n with
    | .inl f => ∃ M', m_X8_reads M = some (0, M') ∧ BY M M' f
    | .inr S => ∃ M' c, m_X8_reads M = some (1, M') ∧ GY M t n S c M' := by
  have hK0 : TK t n (tok t n 0) := tok_spec t (Nat.zero_le _)
  have hK1 := nxt_TK hK0
  have hK2 := nxt_TK hK1
  have hK3 := nxt_TK hK2
  have en : ∀ T, tok t n T.2.2 = nxt t n T := fun _ => rfl
  unfold pRead m_X8_reads
  have hz : ∃ Mz, loopF (fun z => b_X8_reads_2 z.2 z.1) FUEL (0, M) = some Mz ∧ (∀ a, a ≠ 240 → Mz a = M a) ∧ ∀ k, k < 39 → Mz 240 k = 0 := by
    refine loopF_rel (body := fun z => b_X8_reads_2 z.2 z.1) 39 (fun i z => z.1 = nI i ∧ (∀ a, a ≠ 240 → z.2 a = M a) ∧ ∀ k, k < i → z.2 240 k = 0) (fun Mz => (∀ a, a ≠ 240 → Mz a = M a) ∧ ∀ k, k < 39 → Mz 240 k = 0) ?_ ?_ (fuel := FUEL) (FUEL_lt (by omega)) (s := (0, M)) ⟨rfl, fun _ _ => rfl, fun k hk => absurd hk (by omega)⟩
    · rintro i ⟨x, M2⟩ hi ⟨rfl, h1, h2⟩
      dsimp only at h1 h2
      show ∃ s', b_X8_reads_2 M2 (nI i) = _ ∧ _
      unfold b_X8_reads_2
      rw [if_neg (by rw [show (39 : Int32) = nI 39 from rfl]; exact nI_ge hi (by omega)), chk_of (inB_nI hi (by omega)), nm_eq, nI_clamp (by omega), nI_1]
      refine ⟨_, rfl, rfl, fun a ha => ?_, fun k hk => ?_⟩
      · dsimp only
        rw [mset_ne _ _ _ ha, h1 a ha]
      · dsimp only
        rw [mset_self, upd_at]
        by_cases e : k = i
        · rw [if_pos e]
        · rw [if_neg e, h2 k (by omega)]
    · rintro ⟨x, M2⟩ ⟨rfl, h1, h2⟩
      show ∃ r, b_X8_reads_2 M2 (nI 39) = _ ∧ _
      unfold b_X8_reads_2
      rw [if_pos (by decide)]
      exact ⟨M2, rfl, h1, h2⟩
  obtain ⟨Mz, z1, z2, z3⟩ := hz
  rw [z1, Option.bind_some, nm_eq]
  obtain ⟨M1, a1, a2, a3, a4, a5⟩ := ytok (M0 := M) (M := mset Mz 234 15 0) (i := 0) (hT.keep (by rw [mset_self, upd_at, if_neg (by decide), z2 234 (by decide)]) (by rw [mset_ne _ _ _ (by decide), z2 238 (by decide)])) ⟨fun a c1 c2 => by rw [mset_ne _ _ _ c1, z2 a c2], fun j hj => by rw [mset_self, upd_at, if_neg (by omega), z2 234 (by decide)]⟩ (by rw [mset_self, upd_at, if_pos rfl]; rfl) (Nat.zero_le _)
  have hf : ∀ k, k < 39 → M1 240 k = 0 := fun k hk => by rw [a5, mset_ne _ _ _ (by decide), z3 k hk]
  have hn := yname a2 a4 hK0
  have hw := yW a2 hK0 (w := 0) (by omega) fv_w.1 (by omega) (by omega)
  rw [show lN 7102839 = (7102839 : Int64) from rfl] at hw
  rw [a1, Option.bind_some, hn, Option.bind_some]
  by_cases q : isW t (tok t n 0) 0 = true
  · rw [if_pos q, if_pos (hw.mpr q)]
    obtain ⟨M2, b1, b2, b3, b4, b5⟩ := ytok a2 a3 a4.2.1 hK0.2.1
    rw [en] at b4
    have hnu := ynum (M0 := M) (q := 1) (lo := 0) (hi := 20) b2 b3 b4 hK1 (by omega) (by omega) (by omega)
    rw [b1, Option.bind_some]
    cases hp : pNum t 0 20 (nxt t n (tok t n 0)) with
    | inl f =>
      rw [hp] at hnu
      obtain ⟨M', k1, k2⟩ := hnu
      have k1' : m_X8_number M2 1 0 20 = some (0, M') := k1
      show ∃ M', _ ∧ _
      rw [k1', Option.bind_some, if_pos rfl]
      exact ⟨M', rfl, k2⟩
    | inr h =>
      rw [hp] at hnu
      obtain ⟨-, hh, M3, k1, k2, k3, k4, k5⟩ := hnu
      have k1' : m_X8_number M2 1 0 20 = some (1, M3) := k1
      have hsg := ysign k2 k3 k4 hK2
      dsimp only
      rw [k1', Option.bind_some, if_neg n10]
      dsimp only
      by_cases c : (nxt t n (nxt t n (tok t n 0))).2.1 = 3
      · rw [if_pos c] at hsg ⊢
        obtain ⟨M4, e1, e2, e3, e4, e5⟩ := hsg
        have hf4 : M4 240 = upd (M1 240) 1 (nI h) := by rw [e5, k5, b5]
        have hG4 : GY M t n (su S00 1 h) 0 M4 := by
          refine ⟨e2, ?_, by rw [hf4, upd_at, if_neg (by decide)]; exact hf 2 (by omega), e3⟩
          rw [hf4]
          exact ⟨by rw [upd_at, if_pos rfl]; rfl, by rw [upd_at, if_neg (by decide)]; exact hf 3 (by omega), by rw [upd_at, if_neg (by decide)]; exact hf 4 (by omega), fun j hj => absurd (show j < 0 from hj) (by omega), fun j hj => by rw [upd_at, if_neg (by omega)]; exact hf _ (by omega)⟩
        rw [e1, Option.bind_some, if_neg n10]
        have hdl := ydl (M0 := M) 6 0 (su S00 1 h) _ M4 FUEL (by omega) (FUEL_lt (by omega)) hG4 e4 hK3 (DV_S00 hh)
        have hok := dl_ok (t := t) (n := n) 6 (su S00 1 h) _ hK3 (DV_S00 hh)
        cases hp2 : dl t n 6 (su S00 1 h) (nxt t n (nxt t n (nxt t n (tok t n 0)))) with
        | inl f =>
          rw [hp2] at hdl
          obtain ⟨M', g1, g2⟩ := hdl
          show ∃ M', _ ∧ _
          dsimp only
          rw [g1, Option.bind_some]
          exact ⟨M', rfl, g2⟩
        | inr v =>
          rw [hp2] at hdl
          obtain ⟨M5, c', g1, g2, g3⟩ := hdl
          obtain ⟨g4, g5, g6⟩ := hok v hp2
          have h30 : v.1 3 = 0 := g6
          dsimp only
          rw [g1, Option.bind_some]
          dsimp only [sumC]
          have hcl := ycl (M0 := M) (c := c') 5 v.1 v.2 M5 FUEL (by omega) (FUEL_lt (by omega)) g2 g3 g4 g5
          cases hp3 : cl t n 5 v.1 v.2 with
          | inl f =>
            rw [hp3] at hcl
            obtain ⟨M', w1, w2⟩ := hcl
            show ∃ M', _ ∧ _
            rw [w1, Option.bind_some]
            exact ⟨M', rfl, w2⟩
          | inr w =>
            rw [hp3] at hcl
            obtain ⟨M6, w1, w2, w3⟩ := hcl
            dsimp only
            rw [w1, Option.bind_some]
            dsimp only
            have hk4 : w.2.2.1 ≤ 4 := cl_ok (t := t) (n := n) 5 v.1 v.2 (by omega) g4 g5 w hp3
            by_cases z : w.2.2.1 = 0
            · rw [if_pos z, w3.2.2.1, z, if_pos (by decide)]
              exact ⟨M6, c', rfl, w2⟩
            · rw [if_neg z, w3.2.2.1, if_neg (nI_ne0 (by omega) (by omega))]
              exact ⟨mset M6 234 19 (nI 1), rfl, BY.mk w2.2.2.2 w3.1 1⟩
      · rw [if_neg c] at hsg ⊢
        obtain ⟨M4, e1, e2⟩ := hsg
        show ∃ M', _ ∧ _
        rw [e1, Option.bind_some, if_pos rfl]
        exact ⟨M4, rfl, e2⟩
  · rw [if_neg q, if_neg (fun z => q (hw.mp z))]
    exact ⟨mset M1 234 19 (nI 1), rfl, BY.mk a3 a4.1 1⟩
