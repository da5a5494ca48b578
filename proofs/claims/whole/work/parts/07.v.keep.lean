/-! ## acts are kept -/
theorem Sqm.eq {f g : Nat → Int32} {S : Nat → Nat} (h : Sqm g S) (hV : VS S) (e : ∀ k, k < 39 → f k = g k) : Sqm f S := by
  obtain ⟨h1, h2, h3, h4, h5, h6⟩ := h
  have hn := hV.2.1
  refine ⟨by rw [e 0 (by omega)]; exact h1, by rw [e 1 (by omega)]; exact h2, by rw [e 3 (by omega)]; exact h3, by rw [e 4 (by omega)]; exact h4, fun j hj => ?_, fun j h7 h8 => ?_⟩
  · rw [e (5 + j) (by omega), e (10 + j) (by omega), e (15 + j) (by omega), e (20 + j) (by omega)]
    exact h5 j hj
  · rw [e (20 + j) (by omega)]
    exact h6 j h7 h8
/-- 39 places come from one array to another -/
theorem loop_cp {body : Int32 × Mem → Option ((Int32 × Mem) ⊕ Mem)} {M : Mem} {ca cb oa ob : Nat} (hne : ca ≠ cb) (he : ∀ M2 : Mem, (∀ a, a ≠ cb → M2 a = M a) → body (nI 39, M2) = some (.inr M2)) (hs : ∀ i M2, i < 39 → (∀ a, a ≠ cb → M2 a = M a) → body (nI i, M2) = some (.inl (nI (i + 1), mset M2 cb (ob + i) (M2 ca (oa + i))))) : ∃ M', loopF body FUEL (0, M) = some M' ∧ (∀ a, a ≠ cb → M' a = M a) ∧ (∀ k, k < 39 → M' cb (ob + k) = M ca (oa + k)) ∧ ∀ e, (e < ob ∨ ob + 39 ≤ e) → M' cb e = M cb e := by
  have key := loopF_rel (body := body) 39 (fun i z => z.1 = nI i ∧ (∀ a, a ≠ cb → z.2 a = M a) ∧ (∀ k, k < i → z.2 cb (ob + k) = M ca (oa + k)) ∧ ∀ e, (e < ob ∨ ob + 39 ≤ e) → z.2 cb e = M cb e) (fun M' => (∀ a, a ≠ cb → M' a = M a) ∧ (∀ k, k < 39 → M' cb (ob + k) = M ca (oa + k)) ∧ ∀ e, (e < ob ∨ ob + 39 ≤ e) → M' cb e = M cb e) ?_ ?_ (fuel := FUEL) (FUEL_lt (by omega)) (s := (0, M)) ⟨rfl, fun _ _ => rfl, fun k hk => absurd hk (by omega), fun _ _ => rfl⟩
  · exact key
  · rintro i ⟨x, M2⟩ hi ⟨rfl, h1, h2, h3⟩
    dsimp only at h1 h2 h3
    refine ⟨_, hs i M2 hi h1, rfl, fun a ha => ?_, fun k hk => ?_, fun e he => ?_⟩
    · dsimp only
      rw [mset_ne _ _ _ ha, h1 a ha]
    · dsimp only
      rw [mset_self, upd_at]
      by_cases e : k = i
      · rw [if_pos (by rw [e]), h1 ca hne, e]
      · rw [if_neg (by omega), h2 k (by omega)]
    · dsimp only
      rw [mset_self, upd_at, if_neg (by omega), h3 e he]
  · rintro ⟨x, M2⟩ ⟨rfl, h1, h2, h3⟩
    exact ⟨M2, he M2 h1, h1, h2, h3⟩
def XA (M : Mem) (n : Nat) (p : Nat → Nat) (A : Nat → Nat → Nat) : Prop := n ≤ 24 ∧ M 26 1 = nI n ∧ (∀ i, i < 24 → M 27 i = nI (p i) ∧ p i < 24) ∧ (∀ i j, i < 24 → j < 24 → p i = p j → i = j) ∧ ∀ i, i < n → Sqx M (28 + 7 * p i) (A i)
def YA (M : Mem) (n : Nat) (A : Nat → Nat → Nat) : Prop := M 234 10 = nI n ∧ ∀ i, i < n → Sqm (fun k => M 241 (39 * i + k)) (A i)
theorem acts_split {M : Mem} (h : ActsI M) : ∃ n p A, XA M n p A ∧ YA M n A ∧ ∀ i, i < n → VS (A i) := by
  obtain ⟨n, p, A, a1, a2, a3, a4, a5, a6⟩ := h
  exact ⟨n, p, A, ⟨a1, a2, a4, a5, fun i hi => (a6 i hi).1⟩, ⟨a3, fun i hi => (a6 i hi).2.1⟩, fun i hi => (a6 i hi).2.2⟩
theorem acts_join {M : Mem} {n : Nat} {p : Nat → Nat} {A : Nat → Nat → Nat} (h1 : XA M n p A) (h2 : YA M n A) (h3 : ∀ i, i < n → VS (A i)) : ActsI M := ⟨n, p, A, h1.1, h1.2.1, h2.1, h1.2.2.1, h1.2.2.2.1, fun i hi => ⟨h1.2.2.2.2 i hi, h2.2 i hi, h3 i hi⟩⟩
theorem kd_act : ∀ p, p < 24 → kd (28 + 7 * p) = 5 := by decide +kernel
def kpN (n : Nat) : Nat := if n < 24 then n + 1 else 24
def kpA (n : Nat) (A : Nat → Nat → Nat) (S : Nat → Nat) (i : Nat) : Nat → Nat := if n < 24 then (if i < n then A i else S) else (if i < 23 then A (i + 1) else S)
theorem kpA_VS {n : Nat} {A : Nat → Nat → Nat} {S : Nat → Nat} (hn : n ≤ 24) (hA : ∀ i, i < n → VS (A i)) (hS : VS S) (i : Nat) : VS (kpA n A S i) := by
  unfold kpA
  by_cases h : n < 24
  · rw [if_pos h]
    by_cases q : i < n
    · rw [if_pos q]; exact hA i q
    · rw [if_neg q]; exact hS
  · rw [if_neg h]
    by_cases q : i < 23
    · rw [if_pos q]; exact hA _ (by omega)
    · rw [if_neg q]; exact hS
theorem xat_act {M : Mem} {p : Nat → Nat} (h : ∀ i, i < 24 → M 27 i = nI (p i) ∧ p i < 24) {i : Nat} (hi : i < 24) : m_X0_at M (nI i) = some (some (28 + 7 * p i)) := by
  obtain ⟨h1, h2⟩ := h i hi
  unfold m_X0_at
  rw [if_neg (nI_pos (by omega)), if_neg (by rw [show (24 : Int32) = nI 24 from rfl]; exact nI_ge hi (by omega)), chk_of (inB_nI hi (by omega)), nI_clamp (by omega), h1, nI_clamp (by omega)]
theorem xkeep16 {M : Mem} {n : Nat} {p : Nat → Nat} {A : Nat → Nat → Nat} {S : Nat → Nat} (h : XA M n p A) (hn : n < 24) (hA : ∀ i, i < n → VS (A i)) (hX : Sqx M 4 S) (hV : VS S) : ∃ M1, j_X0_keep_16 M 4 = some M1 ∧ XA M1 (n + 1) p (fun i => if i < n then A i else S) ∧ ∀ a, a < 26 ∨ 195 < a → M1 a = M a := by
  obtain ⟨h1, h2, h3, h4, h5⟩ := h
  have hp := (h3 n hn).2
  unfold j_X0_keep_16
  rw [h2, xat_act h3 hn, Option.bind_some]
  show ∃ M1, chk (kdB (28 + 7 * p n) 5) _ = _ ∧ _
  rw [chk_of (kdB_of (kd_act _ hp))]
  obtain ⟨M1, t1, t2, t3, t4, t5⟩ := xtake (M := M) (q := 28 + 7 * p n) (p := 4) (kd_act _ hp) (by decide) (by omega) hX hV
  rw [t1, Option.bind_some, nm_eq, t3 26 (by omega), h2, nI_1]
  refine ⟨_, rfl, ⟨by omega, ?_, fun i hi => ?_, h4, fun i hi => ?_⟩, fun a ha => ?_⟩
  · rw [mset_self, upd_at, if_pos rfl]
  · rw [mset_ne _ _ _ (by decide), t3 27 (by omega)]
    exact h3 i hi
  · dsimp only
    by_cases q : i < n
    · rw [if_pos q]
      have hpi := (h3 i (by omega)).2
      have hne : p i ≠ p n := fun z => by have := h4 i n (by omega) hn z; omega
      exact (h5 i q).eq (hA i q) (by rw [mset_ne _ _ _ (by omega), t3 _ (by omega)]) (fun j hj => by rw [mset_ne _ _ _ (by omega), t3 _ (by omega)])
    · rw [if_neg q]
      have : i = n := by omega
      subst this
      exact t2.eq hV (by rw [mset_ne _ _ _ (by omega)]) (fun j hj => by rw [mset_ne _ _ _ (by omega)])
  · rw [mset_ne _ _ _ (by omega), t3 a (by omega)]
def ppF (p : Nat → Nat) (i k : Nat) : Nat := if k < i then p (k + 1) else if k = i then p 0 else p k
theorem xforget {M : Mem} {p : Nat → Nat} {A : Nat → Nat → Nat} (h : XA M 24 p A) (hA : ∀ i, i < 24 → VS (A i)) : ∃ M1, m_X0_forgetOldest M = some M1 ∧ XA M1 23 (ppF p 23) (fun i => A (i + 1)) ∧ ∀ a, a ≠ 26 → a ≠ 27 → M1 a = M a := by
  obtain ⟨h1, h2, h3, h4, h5⟩ := h
  unfold m_X0_forgetOldest
  have hpp : ∀ i k, i < 24 → k < 24 → ppF p i k < 24 := by
    intro i k hi hk
    unfold ppF
    by_cases q : k < i
    · rw [if_pos q]; exact (h3 _ (by omega)).2
    · rw [if_neg q]
      by_cases q2 : k = i
      · rw [if_pos q2]; exact (h3 0 (by omega)).2
      · rw [if_neg q2]; exact (h3 k hk).2
  have key := loopF_rel (body := fun z => b_X0_forgetOldest_2 z.2 z.1) 23 (fun i z => z.1 = nI (i + 1) ∧ (∀ a, a ≠ 27 → z.2 a = M a) ∧ ∀ k, k < 24 → z.2 27 k = nI (ppF p i k)) (fun M' => (∀ a, a ≠ 27 → M' a = M a) ∧ ∀ k, k < 24 → M' 27 k = nI (ppF p 23 k)) ?_ ?_ (fuel := FUEL) (FUEL_lt (by omega)) (s := (1, M)) ⟨rfl, fun _ _ => rfl, fun k hk => by
    show M 27 k = _
    rw [(h3 k hk).1]
    unfold ppF
    by_cases e : k = 0
    · rw [if_neg (by omega), if_pos e, e]
    · rw [if_neg (by omega), if_neg e]⟩
  · obtain ⟨M', g1, g2, g3⟩ := key
    have g1' : loopF (fun z => b_X0_forgetOldest_2 z.2 z.1) FUEL (1, M) = some M' := g1
    rw [g1', Option.bind_some, nm_eq, g2 26 (by decide), h2, show nI 24 - 1 = nI 23 by decide]
    refine ⟨_, rfl, ⟨by omega, by rw [mset_self, upd_at, if_pos rfl], fun i hi => ⟨by rw [mset_ne _ _ _ (by decide), g3 i hi], hpp 23 i (by omega) hi⟩, fun i j hi hj e => ?_, fun i hi => ?_⟩, fun a a1 a2 => by rw [mset_ne _ _ _ a1, g2 a a2]⟩
    · unfold ppF at e
      by_cases q1 : i < 23
      · rw [if_pos q1] at e
        by_cases q2 : j < 23
        · rw [if_pos q2] at e
          have := h4 _ _ (by omega) (by omega) e
          omega
        · rw [if_neg q2, if_pos (by omega)] at e
          have := h4 _ _ (by omega) (by omega) e
          omega
      · rw [if_neg q1, if_pos (by omega)] at e
        by_cases q2 : j < 23
        · rw [if_pos q2] at e
          have := h4 _ _ (by omega) (by omega) e
          omega
        · omega
    · have ei : ppF p 23 i = p (i + 1) := if_pos hi
      rw [ei]
      have hpi := (h3 (i + 1) (by omega)).2
      exact (h5 (i + 1) (by omega)).eq (hA _ (by omega)) (by rw [mset_ne _ _ _ (by omega), g2 _ (by omega)]) (fun j hj => by rw [mset_ne _ _ _ (by omega), g2 _ (by omega)])
  · rintro i ⟨x, M2⟩ hi ⟨rfl, g1, g2⟩
    dsimp only at g1 g2
    show ∃ s', b_X0_forgetOldest_2 M2 (nI (i + 1)) = _ ∧ _
    unfold b_X0_forgetOldest_2
    have k1 := hpp i i (by omega) (by omega)
    have k2 := hpp i (i + 1) (by omega) (by omega)
    rw [if_neg (by rw [show (24 : Int32) = nI 24 from rfl]; exact nI_ge (by omega) (by omega)), nI_pred, chk_of (inB_nI (by omega) (by omega)), chk_of (inB_nI (by omega) (by omega)), nI_clamp (by omega), nI_clamp (by omega), g2 i (by omega), g2 (i + 1) (by omega), nI_clamp (by omega), nI_clamp (by omega), chk_of (kdB_of (kd_act _ k1)), chk_of (inB_nI (by omega) (by omega)), nm_eq, chk_of (kdB_of (kd_act _ k2)), chk_of (inB_nI (by omega) (by omega)), nm_eq, nI_1]
    refine ⟨_, rfl, rfl, fun a ha => ?_, fun k hk => ?_⟩
    · dsimp only
      rw [mset_ne _ _ _ ha, mset_ne _ _ _ ha, g1 a ha]
    · dsimp only
      rw [mset_self, upd_at]
      unfold ppF
      by_cases e : k = i
      · subst e
        rw [if_pos rfl, if_neg (by omega), if_neg (by omega), if_pos (by omega)]
      · rw [if_neg e, mset_self, upd_at]
        by_cases e2 : k = i + 1
        · subst e2
          rw [if_pos rfl, if_neg (by omega), if_pos rfl, if_neg (by omega), if_pos rfl]
        · rw [if_neg e2, g2 k hk]
          unfold ppF
          by_cases q : k < i
          · rw [if_pos q, if_pos (by omega)]
          · rw [if_neg q, if_neg e, if_neg (by omega), if_neg e2]
  · rintro ⟨x, M2⟩ ⟨rfl, g1, g2⟩
    show ∃ r, b_X0_forgetOldest_2 M2 (nI (23 + 1)) = _ ∧ _
    unfold b_X0_forgetOldest_2
    rw [if_pos (by decide)]
    exact ⟨M2, rfl, g1, g2⟩
theorem xkeep {M : Mem} {n : Nat} {p : Nat → Nat} {A : Nat → Nat → Nat} {S : Nat → Nat} (h : XA M n p A) (hA : ∀ i, i < n → VS (A i)) (hX : Sqx M 4 S) (hV : VS S) : ∃ M1 p', m_X0_keep M 4 = some M1 ∧ XA M1 (kpN n) p' (kpA n A S) ∧ ∀ a, a < 26 ∨ 195 < a → M1 a = M a := by
  unfold m_X0_keep
  rw [h.2.1]
  by_cases hn : n < 24
  · rw [if_pos (by rw [show (24 : Int32) = nI 24 from rfl]; exact nI_lt hn (by omega))]
    obtain ⟨M1, k1, k2, k3⟩ := xkeep16 h hn hA hX hV
    refine ⟨M1, p, k1, ?_, k3⟩
    have e1 : kpN n = n + 1 := if_pos hn
    have e2 : kpA n A S = fun i => if i < n then A i else S := by
      funext i
      unfold kpA
      rw [if_pos hn]
    rw [e1, e2]
    exact k2
  · have e : n = 24 := by have := h.1; omega
    subst e
    rw [if_neg (by decide)]
    obtain ⟨M1, f1, f2, f3⟩ := xforget h hA
    obtain ⟨M2, k1, k2, k3⟩ := xkeep16 f2 (by omega) (fun i hi => hA _ (by omega)) (hX.eq hV (f3 4 (by decide) (by decide)) (fun j hj => f3 _ (by omega) (by omega))) hV
    rw [f1, Option.bind_some]
    refine ⟨M2, ppF p 23, k1, ?_, fun a ha => by rw [k3 a ha, f3 a (by omega) (by omega)]⟩
    exact k2
theorem ykeep49 {M : Mem} {n : Nat} {A : Nat → Nat → Nat} {S : Nat → Nat} (h : YA M n A) (hn : n < 24) (hA : ∀ i, i < n → VS (A i)) (hY : Sqm (M 239) S) (hV : VS S) : ∃ M1, j_X8_keeps_49 M = some M1 ∧ YA M1 (n + 1) (fun i => if i < n then A i else S) ∧ (∀ a, a ≠ 241 → a ≠ 234 → M1 a = M a) ∧ ∀ j, j ≠ 10 → M1 234 j = M 234 j := by
  obtain ⟨h1, h2⟩ := h
  unfold j_X8_keeps_49
  obtain ⟨M1, c1, c2, c3, c4⟩ := loop_cp (body := fun z => b_X8_keeps_51 z.2 z.1) (M := M) (ca := 239) (cb := 241) (oa := 0) (ob := 39 * n) (by decide) (by
    intro M2 hM
    show b_X8_keeps_51 M2 (nI 39) = _
    unfold b_X8_keeps_51
    rw [if_pos (by decide)]) (by
    intro i M2 hi hM
    show b_X8_keeps_51 M2 (nI i) = _
    unfold b_X8_keeps_51
    rw [if_neg (by rw [show (39 : Int32) = nI 39 from rfl]; exact nI_ge hi (by omega)), chk_of (inB_nI hi (by omega)), hM 234 (by decide), h1, show (39 : Int32) = nI 39 from rfl, pk_mul, nI_add, chk_of (inB_nI (by omega) (by omega)), nm_eq, nI_clamp (by omega), nI_clamp (by omega), nI_1, Nat.zero_add])
  have c1' : loopF (fun z => b_X8_keeps_51 z.2 z.1) FUEL (0, M) = some M1 := c1
  rw [c1', Option.bind_some, nm_eq, c2 234 (by decide), h1, nI_1]
  refine ⟨_, rfl, ⟨by rw [mset_self, upd_at, if_pos rfl], fun i hi => ?_⟩, fun a a1 a2 => by rw [mset_ne _ _ _ a2, c2 a a1], fun j hj => by rw [mset_self, upd_at, if_neg hj, c2 234 (by decide)]⟩
  dsimp only
  by_cases q : i < n
  · rw [if_pos q]
    exact (h2 i q).eq (hA i q) (fun k hk => by rw [mset_ne _ _ _ (by decide), c4 _ (by omega)])
  · rw [if_neg q]
    have : i = n := by omega
    subst this
    exact hY.eq hV (fun k hk => by rw [mset_ne _ _ _ (by decide), c3 k hk, Nat.zero_add])
theorem ykeeps {M : Mem} {n : Nat} {A : Nat → Nat → Nat} {S : Nat → Nat} (h : YA M n A) (hn : n ≤ 24) (hA : ∀ i, i < n → VS (A i)) (hY : Sqm (M 239) S) (hV : VS S) : ∃ M1, m_X8_keeps M = some M1 ∧ YA M1 (kpN n) (kpA n A S) ∧ (∀ a, a ≠ 241 → a ≠ 234 → M1 a = M a) ∧ ∀ j, j ≠ 10 → M1 234 j = M 234 j := by
  unfold m_X8_keeps
  rw [h.1]
  by_cases hn2 : n = 24
  · subst hn2
    rw [if_pos (by decide)]
    have key := loopF_rel (body := fun z => b_X8_keeps_11 z.2 z.1) 897 (fun i z => z.1 = nI i ∧ (∀ a, a ≠ 241 → z.2 a = M a) ∧ ∀ k, z.2 241 k = if k < i then M 241 (k + 39) else M 241 k) (fun M' => (∀ a, a ≠ 241 → M' a = M a) ∧ ∀ k, M' 241 k = if k < 897 then M 241 (k + 39) else M 241 k) ?_ ?_ (fuel := FUEL) (FUEL_lt (by omega)) (s := (0, M)) ⟨rfl, fun _ _ => rfl, fun k => by rw [if_neg (by omega)]⟩
    · obtain ⟨M', g1, g2, g3⟩ := key
      have g1' : loopF (fun z => b_X8_keeps_11 z.2 z.1) FUEL (0, M) = some M' := g1
      rw [g1', Option.bind_some, nm_eq, g2 234 (by decide), h.1, show nI 24 - 1 = nI 23 by decide]
      have hY2 : YA (mset M' 234 10 (nI 23)) 23 (fun i => A (i + 1)) := by
        refine ⟨by rw [mset_self, upd_at, if_pos rfl], fun i hi => ?_⟩
        refine (h.2 (i + 1) (by omega)).eq (hA _ (by omega)) (fun k hk => ?_)
        rw [mset_ne _ _ _ (by decide), g3, if_pos (by omega), show 39 * i + k + 39 = 39 * (i + 1) + k by omega]
      obtain ⟨M1, k1, k2, k3, k4⟩ := ykeep49 hY2 (by omega) (fun i hi => hA _ (by omega)) (by rw [mset_ne _ _ _ (by decide), g2 239 (by decide)]; exact hY) hV
      refine ⟨M1, k1, k2, fun a a1 a2 => by rw [k3 a a1 a2, mset_ne _ _ _ a2, g2 a a1], fun j hj => by rw [k4 j hj, mset_self, upd_at, if_neg hj, g2 234 (by decide)]⟩
    · rintro i ⟨x, M2⟩ hi ⟨rfl, g1, g2⟩
      dsimp only at g1 g2
      show ∃ s', b_X8_keeps_11 M2 (nI i) = _ ∧ _
      unfold b_X8_keeps_11
      rw [if_neg (by rw [show (897 : Int32) = nI 897 from rfl]; exact nI_ge hi (by omega)), show (39 : Int32) = nI 39 from rfl, nI_add, chk_of (inB_nI (by omega) (by omega)), chk_of (inB_nI (by omega) (by omega)), nm_eq, nI_clamp (by omega), nI_clamp (by omega), nI_1]
      refine ⟨_, rfl, rfl, fun a ha => ?_, fun k => ?_⟩
      · dsimp only
        rw [mset_ne _ _ _ ha, g1 a ha]
      · dsimp only
        rw [mset_self, upd_at]
        by_cases e : k = i
        · rw [if_pos e, if_pos (by omega), g2, if_neg (by omega), e]
        · rw [if_neg e, g2]
          by_cases q : k < i
          · rw [if_pos q, if_pos (by omega)]
          · rw [if_neg q, if_neg (by omega)]
    · rintro ⟨x, M2⟩ ⟨rfl, g1, g2⟩
      show ∃ r, b_X8_keeps_11 M2 (nI 897) = _ ∧ _
      unfold b_X8_keeps_11
      rw [if_pos (by decide)]
      exact ⟨M2, rfl, g1, g2⟩
  · rw [if_neg (by rw [show (24 : Int32) = nI 24 from rfl, nI_eq (by omega) (by omega)]; exact hn2)]
    obtain ⟨M1, k1, k2, k3, k4⟩ := ykeep49 h (by omega) hA hY hV
    refine ⟨M1, k1, ?_, k3, k4⟩
    have e1 : kpN n = n + 1 := if_pos (by omega)
    have e2 : kpA n A S = fun i => if i < n then A i else S := by
      funext i
      unfold kpA
      rw [if_pos (by omega)]
    rw [e1, e2]
    exact k2
/-- nothing but scratch, the square, the acts has changed -/
def EqA (M M' : Mem) : Prop := (∀ a, ¬ scr a → ¬ (4 ≤ a ∧ a ≤ 10) → ¬ (26 ≤ a ∧ a ≤ 195) → a ≠ 239 → a ≠ 241 → M' a = M a) ∧ M' 2 1 = M 2 1 ∧ M' 234 0 = M 234 0 ∧ M' 234 5 = M 234 5 ∧ M' 234 6 = M 234 6 ∧ M' 234 14 = M 234 14
theorem EqA.trans {A B C : Mem} (h1 : EqA A B) (h2 : EqA B C) : EqA A C := by
  obtain ⟨a1, a2, a3, a4, a5, a6⟩ := h1
  obtain ⟨b1, b2, b3, b4, b5, b6⟩ := h2
  exact ⟨fun a h i j k l => (b1 a h i j k l).trans (a1 a h i j k l), b2.trans a2, b3.trans a3, b4.trans a4, b5.trans a5, b6.trans a6⟩
theorem EqI.a {A B : Mem} (h : EqI A B) : EqA A B := by
  obtain ⟨a1, a2, a3, a4, a5, a6, a7⟩ := h
  exact ⟨fun a h _ _ _ _ => a1 a h, a2, a3, a4, a5, a7⟩
theorem eqA_x {M M' : Mem} (h : ∀ a, a < 4 ∨ (10 < a ∧ a < 26) ∨ 195 < a → M' a = M a) : EqA M M' := ⟨fun a _ h1 h2 _ _ => h a (by omega), congrFun (h 2 (by omega)) _, congrFun (h 234 (by omega)) _, congrFun (h 234 (by omega)) _, congrFun (h 234 (by omega)) _, congrFun (h 234 (by omega)) _⟩
theorem eqA_y {M M' : Mem} (h : ∀ a, a ≠ 239 → a ≠ 241 → a ≠ 234 → M' a = M a) (h2 : ∀ j, j ≠ 10 → M' 234 j = M 234 j) : EqA M M' := ⟨fun a h1 _ _ h3 h4 => h a h3 h4 (fun z => h1 (by unfold scr; omega)), congrFun (h 2 (by omega) (by omega) (by omega)) _, h2 _ (by omega), h2 _ (by omega), h2 _ (by omega), h2 _ (by omega)⟩
theorem inv_A {M M' : Mem} (h : Inv M) (e : EqA M M') (hS : ∃ S, SqI M' S) (hA : ActsI M') : Inv M' := by
  obtain ⟨h1, h2, -, -, h5, h6, h7⟩ := h
  obtain ⟨s, e2, e3, e4, e5, e6⟩ := e
  exact ⟨h1.eq (fun r hr => s _ (by unfold scr; omega) (by omega) (by omega) (by omega) (by omega)) (s _ (by unfold scr; omega) (by omega) (by omega) (by omega) (by omega)) (s _ (by unfold scr; omega) (by omega) (by omega) (by omega) (by omega)) (s _ (by unfold scr; omega) (by omega) (by omega) (by omega) (by omega)),
    h2.eq e2 e4 (s _ (by unfold scr; omega) (by omega) (by omega) (by omega) (by omega)) (s _ (by unfold scr; omega) (by omega) (by omega) (by omega) (by omega)),
    hS, hA,
    h5.eq (fun a ha hb => s a (by unfold scr; omega) (by omega) (by omega) (by omega) (by omega)) (s _ (by unfold scr; omega) (by omega) (by omega) (by omega) (by omega)) (s _ (by unfold scr; omega) (by omega) (by omega) (by omega) (by omega)),
    h6.eq (s _ (by unfold scr; omega) (by omega) (by omega) (by omega) (by omega)) e6 (s _ (by unfold scr; omega) (by omega) (by omega) (by omega) (by omega)) (s _ (by unfold scr; omega) (by omega) (by omega) (by omega) (by omega)),
    h7.eq (s _ (by unfold scr; omega) (by omega) (by omega) (by omega) (by omega)) e3 e5⟩
theorem XA.keep {M M' : Mem} {n : Nat} {p : Nat → Nat} {A : Nat → Nat → Nat} (h : XA M n p A) (hA : ∀ i, i < n → VS (A i)) (e : ∀ a, 26 ≤ a → a ≤ 195 → M' a = M a) : XA M' n p A := by
  obtain ⟨h1, h2, h3, h4, h5⟩ := h
  refine ⟨h1, by rw [e 26 (by omega) (by omega)]; exact h2, by rw [e 27 (by omega) (by omega)]; exact h3, h4, fun i hi => ?_⟩
  have hp := (h3 i (by omega)).2
  exact (h5 i hi).eq (hA i hi) (e _ (by omega) (by omega)) (fun j hj => e _ (by omega) (by omega))
theorem YA.keep {M M' : Mem} {n : Nat} {A : Nat → Nat → Nat} (h : YA M n A) (e1 : M' 234 10 = M 234 10) (e2 : M' 241 = M 241) : YA M' n A := by
  obtain ⟨h1, h2⟩ := h
  exact ⟨by rw [e1]; exact h1, by rw [e2]; exact h2⟩
