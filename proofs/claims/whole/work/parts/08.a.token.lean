/-! ## tokens -/
def sps (b : Nat) : Bool := b == 32 || b == 10
def ltr (b : Nat) : Bool := decide (97 ≤ b) && decide (b ≤ 122)
def fig (b : Nat) : Bool := decide (48 ≤ b) && decide (b ≤ 57)
def runF (p : Nat → Bool) (t : Nat → Nat) (n : Nat) : Nat → Nat → Nat
  | 0, i => i
  | f + 1, i => if i < n ∧ p (t i) = true then runF p t n f (i + 1) else i
def runN (p : Nat → Bool) (t : Nat → Nat) (n i : Nat) : Nat := runF p t n (n - i) i
theorem runF_spec (p : Nat → Bool) (t : Nat → Nat) (n : Nat) : ∀ f i, i + f = n → i ≤ runF p t n f i ∧ runF p t n f i ≤ n ∧ (∀ k, i ≤ k → k < runF p t n f i → p (t k) = true) ∧ (runF p t n f i < n → p (t (runF p t n f i)) = false) := by
  intro f
  induction f with
  | zero =>
    intro i h
    exact ⟨Nat.le_refl _, by show i ≤ n; omega, fun k h1 h2 => by have : k < i := h2; omega, fun h2 => by have : i < n := h2; omega⟩
  | succ f ih =>
    intro i h
    unfold runF
    by_cases q : i < n ∧ p (t i) = true
    · rw [if_pos q]
      obtain ⟨h1, h2, h3, h4⟩ := ih (i + 1) (by omega)
      refine ⟨by omega, h2, fun k h5 h6 => ?_, h4⟩
      by_cases e : k = i
      · rw [e]; exact q.2
      · exact h3 k (by omega) h6
    · rw [if_neg q]
      refine ⟨Nat.le_refl _, by omega, fun k h5 h6 => by omega, fun h5 => ?_⟩
      have : ¬ p (t i) = true := fun z => q ⟨h5, z⟩
      simpa using this
theorem run_spec (p : Nat → Bool) (t : Nat → Nat) {n i : Nat} (h : i ≤ n) : i ≤ runN p t n i ∧ runN p t n i ≤ n ∧ (∀ k, i ≤ k → k < runN p t n i → p (t k) = true) ∧ (runN p t n i < n → p (t (runN p t n i)) = false) := runF_spec p t n (n - i) i (by omega)
/-- start, sort, the next -/
def tok (t : Nat → Nat) (n i : Nat) : Nat × Nat × Nat :=
  if runN sps t n i < n then
    (if ltr (t (runN sps t n i)) = true then (runN sps t n i, 1, runN ltr t n (runN sps t n i))
     else if fig (t (runN sps t n i)) = true then (runN sps t n i, (if runN fig t n (runN sps t n i) - runN sps t n i ≤ 3 then 2 else 4), runN fig t n (runN sps t n i))
     else if t (runN sps t n i) = 59 then (runN sps t n i, 3, runN sps t n i + 1) else (runN sps t n i, 4, runN sps t n i + 1))
  else (runN sps t n i, 0, runN sps t n i)
theorem tok_spec (t : Nat → Nat) {n i : Nat} (h : i ≤ n) : (tok t n i).1 ≤ (tok t n i).2.2 ∧ (tok t n i).2.2 ≤ n ∧ (tok t n i).2.1 ≤ 4 ∧ ((tok t n i).2.1 = 1 → ∀ k, (tok t n i).1 ≤ k → k < (tok t n i).2.2 → ltr (t k) = true) := by
  obtain ⟨h1, h2, h3, h4⟩ := run_spec sps t h
  generalize runN sps t n i = s at *
  unfold tok
  have e : runN sps t n i = runN sps t n i := rfl
  obtain ⟨l1, l2, l3, l4⟩ := run_spec ltr t (n := n) (i := runN sps t n i) (run_spec sps t h).2.1
  obtain ⟨f1, f2, f3, f4⟩ := run_spec fig t (n := n) (i := runN sps t n i) (run_spec sps t h).2.1
  have hs := (run_spec sps t h).2.1
  by_cases q1 : runN sps t n i < n
  · rw [if_pos q1]
    by_cases q2 : ltr (t (runN sps t n i)) = true
    · rw [if_pos q2]
      exact ⟨l1, l2, by show 1 ≤ 4; omega, fun _ => l3⟩
    · rw [if_neg q2]
      by_cases q3 : fig (t (runN sps t n i)) = true
      · rw [if_pos q3]
        refine ⟨f1, f2, ?_, fun z => ?_⟩
        · by_cases q : runN fig t n (runN sps t n i) - runN sps t n i ≤ 3
          · rw [if_pos q]; show 2 ≤ 4; omega
          · rw [if_neg q]; exact Nat.le_refl _
        · exfalso
          by_cases q : runN fig t n (runN sps t n i) - runN sps t n i ≤ 3
          · rw [if_pos q] at z; exact absurd (show (2 : Nat) = 1 from z) (by decide)
          · rw [if_neg q] at z; exact absurd (show (4 : Nat) = 1 from z) (by decide)
      · rw [if_neg q3]
        by_cases q4 : t (runN sps t n i) = 59
        · rw [if_pos q4]
          exact ⟨Nat.le_succ _, q1, by show 3 ≤ 4; omega, fun z => absurd (show (3 : Nat) = 1 from z) (by decide)⟩
        · rw [if_neg q4]
          exact ⟨Nat.le_succ _, q1, by show 4 ≤ 4; omega, fun z => absurd (show (4 : Nat) = 1 from z) (by decide)⟩
  · rw [if_neg q1]
    exact ⟨Nat.le_refl _, hs, Nat.zero_le _, fun z => absurd (show (0 : Nat) = 1 from z) (by decide)⟩
def vI' (t : Nat → Nat) (s : Nat) : Nat → Int32
  | 0 => 0
  | k + 1 => (10 * vI' t s k + nI (t (s + k))) - 48
def TPx (M : Mem) (t : Nat → Nat) (n : Nat) : Prop := n ≤ 300 ∧ M 2 1 = nI n ∧ ∀ k, k < n → M 3 k = nI (t k) ∧ t k < 256
def TPy (M : Mem) (t : Nat → Nat) (n : Nat) : Prop := n ≤ 300 ∧ M 234 5 = nI n ∧ ∀ k, k < n → M 238 k = nI (t k) ∧ t k < 256
def XTk (M : Mem) (t : Nat → Nat) (T : Nat × Nat × Nat) : Prop := M 2 2 = nI T.1 ∧ M 2 3 = nI T.2.2 ∧ M 2 4 = nI T.2.1 ∧ (T.2.1 = 2 → M 2 5 = vI' t T.1 (T.2.2 - T.1))
def YTk (M : Mem) (T : Nat × Nat × Nat) : Prop := M 234 17 = nI T.1 ∧ M 234 15 = nI T.2.2 ∧ M 234 16 = nI T.2.1 ∧ M 234 18 = nI (T.2.2 - T.1)
theorem xletter (M : Mem) {b : Nat} (hb : b < 256) : m_X6_isLetter M (nI b) = some (if ltr b = true then 1 else 0) := by
  have h : ∀ b, b < 256 → m_X6_isLetter (fun _ _ => 0) (nI b) = some (if ltr b = true then 1 else 0) := by decide +kernel
  exact h b hb
theorem xfigure (M : Mem) {b : Nat} (hb : b < 256) : m_X6_isFigure M (nI b) = some (if fig b = true then 1 else 0) := by
  have h : ∀ b, b < 256 → m_X6_isFigure (fun _ _ => 0) (nI b) = some (if fig b = true then 1 else 0) := by decide +kernel
  exact h b hb
def srt (b : Nat) : Nat := if ltr b = true then 1 else if fig b = true then 2 else if b = 59 then 3 else 4
theorem ysort (M : Mem) {b : Nat} (hb : b < 256) : m_X8_sortOf M (nI b) = some (nI (srt b)) := by
  have h : ∀ b, b < 256 → m_X8_sortOf (fun _ _ => 0) (nI b) = some (nI (srt b)) := by decide +kernel
  exact h b hb
theorem ysort_end (M : Mem) : m_X8_sortOf M (-1) = some 0 := rfl
theorem srt_1 (b : Nat) : srt b = 1 ↔ ltr b = true := by
  unfold srt
  by_cases q1 : ltr b = true
  · rw [if_pos q1]; exact ⟨fun _ => q1, fun _ => rfl⟩
  · rw [if_neg q1]
    refine ⟨fun z => ?_, fun z => absurd z q1⟩
    exfalso
    by_cases q2 : fig b = true
    · rw [if_pos q2] at z; exact absurd z (by decide)
    · rw [if_neg q2] at z
      by_cases q3 : b = 59
      · rw [if_pos q3] at z; exact absurd z (by decide)
      · rw [if_neg q3] at z; exact absurd z (by decide)
theorem lf (b : Nat) (h : fig b = true) : ltr b = false := by
  unfold fig at h
  unfold ltr
  simp only [Bool.and_eq_true, decide_eq_true_eq] at h
  rw [Bool.and_eq_false_iff]
  left
  exact decide_eq_false (by omega)
theorem srt_2 (b : Nat) : srt b = 2 ↔ fig b = true := by
  unfold srt
  by_cases q2 : fig b = true
  · rw [lf b q2, if_neg (by decide), if_pos q2]
    exact ⟨fun _ => q2, fun _ => rfl⟩
  · rw [if_neg q2]
    refine ⟨fun z => ?_, fun z => absurd z q2⟩
    exfalso
    by_cases q1 : ltr b = true
    · rw [if_pos q1] at z; exact absurd z (by decide)
    · rw [if_neg q1] at z
      by_cases q3 : b = 59
      · rw [if_pos q3] at z; exact absurd z (by decide)
      · rw [if_neg q3] at z; exact absurd z (by decide)
theorem srt_le (b : Nat) : 1 ≤ srt b ∧ srt b ≤ 4 := by
  unfold srt
  by_cases q1 : ltr b = true
  · rw [if_pos q1]; omega
  · rw [if_neg q1]
    by_cases q2 : fig b = true
    · rw [if_pos q2]; omega
    · rw [if_neg q2]
      by_cases q3 : b = 59
      · rw [if_pos q3]; omega
      · rw [if_neg q3]; omega
theorem xbyte {M : Mem} {t : Nat → Nat} {n : Nat} (h : TPx M t n) {k : Nat} (hk : k < n) : m_X6_byteAt M (nI k) = some (nI (t k)) := by
  obtain ⟨h1, h2, h3⟩ := h
  unfold m_X6_byteAt
  rw [if_neg (nI_pos (by omega)), h2, if_neg (nI_ge hk (by omega)), if_neg (by rw [show (300 : Int32) = nI 300 from rfl]; exact nI_ge (by omega) (by omega)), chk_of (inB_nI (by omega) (by omega)), nI_clamp (by omega), (h3 k hk).1]
theorem ybyte {M : Mem} {t : Nat → Nat} {n : Nat} (h : TPy M t n) {k : Nat} (hk : k < n) : m_X8_byteAt M (nI k) = some (nI (t k)) := by
  obtain ⟨h1, h2, h3⟩ := h
  unfold m_X8_byteAt
  rw [h2, if_neg (nI_ge hk (by omega)), chk_of (inB_nI (by omega) (by omega)), nI_clamp (by omega), (h3 k hk).1]
theorem ybyte_end {M : Mem} {t : Nat → Nat} {n : Nat} (h : TPy M t n) : m_X8_byteAt M (nI n) = some (-1) := by
  unfold m_X8_byteAt
  rw [h.2.1, if_pos (nI_le (Nat.le_refl _) (by have := h.1; omega))]
theorem TPx.keep {M M' : Mem} {t : Nat → Nat} {n : Nat} (h : TPx M t n) (e1 : M' 2 1 = M 2 1) (e2 : M' 3 = M 3) : TPx M' t n := by
  obtain ⟨h1, h2, h3⟩ := h
  exact ⟨h1, by rw [e1]; exact h2, by rw [e2]; exact h3⟩
theorem TPy.keep {M M' : Mem} {t : Nat → Nat} {n : Nat} (h : TPy M t n) (e1 : M' 234 5 = M 234 5) (e2 : M' 238 = M 238) : TPy M' t n := by
  obtain ⟨h1, h2, h3⟩ := h
  exact ⟨h1, by rw [e1]; exact h2, by rw [e2]; exact h3⟩
/-- a loop of the class that goes on over bytes -/
theorem xrun {M : Mem} {t : Nat → Nat} {n i : Nat} (p : Nat → Bool) {body : Mem → Option (Mem ⊕ Mem)} (hT : TPx M t n) (hi : i ≤ n) (h0 : M 2 3 = nI i) (hs : ∀ (M2 : Mem) k, TPx M2 t n → k < n → M2 2 3 = nI k → body M2 = if p (t k) = true then some (.inl (mset M2 2 3 (nI (k + 1)))) else some (.inr M2)) (he : ∀ M2 : Mem, TPx M2 t n → M2 2 3 = nI n → body M2 = some (.inr M2)) : ∃ M', loopF body FUEL M = some M' ∧ M' 2 3 = nI (runN p t n i) ∧ (∀ a, a ≠ 2 → M' a = M a) ∧ ∀ j, j ≠ 3 → M' 2 j = M 2 j := by
  obtain ⟨r1, r2, r3, r4⟩ := run_spec p t hi
  have hn := hT.1
  refine loopF_rel (body := body) (runN p t n i - i) (fun k M' => M' 2 3 = nI (i + k) ∧ (∀ a, a ≠ 2 → M' a = M a) ∧ ∀ j, j ≠ 3 → M' 2 j = M 2 j) (fun M' => M' 2 3 = nI (runN p t n i) ∧ (∀ a, a ≠ 2 → M' a = M a) ∧ ∀ j, j ≠ 3 → M' 2 j = M 2 j) ?_ ?_ (fuel := FUEL) (FUEL_lt (by omega)) (s := M) ⟨h0, fun _ _ => rfl, fun _ _ => rfl⟩
  · rintro k M2 hk ⟨h1, h2, h3⟩
    have hT2 : TPx M2 t n := hT.keep (h3 1 (by decide)) (h2 3 (by decide))
    rw [hs M2 (i + k) hT2 (by omega) h1, if_pos (r3 _ (by omega) (by omega))]
    refine ⟨_, rfl, by rw [mset_self, upd_at, if_pos rfl, Nat.add_assoc], fun a ha => by rw [mset_ne _ _ _ ha, h2 a ha], fun j hj => by rw [mset_self, upd_at, if_neg hj, h3 j hj]⟩
  · rintro M2 ⟨h1, h2, h3⟩
    have hT2 : TPx M2 t n := hT.keep (h3 1 (by decide)) (h2 3 (by decide))
    rw [show i + (runN p t n i - i) = runN p t n i by omega] at h1
    by_cases q : runN p t n i < n
    · rw [hs M2 _ hT2 q h1, if_neg (by rw [r4 q]; decide)]
      exact ⟨M2, rfl, h1, h2, h3⟩
    · have e : runN p t n i = n := by omega
      rw [e] at h1 ⊢
      rw [he M2 hT2 h1]
      exact ⟨M2, rfl, h1, h2, h3⟩
theorem xspace {M : Mem} {t : Nat → Nat} {n i : Nat} (hT : TPx M t n) (hi : i ≤ n) (h0 : M 2 3 = nI i) : ∃ M', loopF (fun z => b_X6_step_0 z) FUEL M = some M' ∧ M' 2 3 = nI (runN sps t n i) ∧ (∀ a, a ≠ 2 → M' a = M a) ∧ ∀ j, j ≠ 3 → M' 2 j = M 2 j := by
  have hn := hT.1
  refine xrun sps hT hi h0 (fun M2 k h2 hk h3 => ?_) (fun M2 h2 h3 => ?_)
  · show b_X6_step_0 M2 = _
    unfold b_X6_step_0
    have hb := (h2.2.2 k hk).2
    rw [h2.2.1, h3, if_neg (nI_ge hk (by omega)), xbyte h2 hk, Option.bind_some, Option.bind_some]
    unfold j_X6_step_37 sps
    rw [h3, nI_1, nm_eq]
    by_cases c1 : t k = 32
    · rw [if_pos (by rw [c1]; rfl), if_pos (by simp [c1])]
    · rw [if_neg (by rw [show (32 : Int32) = nI 32 from rfl, nI_eq (by omega) (by omega)]; exact c1)]
      by_cases c2 : t k = 10
      · rw [if_pos (by rw [c2]; rfl), if_pos (by simp [c2])]
      · rw [if_neg (by rw [show (10 : Int32) = nI 10 from rfl, nI_eq (by omega) (by omega)]; exact c2), if_neg (by simp [c1, c2])]
  · show b_X6_step_0 M2 = _
    unfold b_X6_step_0
    rw [h2.2.1, h3, if_pos (nI_le (Nat.le_refl _) (by omega))]
theorem xnameR {M : Mem} {t : Nat → Nat} {n i : Nat} (hT : TPx M t n) (hi : i ≤ n) (h0 : M 2 3 = nI i) : ∃ M', loopF (fun z => b_X6_stepName_5 z) FUEL M = some M' ∧ M' 2 3 = nI (runN ltr t n i) ∧ (∀ a, a ≠ 2 → M' a = M a) ∧ ∀ j, j ≠ 3 → M' 2 j = M 2 j := by
  have hn := hT.1
  refine xrun ltr hT hi h0 (fun M2 k h2 hk h3 => ?_) (fun M2 h2 h3 => ?_)
  · show b_X6_stepName_5 M2 = _
    unfold b_X6_stepName_5
    have hb := (h2.2.2 k hk).2
    rw [h2.2.1, h3, if_neg (nI_ge hk (by omega)), xbyte h2 hk, Option.bind_some, xletter M2 hb, Option.bind_some, nI_1, nm_eq]
    by_cases c1 : ltr (t k) = true
    · rw [if_pos c1, if_pos c1, if_neg n10]
    · rw [if_neg c1, if_neg c1, if_pos rfl]
  · show b_X6_stepName_5 M2 = _
    unfold b_X6_stepName_5
    rw [h2.2.1, h3, if_pos (nI_le (Nat.le_refl _) (by omega))]
theorem xnumR {M : Mem} {t : Nat → Nat} {n i : Nat} (hT : TPx M t n) (hi : i ≤ n) (h0 : M 2 3 = nI i) (h5 : M 2 5 = 0) : ∃ M', loopF (fun z => b_X6_stepNumber_5 z) FUEL M = some M' ∧ M' 2 3 = nI (runN fig t n i) ∧ M' 2 5 = vI' t i (runN fig t n i - i) ∧ (∀ a, a ≠ 2 → M' a = M a) ∧ ∀ j, j ≠ 3 → j ≠ 5 → M' 2 j = M 2 j := by
  obtain ⟨r1, r2, r3, r4⟩ := run_spec fig t hi
  have hn := hT.1
  refine loopF_rel (body := fun z => b_X6_stepNumber_5 z) (runN fig t n i - i) (fun k M' => M' 2 3 = nI (i + k) ∧ M' 2 5 = vI' t i k ∧ (∀ a, a ≠ 2 → M' a = M a) ∧ ∀ j, j ≠ 3 → j ≠ 5 → M' 2 j = M 2 j) (fun M' => M' 2 3 = nI (runN fig t n i) ∧ M' 2 5 = vI' t i (runN fig t n i - i) ∧ (∀ a, a ≠ 2 → M' a = M a) ∧ ∀ j, j ≠ 3 → j ≠ 5 → M' 2 j = M 2 j) ?_ ?_ (fuel := FUEL) (FUEL_lt (by omega)) (s := M) ⟨h0, h5, fun _ _ => rfl, fun _ _ _ => rfl⟩
  · rintro k M2 hk ⟨h1, hv, h2, h3⟩
    have hT2 : TPx M2 t n := hT.keep (h3 1 (by decide) (by decide)) (h2 3 (by decide))
    have hb := (hT2.2.2 (i + k) (by omega)).2
    show ∃ s', b_X6_stepNumber_5 M2 = _ ∧ _
    unfold b_X6_stepNumber_5
    rw [hT2.2.1, h1, if_neg (nI_ge (by omega) (by omega)), xbyte hT2 (by omega), Option.bind_some, xfigure M2 hb, Option.bind_some, if_pos (r3 _ (by omega) (by omega)), if_neg n10, Option.bind_some, nm_eq, nm_eq, mset_self, upd_at, if_neg (by decide), h1, nI_1]
    refine ⟨_, rfl, by rw [mset_self, upd_at, if_pos rfl, Nat.add_assoc], ?_, fun a ha => by rw [mset_ne _ _ _ ha, mset_ne _ _ _ ha, h2 a ha], fun j hj hj2 => by rw [mset_self, upd_at, if_neg hj, mset_self, upd_at, if_neg hj2, h3 j hj hj2]⟩
    rw [mset_self, upd_at, if_neg (by decide), mset_self, upd_at, if_pos rfl, hv, Int32.mul_comm]
    rfl
  · rintro M2 ⟨h1, hv, h2, h3⟩
    have hT2 : TPx M2 t n := hT.keep (h3 1 (by decide) (by decide)) (h2 3 (by decide))
    rw [show i + (runN fig t n i - i) = runN fig t n i by omega] at h1
    show ∃ r, b_X6_stepNumber_5 M2 = _ ∧ _
    unfold b_X6_stepNumber_5
    by_cases q : runN fig t n i < n
    · have hb := (hT2.2.2 _ q).2
      rw [hT2.2.1, h1, if_neg (nI_ge q (by omega)), xbyte hT2 q, Option.bind_some, xfigure M2 hb, Option.bind_some, r4 q, if_pos (by decide)]
      exact ⟨M2, rfl, h1, hv, h2, h3⟩
    · have e : runN fig t n i = n := by omega
      rw [hT2.2.1, h1, e, if_pos (nI_le (Nat.le_refl _) (by omega))]
      refine ⟨M2, rfl, by rw [h1, e], ?_, h2, h3⟩
      rw [e] at hv
      exact hv
theorem xstep {M : Mem} {t : Nat → Nat} {n i : Nat} (hT : TPx M t n) (hi : i ≤ n) (h0 : M 2 3 = nI i) : ∃ M', m_X6_step M = some M' ∧ XTk M' t (tok t n i) ∧ (∀ a, a ≠ 2 → M' a = M a) ∧ M' 2 1 = M 2 1 := by
  have hn := hT.1
  obtain ⟨M1, s1, s2, s3, s4⟩ := xspace hT hi h0
  obtain ⟨r1, r2, r3, r4⟩ := run_spec sps t hi
  unfold m_X6_step
  rw [s1, Option.bind_some, nm_eq, s2]
  unfold tok
  generalize runN sps t n i = s at *
  generalize hM2 : mset M1 2 2 (nI s) = M2
  have g1 : ∀ a, a ≠ 2 → M2 a = M a := fun a ha => by rw [← hM2, mset_ne _ _ _ ha, s3 a ha]
  have g2 : ∀ j, j ≠ 2 → j ≠ 3 → M2 2 j = M 2 j := fun j h1 h2 => by rw [← hM2, mset_self, upd_at, if_neg h1, s4 j h2]
  have g3 : M2 2 3 = nI s := by rw [← hM2, mset_self, upd_at, if_neg (by decide), s2]
  have g4 : M2 2 2 = nI s := by rw [← hM2, mset_self, upd_at, if_pos rfl]
  have hT2 : TPx M2 t n := hT.keep (g2 1 (by decide) (by decide)) (g1 3 (by decide))
  rw [g3, hT2.2.1]
  by_cases q : s < n
  · have hb := (hT2.2.2 s q).2
    rw [if_pos (nI_lt q (by omega)), if_pos q, xbyte hT2 q, Option.bind_some, xletter M2 hb, Option.bind_some]
    by_cases c1 : ltr (t s) = true
    · rw [if_pos c1, if_pos c1, if_neg n10]
      unfold m_X6_stepName
      rw [nm_eq]
      obtain ⟨M3, n1, n2, n3, n4⟩ := xnameR (M := mset M2 2 4 1) (i := s) (hT2.keep (by rw [mset_self, upd_at, if_neg (by decide)]) (by rw [mset_ne _ _ _ (by decide)])) (by omega) (by rw [mset_self, upd_at, if_neg (by decide)]; exact g3)
      rw [n1, Option.bind_some, Option.bind_some]
      refine ⟨M3, rfl, ⟨?_, n2, ?_, fun z => absurd (show (1 : Nat) = 2 from z) (by decide)⟩, fun a ha => by rw [n3 a ha, mset_ne _ _ _ ha, g1 a ha], by rw [n4 1 (by decide), mset_self, upd_at, if_neg (by decide), g2 1 (by decide) (by decide)]⟩
      · rw [n4 2 (by decide), mset_self, upd_at, if_neg (by decide)]
        exact g4
      · rw [n4 4 (by decide), mset_self, upd_at, if_pos rfl]
        rfl
    · rw [if_neg c1, if_neg c1, if_pos rfl, Option.bind_some, xfigure M2 hb, Option.bind_some]
      by_cases c2 : fig (t s) = true
      · rw [if_pos c2, if_pos c2, if_neg n10]
        unfold m_X6_stepNumber
        rw [nm_eq]
        obtain ⟨M3, n1, n2, nv, n3, n4⟩ := xnumR (M := mset M2 2 5 0) (i := s) (hT2.keep (by rw [mset_self, upd_at, if_neg (by decide)]) (by rw [mset_ne _ _ _ (by decide)])) (by omega) (by rw [mset_self, upd_at, if_neg (by decide)]; exact g3) (by rw [mset_self, upd_at, if_pos rfl])
        obtain ⟨f1, f2, -, -⟩ := run_spec fig t (n := n) (i := s) (by omega)
        have e2 : M3 2 2 = nI s := by
          rw [n4 2 (by decide) (by decide), mset_self, upd_at, if_neg (by decide)]
          exact g4
        have fr : ∀ (v : Int32) a, a ≠ 2 → mset M3 2 4 v a = M a := fun v a ha => by rw [mset_ne _ _ _ ha, n3 a ha, mset_ne _ _ _ ha, g1 a ha]
        have fr1 : ∀ (v : Int32), mset M3 2 4 v 2 1 = M 2 1 := fun v => by rw [mset_self, upd_at, if_neg (by decide), n4 1 (by decide) (by decide), mset_self, upd_at, if_neg (by decide), g2 1 (by decide) (by decide)]
        rw [n1, Option.bind_some, n2, e2, pk_sub f1]
        by_cases c3 : runN fig t n s - s ≤ 3
        · rw [if_neg (by rw [show (3 : Int32) = nI 3 from rfl]; exact nI_nlt c3 (by omega)), if_pos c3, nm_eq, Option.bind_some]
          refine ⟨_, rfl, ⟨?_, ?_, ?_, fun _ => ?_⟩, fr 2, fr1 2⟩
          · rw [mset_self, upd_at, if_neg (by decide)]
            exact e2
          · rw [mset_self, upd_at, if_neg (by decide)]
            exact n2
          · rw [mset_self, upd_at, if_pos rfl]
            rfl
          · rw [mset_self, upd_at, if_neg (by decide)]
            exact nv
        · rw [if_pos (by rw [show (3 : Int32) = nI 3 from rfl]; exact nI_lt (by omega) (by omega)), if_neg c3, nm_eq, Option.bind_some]
          refine ⟨_, rfl, ⟨?_, ?_, ?_, fun z => absurd (show (4 : Nat) = 2 from z) (by decide)⟩, fr 4, fr1 4⟩
          · rw [mset_self, upd_at, if_neg (by decide)]
            exact e2
          · rw [mset_self, upd_at, if_neg (by decide)]
            exact n2
          · rw [mset_self, upd_at, if_pos rfl]
            rfl
      · rw [if_neg c2, if_neg c2, if_pos rfl, Option.bind_some]
        have sg : ∀ k : Nat, k = 3 ∨ k = 4 → ∃ M', j_X6_step_138 M2 (nI k) = some M' ∧ XTk M' t (s, k, s + 1) ∧ (∀ a, a ≠ 2 → M' a = M a) ∧ M' 2 1 = M 2 1 := by
          intro k hk
          unfold j_X6_step_138
          rw [nm_eq, nm_eq, mset_self, upd_at, if_neg (by decide), g3, nI_1]
          refine ⟨_, rfl, ⟨?_, ?_, ?_, fun z => ?_⟩, fun a ha => by rw [mset_ne _ _ _ ha, mset_ne _ _ _ ha, g1 a ha], ?_⟩
          · rw [mset_self, upd_at, if_neg (by decide), mset_self, upd_at, if_neg (by decide)]
            exact g4
          · rw [mset_self, upd_at, if_pos rfl]
          · rw [mset_self, upd_at, if_neg (by decide), mset_self, upd_at, if_pos rfl]
          · have : k = 2 := z
            omega
          · rw [mset_self, upd_at, if_neg (by decide), mset_self, upd_at, if_neg (by decide), g2 1 (by decide) (by decide)]
        by_cases c3 : t s = 59
        · rw [if_pos (by rw [c3]; rfl), if_pos c3]
          exact sg 3 (Or.inl rfl)
        · rw [if_neg (by rw [show (59 : Int32) = nI 59 from rfl, nI_eq (by omega) (by omega)]; exact c3), if_neg c3]
          exact sg 4 (Or.inr rfl)
  · rw [if_neg (nI_nlt (by omega) (by omega)), if_neg q, nm_eq]
    refine ⟨_, rfl, ⟨?_, ?_, ?_, fun z => absurd (show (0 : Nat) = 2 from z) (by decide)⟩, fun a ha => by rw [mset_ne _ _ _ ha, g1 a ha], ?_⟩
    · rw [mset_self, upd_at, if_neg (by decide)]
      exact g4
    · rw [mset_self, upd_at, if_neg (by decide)]
      exact g3
    · rw [mset_self, upd_at, if_pos rfl]
      rfl
    · rw [mset_self, upd_at, if_neg (by decide), g2 1 (by decide) (by decide)]
