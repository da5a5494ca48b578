/-! the reference's tokens -/
def yfr (M M' : Mem) : Prop := (∀ a, a ≠ 234 → M' a = M a) ∧ ∀ j, j < 15 ∨ 18 < j → M' 234 j = M 234 j
theorem yspace {M : Mem} {t : Nat → Nat} {n i : Nat} (hT : TPy M t n) (hi : i ≤ n) (h0 : M 234 15 = nI i) : ∃ M', loopF (fun z => b_X8_token_0 z) FUEL M = some M' ∧ M' 234 15 = nI (runN sps t n i) ∧ (∀ a, a ≠ 234 → M' a = M a) ∧ ∀ j, j ≠ 15 → M' 234 j = M 234 j := by
  obtain ⟨r1, r2, r3, r4⟩ := run_spec sps t hi
  have hn := hT.1
  have bd : ∀ (M2 : Mem) k, TPy M2 t n → k < n → M2 234 15 = nI k → b_X8_token_0 M2 = if sps (t k) = true then some (.inl (mset M2 234 15 (nI (k + 1)))) else some (.inr M2) := by
    intro M2 k h2 hk h3
    have hb := (h2.2.2 k hk).2
    unfold b_X8_token_0
    rw [h3, ybyte h2 hk, Option.bind_some, Option.bind_some]
    unfold j_X8_token_26 sps
    rw [h3, nI_1, nm_eq]
    by_cases c1 : t k = 32
    · rw [if_pos (by rw [c1]; rfl), if_pos (by simp [c1])]
    · rw [if_neg (by rw [show (32 : Int32) = nI 32 from rfl, nI_eq (by omega) (by omega)]; exact c1)]
      by_cases c2 : t k = 10
      · rw [if_pos (by rw [c2]; rfl), if_pos (by simp [c2])]
      · rw [if_neg (by rw [show (10 : Int32) = nI 10 from rfl, nI_eq (by omega) (by omega)]; exact c2), if_neg (by simp [c1, c2])]
  refine loopF_rel (body := fun z => b_X8_token_0 z) (runN sps t n i - i) (fun k M' => M' 234 15 = nI (i + k) ∧ (∀ a, a ≠ 234 → M' a = M a) ∧ ∀ j, j ≠ 15 → M' 234 j = M 234 j) (fun M' => M' 234 15 = nI (runN sps t n i) ∧ (∀ a, a ≠ 234 → M' a = M a) ∧ ∀ j, j ≠ 15 → M' 234 j = M 234 j) ?_ ?_ (fuel := FUEL) (FUEL_lt (by omega)) (s := M) ⟨h0, fun _ _ => rfl, fun _ _ => rfl⟩
  · rintro k M2 hk ⟨h1, h2, h3⟩
    have hT2 : TPy M2 t n := hT.keep (h3 5 (by decide)) (h2 238 (by decide))
    rw [bd M2 (i + k) hT2 (by omega) h1, if_pos (r3 _ (by omega) (by omega))]
    refine ⟨_, rfl, by rw [mset_self, upd_at, if_pos rfl, Nat.add_assoc], fun a ha => by rw [mset_ne _ _ _ ha, h2 a ha], fun j hj => by rw [mset_self, upd_at, if_neg hj, h3 j hj]⟩
  · rintro M2 ⟨h1, h2, h3⟩
    have hT2 : TPy M2 t n := hT.keep (h3 5 (by decide)) (h2 238 (by decide))
    rw [show i + (runN sps t n i - i) = runN sps t n i by omega] at h1
    by_cases q : runN sps t n i < n
    · rw [bd M2 _ hT2 q h1, if_neg (by rw [r4 q]; decide)]
      exact ⟨M2, rfl, h1, h2, h3⟩
    · have e : runN sps t n i = n := by omega
      rw [e] at h1 ⊢
      refine ⟨M2, ?_, h1, h2, h3⟩
      show b_X8_token_0 M2 = _
      unfold b_X8_token_0
      rw [h1, ybyte_end hT2, Option.bind_some, if_neg (by decide), Option.bind_some, if_neg (by decide)]
/-- names and numbers: on while the sort is the same -/
theorem yrun {M : Mem} {t : Nat → Nat} {n s c : Nat} (p : Nat → Bool) (hc : c = 1 ∨ c = 2) (hp : ∀ b, srt b = c ↔ p b = true) (hT : TPy M t n) (hs : s < n) (h0 : M 234 15 = nI s) (hL : M 234 18 = nI 0) (hps : p (t s) = true) : ∃ M', loopF (fun z => b_X8_token_72 z (nI c)) FUEL M = some M' ∧ M' 234 15 = nI (runN p t n s) ∧ M' 234 18 = nI (runN p t n s - s) ∧ (∀ a, a ≠ 234 → M' a = M a) ∧ ∀ j, j ≠ 15 → j ≠ 18 → M' 234 j = M 234 j := by
  obtain ⟨r1, r2, r3, r4⟩ := run_spec p t (n := n) (i := s) (by omega)
  have hn := hT.1
  have hr : s < runN p t n s := by
    by_cases q : s < runN p t n s
    · exact q
    · exfalso
      have e : runN p t n s = s := by omega
      rw [e] at r4
      have := r4 hs
      rw [hps] at this
      exact absurd this (by decide)
  have step : ∀ (M2 : Mem) k l, M2 234 15 = nI k → M2 234 18 = nI l → j_X8_token_108 M2 (nI c) = some (.inl (mset (mset M2 234 15 (nI (k + 1))) 234 18 (nI (l + 1)))) := by
    intro M2 k l h1 h2
    unfold j_X8_token_108
    rw [h1, nI_1, nm_eq, nm_eq, mset_self, upd_at, if_neg (by decide), h2, nI_1]
  have go : ∀ (M2 : Mem) k l, TPy M2 t n → k < n → M2 234 15 = nI k → M2 234 18 = nI l → j_X8_token_83 M2 (nI c) = if p (t k) = true then some (.inl (mset (mset M2 234 15 (nI (k + 1))) 234 18 (nI (l + 1)))) else some (.inr M2) := by
    intro M2 k l h2 hk h3 h4
    have hb := (h2.2.2 k hk).2
    have hl := srt_le (t k)
    have e93 : j_X8_token_93 M2 (nI c) = if p (t k) = true then some (.inl (mset (mset M2 234 15 (nI (k + 1))) 234 18 (nI (l + 1)))) else some (.inr M2) := by
      unfold j_X8_token_93
      rw [h3, ybyte h2 hk, Option.bind_some, ysort M2 hb, Option.bind_some, step M2 k l h3 h4]
      by_cases q : p (t k) = true
      · rw [if_pos (by rw [(hp _).mpr q]), if_pos q]
      · rw [if_neg (by rw [nI_eq (by omega) (by omega)]; exact fun z => q ((hp _).mp z)), if_neg q]
    unfold j_X8_token_83
    rcases hc with rfl | rfl
    · rw [if_pos (by decide), e93]
    · rw [if_neg (by decide), if_pos (by decide), e93]
  refine loopF_rel (body := fun z => b_X8_token_72 z (nI c)) (runN p t n s - s) (fun k M' => M' 234 15 = nI (s + k) ∧ M' 234 18 = nI k ∧ (∀ a, a ≠ 234 → M' a = M a) ∧ ∀ j, j ≠ 15 → j ≠ 18 → M' 234 j = M 234 j) (fun M' => M' 234 15 = nI (runN p t n s) ∧ M' 234 18 = nI (runN p t n s - s) ∧ (∀ a, a ≠ 234 → M' a = M a) ∧ ∀ j, j ≠ 15 → j ≠ 18 → M' 234 j = M 234 j) ?_ ?_ (fuel := FUEL) (FUEL_lt (by omega)) (s := M) ⟨h0, hL, fun _ _ => rfl, fun _ _ _ => rfl⟩
  · rintro k M2 hk ⟨h1, hl, h2, h3⟩
    have hT2 : TPy M2 t n := hT.keep (h3 5 (by decide) (by decide)) (h2 238 (by decide))
    have hb : b_X8_token_72 M2 (nI c) = some (.inl (mset (mset M2 234 15 (nI (s + k + 1))) 234 18 (nI (k + 1)))) := by
      unfold b_X8_token_72
      rw [hl]
      by_cases e : k = 0
      · subst e
        rw [if_pos (by decide), if_neg (by rw [show (0 : Int32) = nI 0 from rfl, nI_eq (by omega) (by omega)]; omega), step M2 _ _ h1 hl]
      · rw [if_neg (nI_ne0 (by omega) (by omega)), go M2 _ _ hT2 (by omega) h1 hl, if_pos (r3 _ (by omega) (by omega))]
    refine ⟨_, hb, by rw [mset_self, upd_at, if_neg (by decide), mset_self, upd_at, if_pos rfl, Nat.add_assoc], by rw [mset_self, upd_at, if_pos rfl], fun a ha => by rw [mset_ne _ _ _ ha, mset_ne _ _ _ ha, h2 a ha], fun j hj hj2 => by rw [mset_self, upd_at, if_neg hj2, mset_self, upd_at, if_neg hj, h3 j hj hj2]⟩
  · rintro M2 ⟨h1, hl, h2, h3⟩
    have hT2 : TPy M2 t n := hT.keep (h3 5 (by decide) (by decide)) (h2 238 (by decide))
    rw [show s + (runN p t n s - s) = runN p t n s by omega] at h1
    refine ⟨M2, ?_, h1, hl, h2, h3⟩
    show b_X8_token_72 M2 (nI c) = _
    unfold b_X8_token_72
    rw [hl, if_neg (nI_ne0 (by omega) (by omega))]
    by_cases q : runN p t n s < n
    · rw [go M2 _ _ hT2 q h1 hl, r4 q, if_neg (by decide)]
    · have e : runN p t n s = n := by omega
      rw [e] at h1
      have e93 : j_X8_token_93 M2 (nI c) = some (.inr M2) := by
        unfold j_X8_token_93
        rw [h1, ybyte_end hT2, Option.bind_some, ysort_end, Option.bind_some, if_neg]
        rw [show (0 : Int32) = nI 0 from rfl, nI_eq (by omega) (by omega)]
        omega
      unfold j_X8_token_83
      rcases hc with rfl | rfl
      · rw [if_pos (by decide), e93]
      · rw [if_neg (by decide), if_pos (by decide), e93]
theorem ysgn {M : Mem} {s c : Nat} (hc : c = 3 ∨ c = 4) (h0 : M 234 15 = nI s) (hL : M 234 18 = nI 0) : loopF (fun z => b_X8_token_72 z (nI c)) FUEL M = some (mset (mset M 234 15 (nI (s + 1))) 234 18 (nI 1)) := by
  show loopF (fun z => b_X8_token_72 z (nI c)) (99998 + 1 + 1) M = _
  rw [loopF_step (body := fun z => b_X8_token_72 z (nI c)) (s' := mset (mset M 234 15 (nI (s + 1))) 234 18 (nI 1))]
  · refine loopF_out (body := fun z => b_X8_token_72 z (nI c)) ?_
    show b_X8_token_72 _ (nI c) = _
    unfold b_X8_token_72
    rw [mset_self, upd_at, if_pos rfl, if_neg (by decide)]
    unfold j_X8_token_83
    rcases hc with rfl | rfl
    · rw [if_neg (by decide), if_neg (by decide)]
    · rw [if_neg (by decide), if_neg (by decide)]
  · show b_X8_token_72 M (nI c) = _
    unfold b_X8_token_72
    rw [hL, if_pos (by decide), if_neg (by rcases hc with rfl | rfl <;> decide)]
    unfold j_X8_token_108
    rw [h0, nI_1, nm_eq, nm_eq, mset_self, upd_at, if_neg (by decide), hL]
    rfl
theorem ytoken {M : Mem} {t : Nat → Nat} {n i : Nat} (hT : TPy M t n) (hi : i ≤ n) (h0 : M 234 15 = nI i) : ∃ M', m_X8_token M = some M' ∧ YTk M' (tok t n i) ∧ yfr M M' := by
  have hn := hT.1
  obtain ⟨M1, s1, s2, s3, s4⟩ := yspace hT hi h0
  obtain ⟨r1, r2, r3, r4⟩ := run_spec sps t hi
  unfold m_X8_token
  rw [s1, Option.bind_some, nm_eq, s2]
  unfold tok
  generalize runN sps t n i = s at *
  generalize hM2 : mset M1 234 17 (nI s) = M2
  have g1 : ∀ a, a ≠ 234 → M2 a = M a := fun a ha => by rw [← hM2, mset_ne _ _ _ ha, s3 a ha]
  have g2 : ∀ j, j ≠ 17 → j ≠ 15 → M2 234 j = M 234 j := fun j h1 h2 => by rw [← hM2, mset_self, upd_at, if_neg h1, s4 j h2]
  have g3 : M2 234 15 = nI s := by rw [← hM2, mset_self, upd_at, if_neg (by decide), s2]
  have g4 : M2 234 17 = nI s := by rw [← hM2, mset_self, upd_at, if_pos rfl]
  have hT2 : TPy M2 t n := hT.keep (g2 5 (by decide) (by decide)) (g1 238 (by decide))
  rw [g3]
  -- the sort, laid aside; then the loop; then the sort told
  have fin : ∀ (c k e : Nat) (M5 : Mem), c ≤ 4 → (c = 2 → e - s < 2 ^ 31) → loopF (fun z => b_X8_token_72 z (nI c)) FUEL (mset (mset M2 234 16 (nI c)) 234 18 0) = some M5 → M5 234 15 = nI e → M5 234 18 = nI (e - s) → (∀ a, a ≠ 234 → M5 a = M2 a) → (∀ j, j ≠ 15 → j ≠ 16 → j ≠ 18 → M5 234 j = M2 234 j) → k = (if c = 2 then (if e - s ≤ 3 then 2 else 4) else c) → ∃ M', (nm (mset M2 234 16 (nI c)) fun M8 => nm (M8 234 16) fun y9 => nm (mset M8 234 18 0) fun M10 => (loopF (fun z => b_X8_token_72 z y9) FUEL M10).bind fun z15 => if y9 = 2 then (if (z15 234 18) ≤ 3 then (nm (mset z15 234 16 y9) fun M17 => some M17) else (nm (mset z15 234 16 4) fun M18 => some M18)) else (nm (mset z15 234 16 y9) fun M16 => some M16)) = some M' ∧ YTk M' (s, k, e) ∧ yfr M M' := by
    intro c k e M5 hc hce hl h15 h18 hfr hfr2 hk
    have out : ∀ v : Nat, v = k → YTk (mset M5 234 16 (nI v)) (s, k, e) ∧ yfr M (mset M5 234 16 (nI v)) := by
      intro v hv
      subst hv
      refine ⟨⟨?_, ?_, ?_, ?_⟩, fun a ha => ?_, fun j hj => ?_⟩
      · rw [mset_self, upd_at, if_neg (by decide), hfr2 17 (by decide) (by decide) (by decide)]
        exact g4
      · rw [mset_self, upd_at, if_neg (by decide)]
        exact h15
      · rw [mset_self, upd_at, if_pos rfl]
      · rw [mset_self, upd_at, if_neg (by decide)]
        exact h18
      · rw [mset_ne _ _ _ ha, hfr a ha, g1 a ha]
      · rw [mset_self, upd_at, if_neg (by omega), hfr2 j (by omega) (by omega) (by omega), g2 j (by omega) (by omega)]
    rw [nm_eq, nm_eq, nm_eq, mset_self, upd_at, if_pos rfl, hl, Option.bind_some]
    by_cases c2 : c = 2
    · subst c2
      rw [if_pos rfl] at hk
      have := hce rfl
      rw [if_pos (by decide), h18]
      by_cases c3 : e - s ≤ 3
      · rw [if_pos c3] at hk
        rw [if_pos (by rw [show (3 : Int32) = nI 3 from rfl]; exact nI_le c3 (by omega)), nm_eq]
        exact ⟨_, rfl, out 2 hk.symm⟩
      · rw [if_neg c3] at hk
        rw [if_neg (by rw [show (3 : Int32) = nI 3 from rfl]; exact nI_ge (by omega) (by omega)), nm_eq]
        exact ⟨_, rfl, out 4 hk.symm⟩
    · rw [if_neg c2] at hk
      rw [if_neg (by rw [show (2 : Int32) = nI 2 from rfl, nI_eq (by omega) (by omega)]; exact c2), nm_eq]
      exact ⟨_, rfl, out c hk.symm⟩
  have hT4 : ∀ c : Nat, TPy (mset (mset M2 234 16 (nI c)) 234 18 0) t n := fun c => hT2.keep (by rw [mset_self, upd_at, if_neg (by decide), mset_self, upd_at, if_neg (by decide)]) (by rw [mset_ne _ _ _ (by decide), mset_ne _ _ _ (by decide)])
  have a15 : ∀ c : Nat, mset (mset M2 234 16 (nI c)) 234 18 0 234 15 = nI s := fun c => by rw [mset_self, upd_at, if_neg (by decide), mset_self, upd_at, if_neg (by decide), g3]
  have a18 : ∀ c : Nat, mset (mset M2 234 16 (nI c)) 234 18 0 234 18 = nI 0 := fun c => by rw [mset_self, upd_at, if_pos rfl]; rfl
  have afr : ∀ (c : Nat) a, a ≠ 234 → mset (mset M2 234 16 (nI c)) 234 18 0 a = M2 a := fun c a ha => by rw [mset_ne _ _ _ ha, mset_ne _ _ _ ha]
  have afr2 : ∀ (c : Nat) j, j ≠ 16 → j ≠ 18 → mset (mset M2 234 16 (nI c)) 234 18 0 234 j = M2 234 j := fun c j h1 h2 => by rw [mset_self, upd_at, if_neg h2, mset_self, upd_at, if_neg h1]
  by_cases q : s < n
  · have hb := (hT2.2.2 s q).2
    rw [if_pos q, ybyte hT2 q, Option.bind_some, ysort M2 hb, Option.bind_some]
    by_cases c1 : ltr (t s) = true
    · rw [if_pos c1, (srt_1 _).mpr c1]
      obtain ⟨f1, f2, -, -⟩ := run_spec ltr t (n := n) (i := s) (by omega)
      obtain ⟨M5, n1, n2, n3, n4, n5⟩ := yrun ltr (Or.inl rfl) srt_1 (hT4 1) q (a15 1) (a18 1) c1
      exact fin 1 1 _ M5 (by omega) (fun z => absurd z (by decide)) n1 n2 n3 (fun a ha => by rw [n4 a ha, afr 1 a ha]) (fun j h1 h2 h3 => by rw [n5 j h1 h3, afr2 1 j h2 h3]) rfl
    · rw [if_neg c1]
      by_cases c2 : fig (t s) = true
      · rw [if_pos c2, (srt_2 _).mpr c2]
        obtain ⟨f1, f2, -, -⟩ := run_spec fig t (n := n) (i := s) (by omega)
        obtain ⟨M5, n1, n2, n3, n4, n5⟩ := yrun fig (Or.inr rfl) srt_2 (hT4 2) q (a15 2) (a18 2) c2
        exact fin 2 _ _ M5 (by omega) (fun _ => by omega) n1 n2 n3 (fun a ha => by rw [n4 a ha, afr 2 a ha]) (fun j h1 h2 h3 => by rw [n5 j h1 h3, afr2 2 j h2 h3]) rfl
      · rw [if_neg c2]
        have e34 : srt (t s) = if t s = 59 then 3 else 4 := by
          unfold srt
          rw [if_neg c1, if_neg c2]
        have sg : ∀ c : Nat, c = 3 ∨ c = 4 → srt (t s) = c → ∃ M', (nm (mset M2 234 16 (nI (srt (t s)))) fun M8 => nm (M8 234 16) fun y9 => nm (mset M8 234 18 0) fun M10 => (loopF (fun z => b_X8_token_72 z y9) FUEL M10).bind fun z15 => if y9 = 2 then (if (z15 234 18) ≤ 3 then (nm (mset z15 234 16 y9) fun M17 => some M17) else (nm (mset z15 234 16 4) fun M18 => some M18)) else (nm (mset z15 234 16 y9) fun M16 => some M16)) = some M' ∧ YTk M' (s, c, s + 1) ∧ yfr M M' := by
          intro c hc he
          rw [he]
          refine fin c c (s + 1) _ (by omega) (fun z => by omega) (ysgn hc (a15 c) (a18 c)) ?_ ?_ (fun a ha => ?_) (fun j h1 h2 h3 => ?_) (by rw [if_neg (by omega)])
          · rw [mset_self, upd_at, if_neg (by decide), mset_self, upd_at, if_pos rfl]
          · rw [mset_self, upd_at, if_pos rfl, show s + 1 - s = 1 by omega]
          · rw [mset_ne _ _ _ ha, mset_ne _ _ _ ha, afr c a ha]
          · rw [mset_self, upd_at, if_neg h3, mset_self, upd_at, if_neg h1, afr2 c j h2 h3]
        by_cases c3 : t s = 59
        · rw [if_pos c3] at e34 ⊢
          exact sg 3 (Or.inl rfl) e34
        · rw [if_neg c3] at e34 ⊢
          exact sg 4 (Or.inr rfl) e34
  · have e : s = n := by omega
    rw [if_neg q]
    rw [e] at fin a15 ⊢
    rw [ybyte_end hT2, Option.bind_some, ysort_end, Option.bind_some]
    refine fin 0 0 n (mset (mset M2 234 16 (nI 0)) 234 18 0) (by omega) (fun z => absurd z (by decide)) ?_ (a15 0) ?_ (afr 0) (fun j h1 h2 h3 => afr2 0 j h2 h3) rfl
    · refine loopF_out (body := fun z => b_X8_token_72 z (nI 0)) (f := 99999) ?_
      show b_X8_token_72 _ (nI 0) = _
      unfold b_X8_token_72
      rw [a18 0, if_pos (by decide), if_pos (by decide)]
      unfold j_X8_token_83
      rw [if_neg (by decide), if_neg (by decide)]
    · rw [a18 0, Nat.sub_self]
