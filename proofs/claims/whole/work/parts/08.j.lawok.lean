/-! ## the law -/
theorem law_ww {x : Option (Int32 × Mem)} {y : Mem → Option (Int32 × Mem)} (q : Int32) (h : AgWW x y) : ∃ M', (x.bind fun r => (y r.2).bind fun r' => if r.1 = r'.1 then (some (.inl (q, r'.2)) : Option ((Int32 × Mem) ⊕ (Mem ⊕ Int32))) else some (.inr (.inr 0))) = some (.inl (q, M')) ∧ Inv M' := by
  obtain ⟨r, M1, M2, h1, h2, h3⟩ := h
  rw [h1, Option.bind_some]
  dsimp only
  rw [h2, Option.bind_some, if_pos rfl]
  exact ⟨M2, rfl, h3⟩
theorem law_nw {x : Option Int32} {y : Option (Int32 × Mem)} (q : Int32) (h : AgNW x y) : ∃ M', (x.bind fun r => y.bind fun r' => if r = r'.1 then (some (.inl (q, r'.2)) : Option ((Int32 × Mem) ⊕ (Mem ⊕ Int32))) else some (.inr (.inr 0))) = some (.inl (q, M')) ∧ Inv M' := by
  obtain ⟨r, M2, h1, h2, h3⟩ := h
  rw [h1, h2, Option.bind_some, Option.bind_some, if_pos rfl]
  exact ⟨M2, rfl, h3⟩
theorem law_nn {M : Mem} {x : Option Int32} {y : Option Int32} (q : Int32) (hI : Inv M) (h : AgNN x y) : ∃ M', (x.bind fun r => y.bind fun r' => if r = r' then (some (.inl (q, M)) : Option ((Int32 × Mem) ⊕ (Mem ⊕ Int32))) else some (.inr (.inr 0))) = some (.inl (q, M')) ∧ Inv M' := by
  obtain ⟨r, h1, h2⟩ := h
  rw [h1, h2, Option.bind_some, Option.bind_some, if_pos rfl]
  exact ⟨M, rfl, hI⟩
theorem law_body {M : Mem} {xs : Nat → Int32} {N i : Nat} (hI : Inv M) (hN : N ≤ 3072) (hi : i + 6 ≤ N) : ∃ M', b_L_law_18 M xs N (nI i) = some (.inl (nI (i + 6), M')) ∧ Inv M' := by
  have c0 : inB (nI i) N = true := inB_nI (by omega) (by omega)
  have c1 : inB (nI i + 1) N = true := by
    rw [show nI i + 1 = nI (i + 1) from nI_add i 1]
    exact inB_nI (by omega) (by omega)
  have c2 : inB (nI i + 2) N = true := by
    rw [show nI i + 2 = nI (i + 2) from nI_add i 2]
    exact inB_nI (by omega) (by omega)
  have c3 : inB (nI i + 3) N = true := by
    rw [show nI i + 3 = nI (i + 3) from nI_add i 3]
    exact inB_nI (by omega) (by omega)
  have c4 : inB (nI i + 4) N = true := by
    rw [show nI i + 4 = nI (i + 4) from nI_add i 4]
    exact inB_nI (by omega) (by omega)
  have c5 : inB (nI i + 5) N = true := by
    rw [show nI i + 5 = nI (i + 5) from nI_add i 5]
    exact inB_nI (by omega) (by omega)
  have hend : ¬ (Int32.ofNat N - 6 < nI i) := by
    intro q
    have h1 := i32_lt.mp q
    rw [show Int32.ofNat N = nI N from rfl, show (6 : Int32) = nI 6 from rfl, pk_sub_toInt (by omega) (by omega), nI_toInt (by omega)] at h1
    omega
  have e6 : nI i + 6 = nI (i + 6) := nI_add i 6
  unfold b_L_law_18
  rw [if_neg hend, chk_of c0, ← e6]
  simp only [chk_of c1, chk_of c2, chk_of c3, chk_of c4, chk_of c5]
  generalize xs (nI i).toNatClampNeg &&& 31 = k
  by_cases h0 : k = 0
  · rw [if_pos h0]
    exact law_ww _ (ag_row hI _ _ _)
  rw [if_neg h0]
  by_cases h1 : k = 1
  · rw [if_pos h1]
    exact law_ww _ (ag_set hI _ _ _)
  rw [if_neg h1]
  by_cases h2 : k = 2
  · rw [if_pos h2]
    exact law_ww _ (ag_copy hI _ _ _ _ _)
  rw [if_neg h2]
  by_cases h3 : k = 3
  · rw [if_pos h3]
    exact law_ww _ (ag_drop hI _)
  rw [if_neg h3]
  by_cases h4 : k = 4
  · rw [if_pos h4]
    exact law_ww _ (ag_feed hI _ _)
  rw [if_neg h4]
  by_cases h5 : k = 5
  · rw [if_pos h5]
    exact law_ww _ (ag_square hI)
  rw [if_neg h5]
  by_cases h6 : k = 6
  · rw [if_pos h6]
    exact law_nn _ hI (ag_fault hI)
  rw [if_neg h6]
  by_cases h7 : k = 7
  · rw [if_pos h7]
    exact law_ww _ (ag_toss hI _ _ _ _)
  rw [if_neg h7]
  by_cases h8 : k = 8
  · rw [if_pos h8]
    exact law_ww _ (ag_run hI _ _)
  rw [if_neg h8]
  by_cases h9 : k = 9
  · rw [if_pos h9]
    exact law_ww _ (ag_corner hI _ _)
  rw [if_neg h9]
  by_cases h10 : k = 10
  · rw [if_pos h10]
    exact law_ww _ (ag_undo hI)
  rw [if_neg h10]
  by_cases h11 : k = 11
  · rw [if_pos h11]
    exact law_nn _ hI (ag_child hI _ _)
  rw [if_neg h11]
  by_cases h12 : k = 12
  · rw [if_pos h12]
    exact law_nw _ (ag_cell hI _ _)
  rw [if_neg h12]
  by_cases h13 : k = 13
  · rw [if_pos h13]
    exact law_nw _ (ag_power hI _ _)
  rw [if_neg h13]
  by_cases h14 : k = 14
  · rw [if_pos h14]
    exact law_ww _ (ag_mean hI _ _ _ _)
  rw [if_neg h14]
  by_cases h15 : k = 15
  · rw [if_pos h15]
    exact law_ww _ (ag_some hI _ _ _ _ _)
  rw [if_neg h15]
  by_cases h16 : k = 16
  · rw [if_pos h16]
    exact law_ww _ (ag_stand hI _ _ _)
  rw [if_neg h16]
  by_cases h17 : k = 17
  · rw [if_pos h17]
    exact law_ww _ (ag_brothers hI _ _ _ _ _)
  rw [if_neg h17]
  by_cases h18 : k = 18
  · rw [if_pos h18]
    exact law_ww _ (ag_rounds hI _ _ _)
  rw [if_neg h18]
  by_cases h19 : k = 19
  · rw [if_pos h19]
    exact law_ww _ (ag_aim hI _ _)
  rw [if_neg h19]
  by_cases h20 : k = 20
  · rw [if_pos h20]
    exact law_ww _ (ag_throwsFor hI _ _)
  rw [if_neg h20]
  by_cases h21 : k = 21
  · rw [if_pos h21]
    exact law_ww _ (ag_cool hI _ _ _)
  rw [if_neg h21]
  by_cases h22 : k = 22
  · rw [if_pos h22]
    exact law_ww _ (ag_stood hI _ _ _ _ _)
  rw [if_neg h22]
  by_cases h23 : k = 23
  · rw [if_pos h23]
    exact law_ww _ (ag_image hI _)
  rw [if_neg h23]
  by_cases h24 : k = 24
  · rw [if_pos h24]
    exact law_ww _ (ag_restore hI _)
  rw [if_neg h24]
  by_cases h25 : k = 25
  · rw [if_pos h25]
    exact law_nn _ hI (ag_kind hI _)
  rw [if_neg h25]
  by_cases h26 : k = 26
  · rw [if_pos h26]
    exact law_ww _ (ag_as hI _ _)
  rw [if_neg h26]
  by_cases h27 : k = 27
  · rw [if_pos h27]
    exact law_ww _ (ag_ask hI _ _)
  rw [if_neg h27]
  by_cases h28 : k = 28
  · rw [if_pos h28]
    exact law_nn _ hI (ag_trace hI _)
  rw [if_neg h28]
  by_cases h29 : k = 29
  · rw [if_pos h29]
    exact law_nn _ hI (ag_count hI _)
  rw [if_neg h29]
  by_cases h30 : k = 30
  · rw [if_pos h30]
    exact law_nn _ hI (ag_status hI)
  rw [if_neg h30]
  exact ⟨M, rfl, hI⟩
theorem law_ok {M : Mem} {xs : Nat → Int32} {N : Nat} (hI : Inv M) (hN : N ≤ 3072) : m_law M xs N = some 1 := by
  unfold m_law
  have key := loopF_rel (body := fun z => b_L_law_18 z.2 xs N z.1) (N / 6) (fun s z => z.1 = nI (6 * s) ∧ Inv z.2) (fun r => ∃ M', r = .inl M') ?_ ?_ (fuel := FUEL) (FUEL_lt (by omega)) (s := (0, M)) ⟨rfl, hI⟩
  · obtain ⟨r, h1, M', h2⟩ := key
    rw [h1, Option.bind_some, h2]
    rfl
  · rintro s ⟨x, M2⟩ hs ⟨rfl, h1⟩
    obtain ⟨M', b1, b2⟩ := law_body (xs := xs) (N := N) (i := 6 * s) h1 hN (by omega)
    exact ⟨(nI (6 * s + 6), M'), b1, by show nI (6 * s + 6) = nI (6 * (s + 1)); rw [show 6 * (s + 1) = 6 * s + 6 by omega], b2⟩
  · rintro ⟨x, M2⟩ ⟨rfl, h1⟩
    refine ⟨.inl M2, ?_, M2, rfl⟩
    show b_L_law_18 M2 xs N (nI (6 * (N / 6))) = _
    unfold b_L_law_18
    rw [if_pos]
    rw [i32_lt, show Int32.ofNat N = nI N from rfl, show (6 : Int32) = nI 6 from rfl, pk_sub_toInt (by omega) (by omega), nI_toInt (by omega)]
    omega
