/-! ## feed -/
theorem feed_s1 : ∀ k, k < 8 → (8 * nI k).toInt64.toUInt64 &&& Int64.toUInt64 63 = UInt64.ofNat (8 * k) ∧ (8 * nI k).toInt64 &&& 63 = Int64.ofNat (8 * k) := by decide +kernel
theorem b255 : ∀ i, i < 32 → ¬ i < 8 → (255#32).getLsbD i = false := by decide +kernel
theorem feed_b0 (x : Int64) : ((((x.toUInt64 >>> (0 : UInt64)).toInt64).toInt32) &&& 255) = ((x >>> (0 : Int64)) &&& 255).toInt32 := by
  apply Int32.toBitVec_inj.1
  apply BitVec.eq_of_getLsbD_eq
  intro i hi
  simp [BitVec.getLsbD_signExtend, BitVec.getLsbD_sshiftRight]
theorem feed_b1 (x : Int64) : ((((x.toUInt64 >>> (8 : UInt64)).toInt64).toInt32) &&& 255) = ((x >>> (8 : Int64)) &&& 255).toInt32 := by
  apply Int32.toBitVec_inj.1
  apply BitVec.eq_of_getLsbD_eq
  intro i hi
  simp [BitVec.getLsbD_signExtend, BitVec.getLsbD_sshiftRight]
  by_cases q : i < 8
  · have h1 : i < 64 := by omega
    have h2 : ¬ 64 ≤ i := by omega
    have h3 : 8 + i < 64 := by omega
    simp [hi, h1, h2, h3]
  · rw [b255 i hi q]
    simp
theorem feed_b2 (x : Int64) : ((((x.toUInt64 >>> (16 : UInt64)).toInt64).toInt32) &&& 255) = ((x >>> (16 : Int64)) &&& 255).toInt32 := by
  apply Int32.toBitVec_inj.1
  apply BitVec.eq_of_getLsbD_eq
  intro i hi
  simp [BitVec.getLsbD_signExtend, BitVec.getLsbD_sshiftRight]
  by_cases q : i < 8
  · have h1 : i < 64 := by omega
    have h2 : ¬ 64 ≤ i := by omega
    have h3 : 16 + i < 64 := by omega
    simp [hi, h1, h2, h3]
  · rw [b255 i hi q]
    simp
theorem feed_b3 (x : Int64) : ((((x.toUInt64 >>> (24 : UInt64)).toInt64).toInt32) &&& 255) = ((x >>> (24 : Int64)) &&& 255).toInt32 := by
  apply Int32.toBitVec_inj.1
  apply BitVec.eq_of_getLsbD_eq
  intro i hi
  simp [BitVec.getLsbD_signExtend, BitVec.getLsbD_sshiftRight]
  by_cases q : i < 8
  · have h1 : i < 64 := by omega
    have h2 : ¬ 64 ≤ i := by omega
    have h3 : 24 + i < 64 := by omega
    simp [hi, h1, h2, h3]
  · rw [b255 i hi q]
    simp
theorem feed_b4 (x : Int64) : ((((x.toUInt64 >>> (32 : UInt64)).toInt64).toInt32) &&& 255) = ((x >>> (32 : Int64)) &&& 255).toInt32 := by
  apply Int32.toBitVec_inj.1
  apply BitVec.eq_of_getLsbD_eq
  intro i hi
  simp [BitVec.getLsbD_signExtend, BitVec.getLsbD_sshiftRight]
  by_cases q : i < 8
  · have h1 : i < 64 := by omega
    have h2 : ¬ 64 ≤ i := by omega
    have h3 : 32 + i < 64 := by omega
    simp [hi, h1, h2, h3]
  · rw [b255 i hi q]
    simp
theorem feed_b5 (x : Int64) : ((((x.toUInt64 >>> (40 : UInt64)).toInt64).toInt32) &&& 255) = ((x >>> (40 : Int64)) &&& 255).toInt32 := by
  apply Int32.toBitVec_inj.1
  apply BitVec.eq_of_getLsbD_eq
  intro i hi
  simp [BitVec.getLsbD_signExtend, BitVec.getLsbD_sshiftRight]
  by_cases q : i < 8
  · have h1 : i < 64 := by omega
    have h2 : ¬ 64 ≤ i := by omega
    have h3 : 40 + i < 64 := by omega
    simp [hi, h1, h2, h3]
  · rw [b255 i hi q]
    simp
theorem feed_b6 (x : Int64) : ((((x.toUInt64 >>> (48 : UInt64)).toInt64).toInt32) &&& 255) = ((x >>> (48 : Int64)) &&& 255).toInt32 := by
  apply Int32.toBitVec_inj.1
  apply BitVec.eq_of_getLsbD_eq
  intro i hi
  simp [BitVec.getLsbD_signExtend, BitVec.getLsbD_sshiftRight]
  by_cases q : i < 8
  · have h1 : i < 64 := by omega
    have h2 : ¬ 64 ≤ i := by omega
    have h3 : 48 + i < 64 := by omega
    simp [hi, h1, h2, h3]
  · rw [b255 i hi q]
    simp
theorem feed_b7 (x : Int64) : ((((x.toUInt64 >>> (56 : UInt64)).toInt64).toInt32) &&& 255) = ((x >>> (56 : Int64)) &&& 255).toInt32 := by
  apply Int32.toBitVec_inj.1
  apply BitVec.eq_of_getLsbD_eq
  intro i hi
  simp [BitVec.getLsbD_signExtend, BitVec.getLsbD_sshiftRight]
  by_cases q : i < 8
  · have h1 : i < 64 := by omega
    have h2 : ¬ 64 ≤ i := by omega
    have h3 : 56 + i < 64 := by omega
    simp [hi, h1, h2, h3]
  · rw [b255 i hi q]
    simp
theorem feed_b (x : Int64) : ∀ k, k < 8 → ((((x.toUInt64 >>> ((8 * nI k).toInt64.toUInt64 &&& Int64.toUInt64 63)).toInt64).toInt32) &&& 255) = ((x >>> ((8 * nI k).toInt64 &&& 63)) &&& 255).toInt32 := by
  intro k hk
  obtain ⟨h1, h2⟩ := feed_s1 k hk
  rw [h1, h2]
  have hkk : k = 0 ∨ k = 1 ∨ k = 2 ∨ k = 3 ∨ k = 4 ∨ k = 5 ∨ k = 6 ∨ k = 7 := by omega
  rcases hkk with rfl | rfl | rfl | rfl | rfl | rfl | rfl | rfl
  · exact feed_b0 x
  · exact feed_b1 x
  · exact feed_b2 x
  · exact feed_b3 x
  · exact feed_b4 x
  · exact feed_b5 x
  · exact feed_b6 x
  · exact feed_b7 x
def fb (x : Int64) (k : Nat) : Int32 := (((x.toUInt64 >>> ((8 * nI k).toInt64.toUInt64 &&& Int64.toUInt64 63)).toInt64).toInt32) &&& 255
/-- n bytes behind the first L, the highest first -/
def tf (M : Mem) (x : Int64) (L n : Nat) (e : Nat) : Int32 := if e < L then M 3 e else fb x (n - 1 - (e - L))
theorem m1_I (k : Nat) : nI (k + 1) + (-1) = nI k := pk_m1 k
theorem xfeed {M : Mem} {x : Int64} {L n : Nat} (h0 : M 2 1 = nI L) (hL : L + n ≤ 300) (hn : n ≤ 8) : ∃ M', loopF (fun z => b_X7_feed_33 z.2 x z.1) FUEL (nI n - 1, M) = some M' ∧ M' 2 1 = nI (L + n) ∧ (∀ a, a ≠ 2 → a ≠ 3 → M' a = M a) ∧ ∀ e, e < L + n → M' 3 e = tf M x L n e := by
  have key := loopF_rel (body := fun z => b_X7_feed_33 z.2 x z.1) n (fun i z => z.1 = nI (n - i) - 1 ∧ z.2 2 1 = nI (L + i) ∧ (∀ a, a ≠ 2 → a ≠ 3 → z.2 a = M a) ∧ ∀ e, e < L + i → z.2 3 e = tf M x L n e) (fun M' => M' 2 1 = nI (L + n) ∧ (∀ a, a ≠ 2 → a ≠ 3 → M' a = M a) ∧ ∀ e, e < L + n → M' 3 e = tf M x L n e) ?_ ?_ (fuel := FUEL) (FUEL_lt (by omega)) (s := (nI n - 1, M)) ⟨rfl, h0, fun _ _ _ => rfl, fun e he => by unfold tf; rw [if_pos (by omega)]⟩
  · exact key
  · rintro i ⟨y, M2⟩ hi ⟨rfl, h1, h2, h3⟩
    dsimp only at h1 h2 h3
    obtain ⟨k, hk⟩ : ∃ k, n - i = k + 1 := ⟨n - i - 1, by omega⟩
    rw [hk, nI_pred]
    show ∃ s', b_X7_feed_33 M2 x (nI k) = _ ∧ _
    unfold b_X7_feed_33 m_X6_add
    rw [if_neg (nI_pos (by omega)), h1, if_neg (nI_pos (by omega)), if_neg (by rw [show (300 : Int32) = nI 300 from rfl]; exact nI_ge (by omega) (by omega)), chk_of (inB_nI (by omega) (by omega)), nm_eq, nm_eq, nI_clamp (by omega), mset_ne _ _ _ (by decide), h1, nI_1, Option.bind_some]
    refine ⟨_, rfl, ?_, ?_, fun a a1 a2 => ?_, fun e he => ?_⟩
    · dsimp only
      rw [show n - (i + 1) = k by omega]
      exact (Int32.sub_eq_add_neg _ _).symm
    · dsimp only
      rw [mset_self, upd_at, if_pos rfl, Nat.add_assoc]
    · dsimp only
      rw [mset_ne _ _ _ a1, mset_ne _ _ _ a2, h2 a a1 a2]
    · dsimp only
      rw [mset_ne _ _ _ (by decide), mset_self, upd_at]
      by_cases q : e = L + i
      · rw [if_pos q]
        unfold tf fb
        rw [if_neg (by omega), show n - 1 - (e - L) = k by omega]
      · rw [if_neg q]
        exact h3 e (by omega)
  · rintro ⟨y, M2⟩ ⟨rfl, h1, h2, h3⟩
    show ∃ r, b_X7_feed_33 M2 x _ = _ ∧ _
    unfold b_X7_feed_33
    have e0 : (nI (n - n) - 1 : Int32) < 0 := by
      rw [show n - n = 0 by omega]
      decide
    dsimp only
    rw [if_pos e0]
    exact ⟨M2, rfl, h1, h2, h3⟩
theorem yfeed {M : Mem} {x : Int64} {L n : Nat} (h0 : M 234 5 = nI L) (hL : L + n ≤ 300) (hn : n ≤ 8) : ∃ M', loopF (fun z => b_X8_feed_35 z.2 x z.1) FUEL (nI n - 1, M) = some M' ∧ M' 234 5 = nI (L + n) ∧ (∀ a, a ≠ 234 → a ≠ 238 → M' a = M a) ∧ (∀ j, j ≠ 5 → M' 234 j = M 234 j) ∧ ∀ e, e < L + n → M' 238 e = if e < L then M 238 e else fb x (n - 1 - (e - L)) := by
  have key := loopF_rel (body := fun z => b_X8_feed_35 z.2 x z.1) n (fun i z => z.1 = nI (n - i) - 1 ∧ z.2 234 5 = nI (L + i) ∧ (∀ a, a ≠ 234 → a ≠ 238 → z.2 a = M a) ∧ (∀ j, j ≠ 5 → z.2 234 j = M 234 j) ∧ ∀ e, e < L + i → z.2 238 e = if e < L then M 238 e else fb x (n - 1 - (e - L))) (fun M' => M' 234 5 = nI (L + n) ∧ (∀ a, a ≠ 234 → a ≠ 238 → M' a = M a) ∧ (∀ j, j ≠ 5 → M' 234 j = M 234 j) ∧ ∀ e, e < L + n → M' 238 e = if e < L then M 238 e else fb x (n - 1 - (e - L))) ?_ ?_ (fuel := FUEL) (FUEL_lt (by omega)) (s := (nI n - 1, M)) ⟨rfl, h0, fun _ _ _ => rfl, fun _ _ => rfl, fun e he => by rw [if_pos (by omega)]⟩
  · exact key
  · rintro i ⟨y, M2⟩ hi ⟨rfl, h1, h2, h4, h3⟩
    dsimp only at h1 h2 h3 h4
    obtain ⟨k, hk⟩ : ∃ k, n - i = k + 1 := ⟨n - i - 1, by omega⟩
    rw [hk, nI_pred]
    show ∃ s', b_X8_feed_35 M2 x (nI k) = _ ∧ _
    unfold b_X8_feed_35
    rw [if_neg (nI_pos (by omega)), h1, chk_of (inB_nI (by omega) (by omega)), nm_eq, nm_eq, nI_clamp (by omega), mset_ne _ _ _ (by decide), h1, nI_1, ← feed_b x k (by omega)]
    refine ⟨_, rfl, ?_, ?_, fun a a1 a2 => ?_, fun j hj => ?_, fun e he => ?_⟩
    · dsimp only
      rw [show n - (i + 1) = k by omega]
      exact (Int32.sub_eq_add_neg _ _).symm
    · dsimp only
      rw [mset_self, upd_at, if_pos rfl, Nat.add_assoc]
    · dsimp only
      rw [mset_ne _ _ _ a1, mset_ne _ _ _ a2, h2 a a1 a2]
    · dsimp only
      rw [mset_self, upd_at, if_neg hj, mset_ne _ _ _ (by decide), h4 j hj]
    · dsimp only
      rw [mset_ne _ _ _ (by decide), mset_self, upd_at]
      by_cases q : e = L + i
      · rw [if_pos q, if_neg (by omega)]
        unfold fb
        rw [show n - 1 - (e - L) = k by omega]
      · rw [if_neg q]
        exact h3 e (by omega)
  · rintro ⟨y, M2⟩ ⟨rfl, h1, h2, h4, h3⟩
    show ∃ r, b_X8_feed_35 M2 x _ = _ ∧ _
    unfold b_X8_feed_35
    have e0 : (nI (n - n) - 1 : Int32) < 0 := by
      rw [show n - n = 0 by omega]
      decide
    dsimp only
    rw [if_pos e0]
    exact ⟨M2, rfl, h1, h2, h4, h3⟩
theorem ag_feed {M : Mem} (h : Inv M) (x : Int64) (b : Int32) : AgWW (m_X7_feed M x b) (fun M1 => m_X8_feed M1 x b) := by
  obtain ⟨L, t1, t2, t3, t4⟩ := h.2.1
  have z1 : (1 : Int32).toInt = 1 := rfl
  have z8 : (8 : Int32).toInt = 8 := rfl
  unfold m_X7_feed m_X8_feed m_X6_hasRoomFor
  rcases gin M b 1 8 1 8 rfl rfl with ⟨p1, p2, p3⟩ | ⟨p1, p3⟩
  · obtain ⟨n, hn, rfl⟩ := inN_nI (x := b) (N := 9) ⟨by omega, by omega⟩
    rw [nI_toInt (by omega)] at p1
    have yin : ∀ M', m_X8_in M' (nI n).toInt64 1 8 = some 1 := fun M' => by
      rw [m_inI M' (nI n) 1 8 1 8 rfl rfl, nI_toInt (by omega), if_pos (by omega)]
    rw [if_neg (by rw [show (1 : Int32) = nI 1 from rfl]; exact nI_nlt (by omega) (by omega)), if_pos (by rw [show (8 : Int32) = nI 8 from rfl]; exact nI_le (by omega) (by omega)), t2, nI_add]
    by_cases c : L + n ≤ 300
    · rw [if_neg (by rw [show (300 : Int32) = nI 300 from rfl]; exact nI_nlt c (by omega)), Option.bind_some, if_neg n10, nm_eq]
      obtain ⟨M1, x1, x2, x3, x4⟩ := xfeed (M := M) (x := x) t2 c (by omega)
      obtain ⟨M2, y1, y2, y3, y4, y5⟩ := yfeed (M := M1) (x := x) (L := L) (n := n) (by rw [x3 234 (by decide) (by decide)]; exact t3) c (by omega)
      rw [x1, Option.bind_some]
      refine ⟨nI (L + n), M1, M2, by rw [x2], ?_, ?_⟩
      · dsimp only
        rw [yin, Option.bind_some, if_neg n10, x3 234 (by decide) (by decide), t3, nI_add, if_pos (by rw [show (300 : Int32) = nI 300 from rfl]; exact nI_le c (by omega)), nm_eq, y1, Option.bind_some, y2]
      · have g : ∀ a, a ≠ 2 → a ≠ 3 → a ≠ 234 → a ≠ 238 → M2 a = M a := fun a a1 a2 a3 a4 => by rw [y3 a a3 a4, x3 a a1 a2]
        have g2 : ∀ j, j ≠ 5 → M2 234 j = M 234 j := fun j hj => by rw [y4 j hj, x3 234 (by decide) (by decide)]
        obtain ⟨i1, i2, ⟨S, hS⟩, i4, i5, i6, i7⟩ := h
        refine ⟨i1.eq (fun r hr => g _ (by omega) (by omega) (by omega) (by omega)) (g _ (by omega) (by omega) (by omega) (by omega)) (g _ (by omega) (by omega) (by omega) (by omega)) (g _ (by omega) (by omega) (by omega) (by omega)), ⟨L + n, c, ?_, y2, fun k hk => ?_⟩, ⟨S, hS.eq (fun a ha hb => g a (by omega) (by omega) (by omega) (by omega)) (g _ (by omega) (by omega) (by omega) (by omega))⟩, i4.eq (g _ (by omega) (by omega) (by omega) (by omega)) (g2 _ (by decide)) (g _ (by omega) (by omega) (by omega) (by omega)) (fun a ha hb => g a (by omega) (by omega) (by omega) (by omega)) (g _ (by omega) (by omega) (by omega) (by omega)), i5.eq (fun a ha hb => g a (by omega) (by omega) (by omega) (by omega)) (g _ (by omega) (by omega) (by omega) (by omega)) (g _ (by omega) (by omega) (by omega) (by omega)), i6.eq (g _ (by omega) (by omega) (by omega) (by omega)) (g2 _ (by decide)) (g _ (by omega) (by omega) (by omega) (by omega)) (g _ (by omega) (by omega) (by omega) (by omega)), i7.eq (g _ (by omega) (by omega) (by omega) (by omega)) (g2 _ (by decide)) (g2 _ (by decide))⟩
        · rw [y3 2 (by decide) (by decide)]
          exact x2
        · rw [y3 3 (by decide) (by decide), x4 k hk, y5 k hk]
          unfold tf
          by_cases q : k < L
          · rw [if_pos q, if_pos q, x3 238 (by decide) (by decide)]
            exact t4 k q
          · rw [if_neg q, if_neg q]
            obtain ⟨j, hj, e⟩ := pk_andE (((x.toUInt64 >>> ((8 * nI (n - 1 - (k - L))).toInt64.toUInt64 &&& Int64.toUInt64 63)).toInt64).toInt32) (m := 255) 8 (by decide)
            exact ⟨rfl, j, hj, e⟩
    · rw [if_pos (by rw [show (300 : Int32) = nI 300 from rfl]; exact nI_lt (by omega) (by omega)), Option.bind_some, if_pos rfl]
      refine ww_same h (r := -1000003) rfl ?_
      rw [p3, Option.bind_some, if_neg n10, t3, nI_add, if_neg (by rw [show (300 : Int32) = nI 300 from rfl]; exact nI_ge (by omega) (by omega))]
  · refine ww_same h (r := -1000001) ?_ ?_
    · by_cases u1 : b < 1
      · rw [if_pos u1]
      · rw [if_neg u1, if_neg]
        intro u2
        apply p1
        have u : ¬ b.toInt < (1 : Int32).toInt := fun q => u1 (i32_lt.mpr q)
        have v := i32_le.mp u2
        omega
    · rw [p3]; rfl
