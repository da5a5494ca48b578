/-! ## sets of bits -/
theorem and_split {k a b m1 m2 : Nat} (ha : a < 2 ^ k) (hm : m1 < 2 ^ k) : (2 ^ k * b + a) &&& (2 ^ k * m2 + m1) = 2 ^ k * (b &&& m2) + (a &&& m1) := by
  have h1 : a &&& m1 < 2 ^ k := Nat.lt_of_le_of_lt Nat.and_le_left ha
  apply Nat.eq_of_testBit_eq
  intro i
  rw [Nat.testBit_and, Nat.testBit_two_pow_mul_add _ ha, Nat.testBit_two_pow_mul_add _ hm, Nat.testBit_two_pow_mul_add _ h1]
  by_cases q : i < k
  · simp [q]
  · simp [q]
theorem and_sp8 {a b m1 m2 : Nat} (ha : a < 256) (hm : m1 < 256) : (a + 256 * b) &&& (m1 + 256 * m2) = (a &&& m1) + 256 * (b &&& m2) := by
  have := and_split (k := 8) (a := a) (b := b) (m1 := m1) (m2 := m2) ha hm
  rw [Nat.add_comm a, Nat.add_comm m1, Nat.add_comm (a &&& m1)]
  exact this
theorem nx_and {a b : Nat} (ha : a < 2 ^ 32) (hb : b < 2 ^ 32) : nI a &&& nI b = nI (a &&& b) := by
  apply Int32.toBitVec_inj.1
  apply BitVec.eq_of_toNat_eq
  rw [Int32.toBitVec_and, BitVec.toNat_and, pk_tn ha, pk_tn hb, pk_tn (Nat.lt_of_le_of_lt Nat.and_le_left ha)]
theorem nx_or {a b : Nat} (ha : a < 2 ^ 32) (hb : b < 2 ^ 32) : nI a ||| nI b = nI (a ||| b) := by
  apply Int32.toBitVec_inj.1
  apply BitVec.eq_of_toNat_eq
  rw [Int32.toBitVec_or, BitVec.toNat_or, pk_tn ha, pk_tn hb, pk_tn (Nat.or_lt_two_pow ha hb)]
def F1 (m v : Nat) : Nat := v - ((v / 2) &&& m)
def F2 (m v : Nat) : Nat := (v &&& m) + ((v / 4) &&& m)
def F3 (m v : Nat) : Nat := (v + v / 16) &&& m
theorem f1_tab : ((List.range 256).all fun a => (List.range 2).all fun e => decide ((a / 2 + 128 * e) &&& 85 = (a / 2) &&& 85) && decide (F1 85 a < 256)) = true := by decide +kernel
theorem F1_sp {a b m : Nat} (ha : a < 256) : F1 (85 + 256 * m) (a + 256 * b) = F1 85 a + 256 * F1 m b := by
  have e1 : (a + 256 * b) / 2 = (a / 2 + 128 * (b % 2)) + 256 * (b / 2) := by omega
  have h1 := all_r (all_r f1_tab ha) (k := b % 2) (by omega)
  rw [Bool.and_eq_true] at h1
  have h2 := of_decide_eq_true h1.1
  have h3 : (a / 2) &&& 85 ≤ a := Nat.le_trans Nat.and_le_left (by omega)
  have h4 : (b / 2) &&& m ≤ b := Nat.le_trans Nat.and_le_left (by omega)
  unfold F1
  rw [e1, and_sp8 (by omega) (by omega), h2]
  omega
theorem f2_tab : ((List.range 256).all fun a => (List.range 4).all fun e => decide ((a / 4 + 64 * e) &&& 51 = (a / 4) &&& 51) && decide (F2 51 a < 256)) = true := by decide +kernel
theorem F2_sp {a b m : Nat} (ha : a < 256) : F2 (51 + 256 * m) (a + 256 * b) = F2 51 a + 256 * F2 m b := by
  have e1 : (a + 256 * b) / 4 = (a / 4 + 64 * (b % 4)) + 256 * (b / 4) := by omega
  have h1 := all_r (all_r f2_tab ha) (k := b % 4) (by omega)
  rw [Bool.and_eq_true] at h1
  have h2 := of_decide_eq_true h1.1
  unfold F2
  rw [e1, and_sp8 (by omega) (by omega), and_sp8 (by omega) (by omega), h2]
  omega
theorem f3_tab : ((List.range 69).all fun a => (List.range 5).all fun e => decide ((a + a / 16 + 16 * e) &&& 15 = (a + a / 16) &&& 15) && decide (a + a / 16 + 16 * e < 256)) = true := by decide +kernel
theorem F3_sp {a b m : Nat} (ha : a < 69) (hb : b % 16 < 5) : F3 (15 + 256 * m) (a + 256 * b) = F3 15 a + 256 * F3 m b := by
  have e1 : (a + 256 * b) + (a + 256 * b) / 16 = (a + a / 16 + 16 * (b % 16)) + 256 * (b + b / 16) := by omega
  have h1 := all_r (all_r f3_tab ha) (k := b % 16) (by omega)
  rw [Bool.and_eq_true] at h1
  have h2 := of_decide_eq_true h1.1
  have h3 := of_decide_eq_true h1.2
  unfold F3
  rw [e1, and_sp8 h3 (by omega), h2]
/-- how many of the first n bits -/
def pc (n v : Nat) : Nat := (List.range n).countP (fun i => v.testBit i)
def byP (a : Nat) : Nat := F3 15 (F2 51 (F1 85 a))
theorem by_tab : ((List.range 256).all fun a => decide (F1 85 a < 256) && (decide (F2 51 (F1 85 a) < 69) && (decide (F2 51 (F1 85 a) % 16 < 5) && (decide (byP a = pc 8 a) && decide (byP a ≤ 8))))) = true := by decide +kernel
theorem byF {a : Nat} (ha : a < 256) : F1 85 a < 256 ∧ F2 51 (F1 85 a) < 69 ∧ F2 51 (F1 85 a) % 16 < 5 ∧ byP a = pc 8 a ∧ byP a ≤ 8 := by
  have h := all_r by_tab ha
  simp only [Bool.and_eq_true, decide_eq_true_eq] at h
  exact h
theorem pc_sp {k n a b : Nat} (ha : a < 2 ^ k) : pc (k + n) (2 ^ k * b + a) = pc k a + pc n b := by
  unfold pc
  rw [List.range_add, List.countP_append, List.countP_map]
  congr 1
  · apply List.countP_congr
    intro i hi
    rw [Nat.testBit_two_pow_mul_add _ ha, if_pos (List.mem_range.mp hi)]
  · apply List.countP_congr
    intro i hi
    show (2 ^ k * b + a).testBit (k + i) = true ↔ _
    rw [Nat.testBit_two_pow_mul_add _ ha, if_neg (by omega), show k + i - k = i by omega]
theorem by4 {a b c d : Nat} (ha : a < 256) (hb : b < 256) (hc : c < 256) (hd : d < 256) : F3 252645135 (F2 858993459 (F1 1431655765 (a + 256 * (b + 256 * (c + 256 * d))))) = byP a + 256 * (byP b + 256 * (byP c + 256 * byP d)) := by
  have e1 : (1431655765 : Nat) = 85 + 256 * (85 + 256 * (85 + 256 * 85)) := rfl
  have e2 : (858993459 : Nat) = 51 + 256 * (51 + 256 * (51 + 256 * 51)) := rfl
  have e3 : (252645135 : Nat) = 15 + 256 * (15 + 256 * (15 + 256 * 15)) := rfl
  obtain ⟨a1, a2, a3, -, -⟩ := byF ha
  obtain ⟨b1, b2, b3, -, -⟩ := byF hb
  obtain ⟨c1, c2, c3, -, -⟩ := byF hc
  obtain ⟨d1, d2, d3, -, -⟩ := byF hd
  rw [e1, e2, e3, F1_sp ha, F1_sp hb, F1_sp hc, F2_sp a1, F2_sp b1, F2_sp c1, F3_sp a2 (by omega), F3_sp b2 (by omega), F3_sp c2 (by omega)]
  rfl
theorem by_end {A B C D : Nat} (hA : A ≤ 8) (hB : B ≤ 8) (hC : C ≤ 8) (hD : D ≤ 8) : ((A + 256 * (B + 256 * (C + 256 * D))) + (A + 256 * (B + 256 * (C + 256 * D))) / 2 ^ 8 + ((A + 256 * (B + 256 * (C + 256 * D))) + (A + 256 * (B + 256 * (C + 256 * D))) / 2 ^ 8) / 2 ^ 16) % 2 ^ 6 = A + B + C + D := by
  have e1 : (A + 256 * (B + 256 * (C + 256 * D))) / 2 ^ 8 = B + 256 * (C + 256 * D) := by
    rw [show (2 : Nat) ^ 8 = 256 from rfl]
    omega
  rw [e1]
  have e2 : (A + 256 * (B + 256 * (C + 256 * D)) + (B + 256 * (C + 256 * D))) / 2 ^ 16 = (C + D) + 256 * D := by
    rw [show (2 : Nat) ^ 16 = 65536 from rfl]
    omega
  rw [e2, show (2 : Nat) ^ 6 = 64 from rfl]
  omega
theorem u_1 : (((1 : Int32).toUInt32 &&& Int32.toUInt32 31).toBitVec % 32).toNat = 1 := by decide +kernel
theorem u_2 : (((2 : Int32).toUInt32 &&& Int32.toUInt32 31).toBitVec % 32).toNat = 2 := by decide +kernel
theorem u_4 : (((4 : Int32).toUInt32 &&& Int32.toUInt32 31).toBitVec % 32).toNat = 4 := by decide +kernel
theorem u_8 : (((8 : Int32).toUInt32 &&& Int32.toUInt32 31).toBitVec % 32).toNat = 8 := by decide +kernel
theorem u_16 : (((16 : Int32).toUInt32 &&& Int32.toUInt32 31).toBitVec % 32).toNat = 16 := by decide +kernel
theorem bitCount (M : Mem) {v : Nat} (hv : v < 2 ^ 32) : m_J6_bitCount_0f7a4 M (nI v) = some (nI (pc 32 v)) := by
  obtain ⟨a, b, c, d, ha, hb, hc, hd, rfl⟩ : ∃ a b c d, a < 256 ∧ b < 256 ∧ c < 256 ∧ d < 256 ∧ v = a + 256 * (b + 256 * (c + 256 * d)) := ⟨v % 256, v / 256 % 256, v / 65536 % 256, v / 16777216, by omega, by omega, by omega, by omega, by omega⟩
  have hb4 := by4 ha hb hc hd
  obtain ⟨a1, a2, a3, a4, a5⟩ := byF ha
  obtain ⟨b1, b2, b3, b4, b5⟩ := byF hb
  obtain ⟨c1, c2, c3, c4, c5⟩ := byF hc
  obtain ⟨d1, d2, d3, d4, d5⟩ := byF hd
  generalize hV : a + 256 * (b + 256 * (c + 256 * d)) = V at hb4 hv
  have hpc : pc 32 V = byP a + byP b + byP c + byP d := by
    have h1 := pc_sp (k := 8) (n := 24) (a := a) (b := b + 256 * (c + 256 * d)) ha
    have h2 := pc_sp (k := 8) (n := 16) (a := b) (b := c + 256 * d) hb
    have h3 := pc_sp (k := 8) (n := 8) (a := c) (b := d) hc
    rw [show 2 ^ 8 * (b + 256 * (c + 256 * d)) + a = V by omega] at h1
    rw [show 2 ^ 8 * (c + 256 * d) + b = b + 256 * (c + 256 * d) by omega] at h2
    rw [show 2 ^ 8 * d + c = c + 256 * d by omega] at h3
    rw [show 32 = 8 + 24 from rfl, h1, show 24 = 8 + 16 from rfl, h2, show 16 = 8 + 8 from rfl, h3]
    omega
  have hp : byP a ≤ 8 ∧ byP b ≤ 8 ∧ byP c ≤ 8 ∧ byP d ≤ 8 := ⟨a5, b5, c5, d5⟩
  unfold m_J6_bitCount_0f7a4
  have g1 : V / 2 &&& 1431655765 ≤ V := Nat.le_trans Nat.and_le_left (by omega)
  have h1 : nI V - ((((nI V).toUInt32 >>> ((1 : Int32).toUInt32 &&& Int32.toUInt32 31)).toInt32) &&& 1431655765) = nI (F1 1431655765 V) := by
    rw [pk_ushrN hv _ 1 u_1, show (1431655765 : Int32) = nI 1431655765 from rfl, nx_and (by omega) (by omega), pk_sub g1]
    rfl
  have g2 : F1 1431655765 V < 2 ^ 32 := by unfold F1; omega
  generalize F1 1431655765 V = V1 at hb4 h1 g2
  rw [h1, nm_eq]
  have h2 : (nI V1 &&& 858993459) + ((((nI V1).toUInt32 >>> ((2 : Int32).toUInt32 &&& Int32.toUInt32 31)).toInt32) &&& 858993459) = nI (F2 858993459 V1) := by
    rw [pk_ushrN g2 _ 2 u_2, show (858993459 : Int32) = nI 858993459 from rfl, nx_and g2 (by omega), nx_and (by omega) (by omega), nI_add]
    rfl
  have g3 : F2 858993459 V1 < 2 ^ 31 := by
    unfold F2
    have i1 : V1 &&& 858993459 ≤ 858993459 := Nat.and_le_right
    have i2 : V1 / 4 &&& 858993459 ≤ 858993459 := Nat.and_le_right
    omega
  generalize F2 858993459 V1 = V2 at hb4 h2 g3
  rw [h2, nm_eq]
  have h3 : (nI V2 + (((nI V2).toUInt32 >>> ((4 : Int32).toUInt32 &&& Int32.toUInt32 31)).toInt32)) &&& 252645135 = nI (F3 252645135 V2) := by
    rw [pk_ushrN (by omega) _ 4 u_4, nI_add, show (252645135 : Int32) = nI 252645135 from rfl, nx_and (by omega) (by omega)]
    rfl
  rw [h3, nm_eq, hb4]
  rw [pk_ushrN (by omega) _ 8 u_8, nI_add, nm_eq, pk_ushrN (by omega) _ 16 u_16, nI_add, nm_eq]
  rw [pk_andN (by omega) 6 (by decide), hpc, by_end hp.1 hp.2.1 hp.2.2.1 hp.2.2.2]
