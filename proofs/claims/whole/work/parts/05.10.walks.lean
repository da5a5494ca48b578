def b_X8_part_5 (M : Mem) (x0 : Int32) (x1 : Int32) (x2 : Int32) (x3 : Int32) (x4 : Int32) : Option ((Int32 × Int32) ⊕ Int32) :=
  if x4 = 0 then (some (.inr x3)) else (chk (nz x4) (nm (x3 % x4) fun y2 => some (.inl (x4, y2))))
def m_X8_part (M : Mem) (x0 : Int32) (x1 : Int32) (x2 : Int32) : Option Int32 :=
  (loopF (fun z => b_X8_part_5 M x0 x1 x2 z.1 z.2) FUEL (x0, x1)).bind fun z3 => if x2 = 0 then (chk (nz z3) (some (x0 / z3))) else (chk (nz z3) (some (x1 / z3)))
set_option maxHeartbeats 4000000 in
set_option maxRecDepth 100000 in
theorem c_X8_part (l : Launch) (D : va_G) (cA : cAt) (B : Nat) (aK aV : Nat → Nat) (M : Mem) (x0 : Int32) (x1 : Int32) (x2 : Int32) (R : Int32) (h : m_X8_part M x0 x1 x2 = some R) : CI l D cA B aK aV yX8_part cX8_part 6 .int 0 [.int x0, .int x1, .int x2] M R M := by
  refine CI_of (by decide +kernel) (Nat.le_of_ble_eq_true rfl) ?_
  intro p e s m args below meth c C hr hlk
  have C : Cx p (rmd 0) s m args c 0 0 D cA B aK aV cX8_part 6 RX8 := C
  generalize hQ : MQ below _ args s 0 0 _ = Q
  refine v_eq (M' := M) (pc' := 0) (L' := [(0, .int x0), (1, .int x1), (2, .int x2)]) (st' := []) ?_
  unfold m_X8_part at h
  refine v_iload_n (j := 0) C dX8_part_0 rfl rfl ?_
  refine v_istore_n (L' := [(3, .int x0), (0, .int x0), (1, .int x1), (2, .int x2)]) C dX8_part_1 rfl (by decide) rfl ?_
  refine v_iload_n (j := 2) C dX8_part_2 rfl rfl ?_
  refine v_istore (L' := [(4, .int x1), (3, .int x0), (0, .int x0), (1, .int x1), (2, .int x2)]) C dX8_part_3 (by decide) rfl ?_
  have LB5 : ∀  (x3 : Int32) (x4 : Int32) (o5 : (Int32 × Int32) ⊕ Int32) (h : b_X8_part_5 M x0 x1 x2 x3 x4 = some o5) (hc5 : ∀ z : Int32 × Int32, o5 = .inl z → V p l e (rmd 0) s m args below meth c 0 0 D cA B 6 Q M 5 [(0, .int x0), (1, .int x1), (2, .int x2), (3, .int z.1), (4, .int z.2)] []) (he5 : ∀ z : Int32, o5 = .inr z → V p l e (rmd 0) s m args below meth c 0 0 D cA B 6 Q M 26 [(0, .int x0), (1, .int x1), (2, .int x2), (3, .int z)] []), V p l e (rmd 0) s m args below meth c 0 0 D cA B 6 Q M 5 [(0, .int x0), (1, .int x1), (2, .int x2), (3, .int x3), (4, .int x4)] [] := by
    intro x3 x4 o5 h hc5 he5
    unfold b_X8_part_5 at h
    refine v_iload (j := 4) C dX8_part_5 rfl ?_
    refine v_if_eq (tgt := 26) C dX8_part_7 (by decide) (fun g => ?_) (fun g => ?_)
    · replace h := ite_t g h
      replace h := Option.some.inj h; subst h
      refine v_sub [0, 1, 2, 3] rfl ?_
      exact he5 x3 rfl
    · replace h := ite_f g h
      refine v_iload_n (j := 3) C dX8_part_10 rfl rfl ?_
      refine v_iload (j := 4) C dX8_part_11 rfl ?_
      replace h := chk_some h; obtain ⟨g1, h⟩ := h
      refine v_irem C dX8_part_13 (of_decide_eq_true g1) ?_
      replace h := nm_ex h; obtain ⟨y2, ey2, h⟩ := h
      refine v_topI ey2 ?_
      refine v_istore (L' := [(5, .int y2), (0, .int x0), (1, .int x1), (2, .int x2), (3, .int x3), (4, .int x4)]) C dX8_part_14 (by decide) rfl ?_
      refine v_pc (pc' := 16) rfl ?_
      refine v_iload (j := 5) C dX8_part_16 rfl ?_
      refine v_istore_n (L' := [(3, .int x4), (5, .int y2), (0, .int x0), (1, .int x1), (2, .int x2), (4, .int x4)]) C dX8_part_18 rfl (by decide) rfl ?_
      refine v_iload (j := 1) C dX8_part_19 rfl ?_
      refine v_istore (L' := [(4, .int y2), (3, .int x4), (5, .int y2), (0, .int x0), (1, .int x1), (2, .int x2)]) C dX8_part_21 (by decide) rfl ?_
      refine v_goto (tgt := 5) C dX8_part_23 (by decide) ?_
      replace h := Option.some.inj h; subst h
      refine v_sub [3, 4, 5, 1, 0] rfl ?_
      exact hc5 (x4, y2) rfl
  replace h := bind_ex h; obtain ⟨z3, hz3, h⟩ := h
  refine v_sub [2, 3, 4, 1, 0] rfl ?_
  refine loopF_walk (Pσ := fun z => V p l e (rmd 0) s m args below meth c 0 0 D cA B 6 Q M 5 [(0, .int x0), (1, .int x1), (2, .int x2), (3, .int z.1), (4, .int z.2)] []) (Pρ := fun y => V p l e (rmd 0) s m args below meth c 0 0 D cA B 6 Q M 26 [(0, .int x0), (1, .int x1), (2, .int x2), (3, .int y)] []) ?_ FUEL (x0, x1) z3 hz3 ?_
  · intro z o hb hc he
    exact LB5 z.1 z.2 o hb hc he
  · refine v_iload_n (j := 2) C dX8_part_26 rfl rfl ?_
    refine v_if_ne (tgt := 36) C dX8_part_27 (by decide) (fun g => ?_) (fun g => ?_)
    · replace h := ite_t g h
      refine v_iload_n (j := 0) C dX8_part_30 rfl rfl ?_
      refine v_iload_n (j := 3) C dX8_part_31 rfl rfl ?_
      replace h := chk_some h; obtain ⟨g5, h⟩ := h
      refine v_idiv C dX8_part_32 (of_decide_eq_true g5) ?_
      refine v_goto (tgt := 39) C dX8_part_33 (by decide) ?_
      replace h := Option.some.inj h; subst h
      subst hQ
      exact v_iret C hr hlk dX8_part_39
    · replace h := ite_f g h
      refine v_iload_n (j := 1) C dX8_part_36 rfl rfl ?_
      refine v_iload_n (j := 3) C dX8_part_37 rfl rfl ?_
      replace h := chk_some h; obtain ⟨g4, h⟩ := h
      refine v_idiv C dX8_part_38 (of_decide_eq_true g4) ?_
      replace h := Option.some.inj h; subst h
      subst hQ
      exact v_iret C hr hlk dX8_part_39
def m_X8_mean (M : Mem) (x1 : Int32) (x2 : Int32) (x3 : Int32) (x4 : Int32) : Option (Int32 × Mem) :=
  (m_X8_isChild M x1).bind fun r1 => if r1 = 0 then (some (((-1000001), M))) else ((m_X8_isThrow M x2 x3).bind fun r2 => if r2 = 0 then (some (((-1000001), M))) else ((m_X8_in M x4.toInt64 0 1).bind fun r3 => if r3 = 0 then (some (((-1000001), M))) else ((m_X8_lays M).bind fun r4 => (m_X8_laysWays r4 x2 x3).bind fun r5 => (m_X8_waysOf r5 x1).bind fun r6 => (m_X8_part r5 r6 (r5 234 24) x4).bind fun r7 => some ((r7, r5)))))
set_option maxHeartbeats 4000000 in
set_option maxRecDepth 100000 in
theorem c_X8_mean (l : Launch) (D : va_G) (cA : cAt) (B : Nat) (aK aV : Nat → Nat) (M : Mem) (x1 : Int32) (x2 : Int32) (x3 : Int32) (x4 : Int32) (R : Int32 × Mem) (h : m_X8_mean M x1 x2 x3 x4 = some R) : CI l D cA B aK aV yX8_mean cX8_mean 5 .int 4 [.ref (B + 234), .int x1, .int x2, .int x3, .int x4] M R.1 R.2 := by
  refine CI_of (by decide +kernel) (Nat.le_of_ble_eq_true rfl) ?_
  intro p e s m args below meth c C hr hlk
  have C : Cx p (rmd 4) s m args c 0 0 D cA B aK aV cX8_mean 5 RX8 := C
  generalize hQ : MQ below _ args s 0 0 _ = Q
  refine v_eq (M' := M) (pc' := 0) (L' := [(0, .ref (B + 234)), (1, .int x1), (2, .int x2), (3, .int x3), (4, .int x4)]) (st' := []) ?_
  unfold m_X8_mean at h
  refine v_aload_nR (j := 0) C dX8_mean_0 rfl rfl ?_
  refine v_iload_n (j := 1) C dX8_mean_1 rfl rfl ?_
  replace h := bind_ex h; obtain ⟨r1, hr1, h⟩ := h
  refine cv_I C tw_1128 tw_111 tw_1125 tw_1127 tw_91 pd_X8_isChild (Nat.le_of_ble_eq_true rfl) (Nat.le_of_ble_eq_true rfl) (q := 234) (kd_lt ks_234 (by decide)) (sh8 ks_234) rfl (As := [.int x1]) (rest := []) rfl rfl (Nat.le_of_ble_eq_true rfl) (c_X8_isChild l D cA B aK aV M x1 r1 hr1) dX8_mean_2 ?_
  refine v_if_eq (tgt := 27) C dX8_mean_5 (by decide) (fun g => ?_) (fun g => ?_)
  · replace h := ite_t g h
    refine v_ldc C tw_981 dX8_mean_27 ?_
    replace h := Option.some.inj h; subst h
    subst hQ
    exact v_iret C hr hlk dX8_mean_29
  · replace h := ite_f g h
    refine v_iload_n (j := 2) C dX8_mean_8 rfl rfl ?_
    refine v_iload_n (j := 3) C dX8_mean_9 rfl rfl ?_
    refine v_pc (pc' := 10) rfl ?_
    replace h := bind_ex h; obtain ⟨r2, hr2, h⟩ := h
    refine cs_I C tw_1082 tw_111 tw_1080 tw_1081 pd_X8_isThrow (Nat.le_of_ble_eq_true rfl) (Nat.le_of_ble_eq_true rfl) (As := [.int x2, .int x3]) (rest := []) rfl rfl (Nat.le_of_ble_eq_true rfl) (c_X8_isThrow l D cA B aK aV M x2 x3 r2 hr2) dX8_mean_10 ?_
    refine v_if_eq (tgt := 27) C dX8_mean_13 (by decide) (fun g => ?_) (fun g => ?_)
    · replace h := ite_t g h
      refine v_ldc C tw_981 dX8_mean_27 ?_
      replace h := Option.some.inj h; subst h
      subst hQ
      exact v_iret C hr hlk dX8_mean_29
    · replace h := ite_f g h
      refine v_iload (j := 4) C dX8_mean_16 rfl ?_
      refine v_i2l C dX8_mean_18 ?_
      refine v_lconst (v := 0) C dX8_mean_19 rfl ?_
      refine v_lconst (v := 1) C dX8_mean_20 rfl ?_
      replace h := bind_ex h; obtain ⟨r3, hr3, h⟩ := h
      refine cs_I C tw_979 tw_111 tw_977 tw_978 pd_X8_in (Nat.le_of_ble_eq_true rfl) (Nat.le_of_ble_eq_true rfl) (As := [.long x4.toInt64, .long 0, .long 1]) (rest := []) rfl rfl (Nat.le_of_ble_eq_true rfl) (c_X8_in l D cA B aK aV M x4.toInt64 0 1 r3 hr3) dX8_mean_21 ?_
      refine v_pc (pc' := 24) rfl ?_
      refine v_if_ne (tgt := 30) C dX8_mean_24 (by decide) (fun g => ?_) (fun g => ?_)
      · replace h := ite_t g h
        refine v_ldc C tw_981 dX8_mean_27 ?_
        replace h := Option.some.inj h; subst h
        subst hQ
        exact v_iret C hr hlk dX8_mean_29
      · replace h := ite_f g h
        refine v_aload_nR (j := 0) C dX8_mean_30 rfl rfl ?_
        replace h := bind_ex h; obtain ⟨r4, hr4, h⟩ := h
        refine cv_V C tw_1096 tw_111 tw_1093 tw_1095 tw_86 pd_X8_lays (Nat.le_of_ble_eq_true rfl) (Nat.le_of_ble_eq_true rfl) (q := 234) (kd_lt ks_234 (by decide)) (sh8 ks_234) rfl (As := []) (rest := []) rfl rfl (Nat.le_of_ble_eq_true rfl) (c_X8_lays l D cA B aK aV M r4 hr4) dX8_mean_31 ?_
        refine v_aload_nR (j := 0) C dX8_mean_34 rfl rfl ?_
        refine v_iload_n (j := 2) C dX8_mean_35 rfl rfl ?_
        refine v_iload_n (j := 3) C dX8_mean_36 rfl rfl ?_
        replace h := bind_ex h; obtain ⟨r5, hr5, h⟩ := h
        refine cv_V C tw_1116 tw_111 tw_1113 tw_1115 tw_90 pd_X8_laysWays (Nat.le_of_ble_eq_true rfl) (Nat.le_of_ble_eq_true rfl) (q := 234) (kd_lt ks_234 (by decide)) (sh8 ks_234) rfl (As := [.int x2, .int x3]) (rest := []) rfl rfl (Nat.le_of_ble_eq_true rfl) (c_X8_laysWays l D cA B aK aV r4 x2 x3 r5 hr5) dX8_mean_37 ?_
        refine v_pc (pc' := 40) rfl ?_
        refine v_aload_nR (j := 0) C dX8_mean_40 rfl rfl ?_
        refine v_iload_n (j := 1) C dX8_mean_41 rfl rfl ?_
        replace h := bind_ex h; obtain ⟨r6, hr6, h⟩ := h
        refine cv_I C tw_1160 tw_111 tw_1157 tw_1159 tw_93 pd_X8_waysOf (Nat.le_of_ble_eq_true rfl) (Nat.le_of_ble_eq_true rfl) (q := 234) (kd_lt ks_234 (by decide)) (sh8 ks_234) rfl (As := [.int x1]) (rest := []) rfl rfl (Nat.le_of_ble_eq_true rfl) (c_X8_waysOf l D cA B aK aV r5 x1 r6 hr6) dX8_mean_42 ?_
        refine v_aload_nR (j := 0) C dX8_mean_45 rfl rfl ?_
        refine gf_X8_186 C ks_234 dX8_mean_46 ?_
        refine v_iload (j := 4) C dX8_mean_49 rfl ?_
        replace h := bind_ex h; obtain ⟨r7, hr7, h⟩ := h
        refine cs_I C tw_1163 tw_111 tw_1161 tw_1162 pd_X8_part (Nat.le_of_ble_eq_true rfl) (Nat.le_of_ble_eq_true rfl) (As := [.int r6, .int (r5 234 24), .int x4]) (rest := []) rfl rfl (Nat.le_of_ble_eq_true rfl) (c_X8_part l D cA B aK aV r5 r6 (r5 234 24) x4 r7 hr7) dX8_mean_51 ?_
        refine v_pc (pc' := 54) rfl ?_
        replace h := Option.some.inj h; subst h
        subst hQ
        exact v_iret C hr hlk dX8_mean_54
def b_X8_some_62 (M : Mem) (x1 : Int32) (x4 : Int32) (x5 : Int32) (x6 : Int32) (x7 : Int32) (x8 : Int32) : Option ((Int32 × Int32 × Int32) ⊕ (Int32 × Int32)) :=
  if x4 ≤ x8 then (some (.inr (x6, x7))) else ((m_X8_waysOf M x1).bind fun r7 => nm (x6 * ((M 234 24) - r7)) fun y8 => nm (x7 * (M 234 24)) fun y9 => some (.inl (y8, y9, x8 + 1)))
def m_X8_some (M : Mem) (x1 : Int32) (x2 : Int32) (x3 : Int32) (x4 : Int32) (x5 : Int32) : Option (Int32 × Mem) :=
  (m_X8_isChild M x1).bind fun r1 => if r1 = 0 then (some (((-1000001), M))) else ((m_X8_isThrow M x2 x3).bind fun r2 => if r2 = 0 then (some (((-1000001), M))) else ((m_X8_in M x4.toInt64 0 6).bind fun r3 => if r3 = 0 then (some (((-1000001), M))) else ((m_X8_in M x5.toInt64 0 1).bind fun r4 => if r4 = 0 then (some (((-1000001), M))) else ((m_X8_lays M).bind fun r5 => (m_X8_laysWays r5 x2 x3).bind fun r6 => (loopF (fun z => b_X8_some_62 r6 x1 x4 x5 z.1 z.2.1 z.2.2) FUEL (1, 1, 0)).bind fun z10 => (m_X8_part r6 (z10.2 - z10.1) z10.2 x5).bind fun r11 => some ((r11, r6))))))
set_option maxHeartbeats 4000000 in
set_option maxRecDepth 100000 in
theorem c_X8_some (l : Launch) (D : va_G) (cA : cAt) (B : Nat) (aK aV : Nat → Nat) (M : Mem) (x1 : Int32) (x2 : Int32) (x3 : Int32) (x4 : Int32) (x5 : Int32) (R : Int32 × Mem) (h : m_X8_some M x1 x2 x3 x4 x5 = some R) : CI l D cA B aK aV yX8_some cX8_some 9 .int 4 [.ref (B + 234), .int x1, .int x2, .int x3, .int x4, .int x5] M R.1 R.2 := by
  refine CI_of (by decide +kernel) (Nat.le_of_ble_eq_true rfl) ?_
  intro p e s m args below meth c C hr hlk
  have C : Cx p (rmd 4) s m args c 0 0 D cA B aK aV cX8_some 9 RX8 := C
  generalize hQ : MQ below _ args s 0 0 _ = Q
  refine v_eq (M' := M) (pc' := 0) (L' := [(0, .ref (B + 234)), (1, .int x1), (2, .int x2), (3, .int x3), (4, .int x4), (5, .int x5)]) (st' := []) ?_
  unfold m_X8_some at h
  refine v_aload_nR (j := 0) C dX8_some_0 rfl rfl ?_
  refine v_iload_n (j := 1) C dX8_some_1 rfl rfl ?_
  replace h := bind_ex h; obtain ⟨r1, hr1, h⟩ := h
  refine cv_I C tw_1128 tw_111 tw_1125 tw_1127 tw_91 pd_X8_isChild (Nat.le_of_ble_eq_true rfl) (Nat.le_of_ble_eq_true rfl) (q := 234) (kd_lt ks_234 (by decide)) (sh8 ks_234) rfl (As := [.int x1]) (rest := []) rfl rfl (Nat.le_of_ble_eq_true rfl) (c_X8_isChild l D cA B aK aV M x1 r1 hr1) dX8_some_2 ?_
  refine v_if_eq (tgt := 40) C dX8_some_5 (by decide) (fun g => ?_) (fun g => ?_)
  · replace h := ite_t g h
    refine v_ldc C tw_981 dX8_some_40 ?_
    replace h := Option.some.inj h; subst h
    subst hQ
    exact v_iret C hr hlk dX8_some_42
  · replace h := ite_f g h
    refine v_iload_n (j := 2) C dX8_some_8 rfl rfl ?_
    refine v_iload_n (j := 3) C dX8_some_9 rfl rfl ?_
    refine v_pc (pc' := 10) rfl ?_
    replace h := bind_ex h; obtain ⟨r2, hr2, h⟩ := h
    refine cs_I C tw_1082 tw_111 tw_1080 tw_1081 pd_X8_isThrow (Nat.le_of_ble_eq_true rfl) (Nat.le_of_ble_eq_true rfl) (As := [.int x2, .int x3]) (rest := []) rfl rfl (Nat.le_of_ble_eq_true rfl) (c_X8_isThrow l D cA B aK aV M x2 x3 r2 hr2) dX8_some_10 ?_
    refine v_if_eq (tgt := 40) C dX8_some_13 (by decide) (fun g => ?_) (fun g => ?_)
    · replace h := ite_t g h
      refine v_ldc C tw_981 dX8_some_40 ?_
      replace h := Option.some.inj h; subst h
      subst hQ
      exact v_iret C hr hlk dX8_some_42
    · replace h := ite_f g h
      refine v_iload (j := 4) C dX8_some_16 rfl ?_
      refine v_i2l C dX8_some_18 ?_
      refine v_lconst (v := 0) C dX8_some_19 rfl ?_
      refine v_ldc2 C tw_1168 dX8_some_20 ?_
      replace h := bind_ex h; obtain ⟨r3, hr3, h⟩ := h
      refine cs_I C tw_979 tw_111 tw_977 tw_978 pd_X8_in (Nat.le_of_ble_eq_true rfl) (Nat.le_of_ble_eq_true rfl) (As := [.long x4.toInt64, .long 0, .long 6]) (rest := []) rfl rfl (Nat.le_of_ble_eq_true rfl) (c_X8_in l D cA B aK aV M x4.toInt64 0 6 r3 hr3) dX8_some_23 ?_
      refine v_pc (pc' := 26) rfl ?_
      refine v_if_eq (tgt := 40) C dX8_some_26 (by decide) (fun g => ?_) (fun g => ?_)
      · replace h := ite_t g h
        refine v_ldc C tw_981 dX8_some_40 ?_
        replace h := Option.some.inj h; subst h
        subst hQ
        exact v_iret C hr hlk dX8_some_42
      · replace h := ite_f g h
        refine v_iload (j := 5) C dX8_some_29 rfl ?_
        refine v_i2l C dX8_some_31 ?_
        refine v_lconst (v := 0) C dX8_some_32 rfl ?_
        refine v_lconst (v := 1) C dX8_some_33 rfl ?_
        replace h := bind_ex h; obtain ⟨r4, hr4, h⟩ := h
        refine cs_I C tw_979 tw_111 tw_977 tw_978 pd_X8_in (Nat.le_of_ble_eq_true rfl) (Nat.le_of_ble_eq_true rfl) (As := [.long x5.toInt64, .long 0, .long 1]) (rest := []) rfl rfl (Nat.le_of_ble_eq_true rfl) (c_X8_in l D cA B aK aV M x5.toInt64 0 1 r4 hr4) dX8_some_34 ?_
        refine v_if_ne (tgt := 43) C dX8_some_37 (by decide) (fun g => ?_) (fun g => ?_)
        · replace h := ite_t g h
          refine v_pc (pc' := 40) rfl ?_
          refine v_ldc C tw_981 dX8_some_40 ?_
          replace h := Option.some.inj h; subst h
          subst hQ
          exact v_iret C hr hlk dX8_some_42
        · replace h := ite_f g h
          refine v_aload_nR (j := 0) C dX8_some_43 rfl rfl ?_
          replace h := bind_ex h; obtain ⟨r5, hr5, h⟩ := h
          refine cv_V C tw_1096 tw_111 tw_1093 tw_1095 tw_86 pd_X8_lays (Nat.le_of_ble_eq_true rfl) (Nat.le_of_ble_eq_true rfl) (q := 234) (kd_lt ks_234 (by decide)) (sh8 ks_234) rfl (As := []) (rest := []) rfl rfl (Nat.le_of_ble_eq_true rfl) (c_X8_lays l D cA B aK aV M r5 hr5) dX8_some_44 ?_
          refine v_aload_nR (j := 0) C dX8_some_47 rfl rfl ?_
          refine v_iload_n (j := 2) C dX8_some_48 rfl rfl ?_
          refine v_iload_n (j := 3) C dX8_some_49 rfl rfl ?_
          replace h := bind_ex h; obtain ⟨r6, hr6, h⟩ := h
          refine cv_V C tw_1116 tw_111 tw_1113 tw_1115 tw_90 pd_X8_laysWays (Nat.le_of_ble_eq_true rfl) (Nat.le_of_ble_eq_true rfl) (q := 234) (kd_lt ks_234 (by decide)) (sh8 ks_234) rfl (As := [.int x2, .int x3]) (rest := []) rfl rfl (Nat.le_of_ble_eq_true rfl) (c_X8_laysWays l D cA B aK aV r5 x2 x3 r6 hr6) dX8_some_50 ?_
          refine v_pc (pc' := 53) rfl ?_
          refine v_iconst C dX8_some_53 ct_i_1 ?_
          refine v_istore (L' := [(6, .int 1), (0, .ref (B + 234)), (1, .int x1), (2, .int x2), (3, .int x3), (4, .int x4), (5, .int x5)]) C dX8_some_54 (by decide) rfl ?_
          refine v_iconst C dX8_some_56 ct_i_1 ?_
          refine v_istore (L' := [(7, .int 1), (6, .int 1), (0, .ref (B + 234)), (1, .int x1), (2, .int x2), (3, .int x3), (4, .int x4), (5, .int x5)]) C dX8_some_57 (by decide) rfl ?_
          refine v_iconst C dX8_some_59 ct_i_0 ?_
          refine v_istore (L' := [(8, .int 0), (7, .int 1), (6, .int 1), (0, .ref (B + 234)), (1, .int x1), (2, .int x2), (3, .int x3), (4, .int x4), (5, .int x5)]) C dX8_some_60 (by decide) rfl ?_
          have LB62 : ∀ (M : Mem) (x6 : Int32) (x7 : Int32) (x8 : Int32) (o62 : (Int32 × Int32 × Int32) ⊕ (Int32 × Int32)) (h : b_X8_some_62 M x1 x4 x5 x6 x7 x8 = some o62) (hc62 : ∀ z : Int32 × Int32 × Int32, o62 = .inl z → V p l e (rmd 4) s m args below meth c 0 0 D cA B 9 Q M 62 [(0, .ref (B + 234)), (1, .int x1), (4, .int x4), (5, .int x5), (6, .int z.1), (7, .int z.2.1), (8, .int z.2.2)] []) (he62 : ∀ z : Int32 × Int32, o62 = .inr z → V p l e (rmd 4) s m args below meth c 0 0 D cA B 9 Q M 99 [(5, .int x5), (6, .int z.1), (7, .int z.2)] []), V p l e (rmd 4) s m args below meth c 0 0 D cA B 9 Q M 62 [(0, .ref (B + 234)), (1, .int x1), (4, .int x4), (5, .int x5), (6, .int x6), (7, .int x7), (8, .int x8)] [] := by
            intro M x6 x7 x8 o62 h hc62 he62
            unfold b_X8_some_62 at h
            refine v_iload (j := 6) C dX8_some_62 rfl ?_
            refine v_iload (j := 2) C dX8_some_64 rfl ?_
            refine v_icmp_ge (tgt := 99) C dX8_some_66 (by decide) (fun g => ?_) (fun g => ?_)
            · replace h := ite_t g h
              replace h := Option.some.inj h; subst h
              refine v_sub [3, 4, 5] rfl ?_
              exact he62 (x6, x7) rfl
            · replace h := ite_f g h
              refine v_iload (j := 4) C dX8_some_69 rfl ?_
              refine v_aload_nR (j := 0) C dX8_some_71 rfl rfl ?_
              refine gf_X8_186 C ks_234 dX8_some_72 ?_
              refine v_pc (pc' := 75) rfl ?_
              refine v_aload_nR (j := 0) C dX8_some_75 rfl rfl ?_
              refine v_iload_n (j := 1) C dX8_some_76 rfl rfl ?_
              replace h := bind_ex h; obtain ⟨r7, hr7, h⟩ := h
              refine cv_I C tw_1160 tw_111 tw_1157 tw_1159 tw_93 pd_X8_waysOf (Nat.le_of_ble_eq_true rfl) (Nat.le_of_ble_eq_true rfl) (q := 234) (kd_lt ks_234 (by decide)) (sh8 ks_234) rfl (As := [.int x1]) (rest := [.int (M 234 24), .int x6]) rfl rfl (Nat.le_of_ble_eq_true rfl) (c_X8_waysOf l D cA B aK aV M x1 r7 hr7) dX8_some_77 ?_
              refine v_isub C dX8_some_80 ?_
              refine v_imul C dX8_some_81 ?_
              replace h := nm_ex h; obtain ⟨y8, ey8, h⟩ := h
              refine v_topI ey8 ?_
              refine v_istore (L' := [(6, .int y8), (0, .ref (B + 234)), (1, .int x1), (4, .int x4), (5, .int x5), (7, .int x7), (8, .int x8)]) C dX8_some_82 (by decide) rfl ?_
              refine v_iload (j := 5) C dX8_some_84 rfl ?_
              refine v_pc (pc' := 86) rfl ?_
              refine v_aload_nR (j := 1) C dX8_some_86 rfl rfl ?_
              refine gf_X8_186 C ks_234 dX8_some_87 ?_
              refine v_imul C dX8_some_90 ?_
              replace h := nm_ex h; obtain ⟨y9, ey9, h⟩ := h
              refine v_topI ey9 ?_
              refine v_istore (L' := [(7, .int y9), (6, .int y8), (0, .ref (B + 234)), (1, .int x1), (4, .int x4), (5, .int x5), (8, .int x8)]) C dX8_some_91 (by decide) rfl ?_
              refine v_iinc (j := 6) (L' := [(8, .int (x8 + 1)), (7, .int y9), (6, .int y8), (0, .ref (B + 234)), (1, .int x1), (4, .int x4), (5, .int x5)]) C dX8_some_93 rfl (congrArg (fun z => _ + z) ct_i_1) (by decide) rfl ?_
              refine v_goto (tgt := 62) C dX8_some_96 (by decide) ?_
              replace h := Option.some.inj h; subst h
              refine v_sub [3, 4, 5, 6, 2, 1, 0] rfl ?_
              exact hc62 (y8, y9, x8 + 1) rfl
          replace h := bind_ex h; obtain ⟨z10, hz10, h⟩ := h
          refine v_sub [3, 4, 7, 8, 2, 1, 0] rfl ?_
          refine loopF_walk (Pσ := fun z => V p l e (rmd 4) s m args below meth c 0 0 D cA B 9 Q r6 62 [(0, .ref (B + 234)), (1, .int x1), (4, .int x4), (5, .int x5), (6, .int z.1), (7, .int z.2.1), (8, .int z.2.2)] []) (Pρ := fun y => V p l e (rmd 4) s m args below meth c 0 0 D cA B 9 Q r6 99 [(5, .int x5), (6, .int y.1), (7, .int y.2)] []) ?_ FUEL (1, 1, 0) z10 hz10 ?_
          · intro z o hb hc he
            exact LB62 r6 z.1 z.2.1 z.2.2 o hb hc he
          · refine v_iload (j := 2) C dX8_some_99 rfl ?_
            refine v_iload (j := 1) C dX8_some_101 rfl ?_
            refine v_isub C dX8_some_103 ?_
            refine v_iload (j := 2) C dX8_some_104 rfl ?_
            refine v_iload (j := 0) C dX8_some_106 rfl ?_
            replace h := bind_ex h; obtain ⟨r11, hr11, h⟩ := h
            refine cs_I C tw_1163 tw_111 tw_1161 tw_1162 pd_X8_part (Nat.le_of_ble_eq_true rfl) (Nat.le_of_ble_eq_true rfl) (As := [.int (z10.2 - z10.1), .int z10.2, .int x5]) (rest := []) rfl rfl (Nat.le_of_ble_eq_true rfl) (c_X8_part l D cA B aK aV r6 (z10.2 - z10.1) z10.2 x5 r11 hr11) dX8_some_108 ?_
            refine v_pc (pc' := 111) rfl ?_
            replace h := Option.some.inj h; subst h
            subst hQ
            exact v_iret C hr hlk dX8_some_111
def j_X8_standOf_50 (M : Mem) (x1 : Int32) (x2 : Int32) (x4 : Int32) (x5 : Int32) (x6 : Int32) (s0 : Int32) : Option ((Int32 × Int32 × Int32 × Mem) ⊕ (Int32 × Mem)) :=
  if x6 ≤ x4 then (some (.inl (s0, x4, x5 + 1, M))) else (some (.inl (s0, x6, x5 + 1, M)))
def b_X8_standOf_15 (M : Mem) (x1 : Int32) (x2 : Int32) (x3 : Int32) (x4 : Int32) (x5 : Int32) : Option ((Int32 × Int32 × Int32 × Mem) ⊕ (Int32 × Mem)) :=
  if 30 ≤ x5 then (some (.inr (x3, M))) else (chk (inB x1 5) (nm (mset M 245 x1.toNatClampNeg x5) fun M4 => (m_X8_waysOf M4 x1).bind fun r5 => if r5 ≤ x4 then (j_X8_standOf_50 M4 x1 x2 x4 x5 r5 x3) else (j_X8_standOf_50 M4 x1 x2 x4 x5 r5 x5)))
def m_X8_standOf (M : Mem) (x1 : Int32) : Option (Int32 × Mem) :=
  chk (inB x1 5) (nm (M 245 x1.toNatClampNeg) fun y2 => (loopF (fun z => b_X8_standOf_15 z.2.2.2 x1 y2 z.1 z.2.1 z.2.2.1) FUEL (0, (-1), 0, M)).bind fun z6 => chk (inB x1 5) (nm (mset z6.2 245 x1.toNatClampNeg y2) fun M8 => some ((z6.1, M8))))
set_option maxHeartbeats 4000000 in
set_option maxRecDepth 100000 in
theorem c_X8_standOf (l : Launch) (D : va_G) (cA : cAt) (B : Nat) (aK aV : Nat → Nat) (M : Mem) (x1 : Int32) (R : Int32 × Mem) (h : m_X8_standOf M x1 = some R) : CI l D cA B aK aV yX8_standOf cX8_standOf 7 .int 4 [.ref (B + 234), .int x1] M R.1 R.2 := by
  refine CI_of (by decide +kernel) (Nat.le_of_ble_eq_true rfl) ?_
  intro p e s m args below meth c C hr hlk
  have C : Cx p (rmd 4) s m args c 0 0 D cA B aK aV cX8_standOf 7 RX8 := C
  generalize hQ : MQ below _ args s 0 0 _ = Q
  refine v_eq (M' := M) (pc' := 0) (L' := [(0, .ref (B + 234)), (1, .int x1)]) (st' := []) ?_
  unfold m_X8_standOf at h
  refine v_aload_nR (j := 0) C dX8_standOf_0 rfl rfl ?_
  refine gf_X8_41 C ks_234 dX8_standOf_1 ?_
  refine v_iload_n (j := 1) C dX8_standOf_4 rfl rfl ?_
  replace h := chk_some h; obtain ⟨g1, h⟩ := h
  refine v_iald C ks_245 (inB_vp g1) dX8_standOf_5 ?_
  replace h := nm_ex h; obtain ⟨y2, ey2, h⟩ := h
  refine v_topI ey2 ?_
  refine v_istore_n (L' := [(2, .int y2), (0, .ref (B + 234)), (1, .int x1)]) C dX8_standOf_6 rfl (by decide) rfl ?_
  refine v_iconst C dX8_standOf_7 ct_i_0 ?_
  refine v_pc (pc' := 8) rfl ?_
  refine v_istore_n (L' := [(3, .int 0), (2, .int y2), (0, .ref (B + 234)), (1, .int x1)]) C dX8_standOf_8 rfl (by decide) rfl ?_
  refine v_iconst C dX8_standOf_9 ct_i_m1 ?_
  refine v_istore (L' := [(4, .int (-1)), (3, .int 0), (2, .int y2), (0, .ref (B + 234)), (1, .int x1)]) C dX8_standOf_10 (by decide) rfl ?_
  refine v_iconst C dX8_standOf_12 ct_i_0 ?_
  refine v_istore (L' := [(5, .int 0), (4, .int (-1)), (3, .int 0), (2, .int y2), (0, .ref (B + 234)), (1, .int x1)]) C dX8_standOf_13 (by decide) rfl ?_
  have LB15 : ∀ (M : Mem) (x2 : Int32) (x3 : Int32) (x4 : Int32) (x5 : Int32) (o15 : (Int32 × Int32 × Int32 × Mem) ⊕ (Int32 × Mem)) (h : b_X8_standOf_15 M x1 x2 x3 x4 x5 = some o15) (hc15 : ∀ z : Int32 × Int32 × Int32 × Mem, o15 = .inl z → V p l e (rmd 4) s m args below meth c 0 0 D cA B 7 Q z.2.2.2 15 [(0, .ref (B + 234)), (1, .int x1), (2, .int x2), (3, .int z.1), (4, .int z.2.1), (5, .int z.2.2.1)] []) (he15 : ∀ z : Int32 × Mem, o15 = .inr z → V p l e (rmd 4) s m args below meth c 0 0 D cA B 7 Q z.2 73 [(0, .ref (B + 234)), (1, .int x1), (2, .int x2), (3, .int z.1)] []), V p l e (rmd 4) s m args below meth c 0 0 D cA B 7 Q M 15 [(0, .ref (B + 234)), (1, .int x1), (2, .int x2), (3, .int x3), (4, .int x4), (5, .int x5)] [] := by
    intro M x2 x3 x4 x5 o15 h hc15 he15
    unfold b_X8_standOf_15 at h
    have J50 : ∀ (M : Mem) (x4 : Int32) (x5 : Int32) (x6 : Int32) (s0 : Int32), j_X8_standOf_50 M x1 x2 x4 x5 x6 s0 = some o15 → V p l e (rmd 4) s m args below meth c 0 0 D cA B 7 Q M 50 [(0, .ref (B + 234)), (1, .int x1), (2, .int x2), (4, .int x4), (5, .int x5), (6, .int x6)] [.int s0] := by
      intro M x4 x5 x6 s0 h
      unfold j_X8_standOf_50 at h
      refine v_istore_n (L' := [(3, .int s0), (0, .ref (B + 234)), (1, .int x1), (2, .int x2), (4, .int x4), (5, .int x5), (6, .int x6)]) C dX8_standOf_50 rfl (by decide) rfl ?_
      refine v_iload (j := 6) C dX8_standOf_51 rfl ?_
      refine v_iload (j := 4) C dX8_standOf_53 rfl ?_
      refine v_icmp_le (tgt := 63) C dX8_standOf_55 (by decide) (fun g => ?_) (fun g => ?_)
      · replace h := ite_t g h
        refine v_iload (j := 4) C dX8_standOf_63 rfl ?_
        refine v_istore (L' := [(4, .int x4), (3, .int s0), (0, .ref (B + 234)), (1, .int x1), (2, .int x2), (5, .int x5), (6, .int x6)]) C dX8_standOf_65 (by decide) rfl ?_
        refine v_iinc (j := 5) (L' := [(5, .int (x5 + 1)), (4, .int x4), (3, .int s0), (0, .ref (B + 234)), (1, .int x1), (2, .int x2), (6, .int x6)]) C dX8_standOf_67 rfl (congrArg (fun z => _ + z) ct_i_1) (by decide) rfl ?_
        refine v_goto (tgt := 15) C dX8_standOf_70 (by decide) ?_
        replace h := Option.some.inj h; subst h
        refine v_sub [3, 4, 5, 2, 1, 0] rfl ?_
        exact hc15 (s0, x4, x5 + 1, M) rfl
      · replace h := ite_f g h
        refine v_iload (j := 6) C dX8_standOf_58 rfl ?_
        refine v_goto (tgt := 65) C dX8_standOf_60 (by decide) ?_
        refine v_istore (L' := [(4, .int x6), (3, .int s0), (0, .ref (B + 234)), (1, .int x1), (2, .int x2), (5, .int x5), (6, .int x6)]) C dX8_standOf_65 (by decide) rfl ?_
        refine v_iinc (j := 5) (L' := [(5, .int (x5 + 1)), (4, .int x6), (3, .int s0), (0, .ref (B + 234)), (1, .int x1), (2, .int x2), (6, .int x6)]) C dX8_standOf_67 rfl (congrArg (fun z => _ + z) ct_i_1) (by decide) rfl ?_
        refine v_goto (tgt := 15) C dX8_standOf_70 (by decide) ?_
        replace h := Option.some.inj h; subst h
        refine v_sub [3, 4, 5, 2, 1, 0] rfl ?_
        exact hc15 (s0, x6, x5 + 1, M) rfl
    refine v_iload (j := 5) C dX8_standOf_15 rfl ?_
    refine v_bipush C dX8_standOf_17 ct_b_30 ?_
    refine v_icmp_ge (tgt := 73) C dX8_standOf_19 (by decide) (fun g => ?_) (fun g => ?_)
    · replace h := ite_t g h
      replace h := Option.some.inj h; subst h
      refine v_sub [0, 1, 2, 3] rfl ?_
      exact he15 (x3, M) rfl
    · replace h := ite_f g h
      refine v_aload_nR (j := 0) C dX8_standOf_22 rfl rfl ?_
      refine gf_X8_41 C ks_234 dX8_standOf_23 ?_
      refine v_iload_n (j := 1) C dX8_standOf_26 rfl rfl ?_
      refine v_pc (pc' := 27) rfl ?_
      refine v_iload (j := 5) C dX8_standOf_27 rfl ?_
      replace h := chk_some h; obtain ⟨g3, h⟩ := h
      replace h := nm_ex h; obtain ⟨M4, eM4, h⟩ := h
      refine v_iast C ks_245 (inB_vp g3) dX8_standOf_29 ?_
      refine v_mem eM4 ?_
      refine v_aload_nR (j := 0) C dX8_standOf_30 rfl rfl ?_
      refine v_iload_n (j := 1) C dX8_standOf_31 rfl rfl ?_
      replace h := bind_ex h; obtain ⟨r5, hr5, h⟩ := h
      refine cv_I C tw_1160 tw_111 tw_1157 tw_1159 tw_93 pd_X8_waysOf (Nat.le_of_ble_eq_true rfl) (Nat.le_of_ble_eq_true rfl) (q := 234) (kd_lt ks_234 (by decide)) (sh8 ks_234) rfl (As := [.int x1]) (rest := []) rfl rfl (Nat.le_of_ble_eq_true rfl) (c_X8_waysOf l D cA B aK aV M4 x1 r5 hr5) dX8_standOf_32 ?_
      refine v_istore (L' := [(6, .int r5), (0, .ref (B + 234)), (1, .int x1), (2, .int x2), (3, .int x3), (4, .int x4), (5, .int x5)]) C dX8_standOf_35 (by decide) rfl ?_
      refine v_iload (j := 0) C dX8_standOf_37 rfl ?_
      refine v_pc (pc' := 39) rfl ?_
      refine v_iload (j := 5) C dX8_standOf_39 rfl ?_
      refine v_icmp_le (tgt := 49) C dX8_standOf_41 (by decide) (fun g => ?_) (fun g => ?_)
      · replace h := ite_t g h
        refine v_iload_n (j := 4) C dX8_standOf_49 rfl rfl ?_
        refine v_sub [1, 2, 3, 5, 6, 0] rfl ?_
        exact J50 M4 x4 x5 r5 x3 h
      · replace h := ite_f g h
        refine v_iload (j := 6) C dX8_standOf_44 rfl ?_
        refine v_goto (tgt := 50) C dX8_standOf_46 (by decide) ?_
        refine v_sub [1, 2, 3, 5, 6, 0] rfl ?_
        exact J50 M4 x4 x5 r5 x5 h
  replace h := bind_ex h; obtain ⟨z6, hz6, h⟩ := h
  refine v_sub [4, 5, 3, 2, 1, 0] rfl ?_
  refine loopF_walk (Pσ := fun z => V p l e (rmd 4) s m args below meth c 0 0 D cA B 7 Q z.2.2.2 15 [(0, .ref (B + 234)), (1, .int x1), (2, .int y2), (3, .int z.1), (4, .int z.2.1), (5, .int z.2.2.1)] []) (Pρ := fun y => V p l e (rmd 4) s m args below meth c 0 0 D cA B 7 Q y.2 73 [(0, .ref (B + 234)), (1, .int x1), (2, .int y2), (3, .int y.1)] []) ?_ FUEL (0, (-1), 0, M) z6 hz6 ?_
  · intro z o hb hc he
    exact LB15 z.2.2.2 y2 z.1 z.2.1 z.2.2.1 o hb hc he
  · refine v_aload_nR (j := 0) C dX8_standOf_73 rfl rfl ?_
    refine gf_X8_41 C ks_234 dX8_standOf_74 ?_
    refine v_iload_n (j := 1) C dX8_standOf_77 rfl rfl ?_
    refine v_iload_n (j := 2) C dX8_standOf_78 rfl rfl ?_
    replace h := chk_some h; obtain ⟨g7, h⟩ := h
    replace h := nm_ex h; obtain ⟨M8, eM8, h⟩ := h
    refine v_iast C ks_245 (inB_vp g7) dX8_standOf_79 ?_
    refine v_mem eM8 ?_
    refine v_iload_n (j := 3) C dX8_standOf_80 rfl rfl ?_
    refine v_pc (pc' := 81) rfl ?_
    replace h := Option.some.inj h; subst h
    subst hQ
    exact v_iret C hr hlk dX8_standOf_81
def m_X8_stand (M : Mem) (x1 : Int32) (x2 : Int32) (x3 : Int32) : Option (Int32 × Mem) :=
  (m_X8_isChild M x1).bind fun r1 => if r1 = 0 then (some (((-1000001), M))) else ((m_X8_isThrow M x2 x3).bind fun r2 => if r2 = 0 then (some (((-1000001), M))) else ((m_X8_lays M).bind fun r3 => (m_X8_laysWays r3 x2 x3).bind fun r4 => (m_X8_standOf r4 x1).bind fun r5 => some ((r5.1, r5.2))))
set_option maxHeartbeats 4000000 in
set_option maxRecDepth 100000 in
theorem c_X8_stand (l : Launch) (D : va_G) (cA : cAt) (B : Nat) (aK aV : Nat → Nat) (M : Mem) (x1 : Int32) (x2 : Int32) (x3 : Int32) (R : Int32 × Mem) (h : m_X8_stand M x1 x2 x3 = some R) : CI l D cA B aK aV yX8_stand cX8_stand 4 .int 5 [.ref (B + 234), .int x1, .int x2, .int x3] M R.1 R.2 := by
  refine CI_of (by decide +kernel) (Nat.le_of_ble_eq_true rfl) ?_
  intro p e s m args below meth c C hr hlk
  have C : Cx p (rmd 5) s m args c 0 0 D cA B aK aV cX8_stand 4 RX8 := C
  generalize hQ : MQ below _ args s 0 0 _ = Q
  refine v_eq (M' := M) (pc' := 0) (L' := [(0, .ref (B + 234)), (1, .int x1), (2, .int x2), (3, .int x3)]) (st' := []) ?_
  unfold m_X8_stand at h
  refine v_aload_nR (j := 0) C dX8_stand_0 rfl rfl ?_
  refine v_iload_n (j := 1) C dX8_stand_1 rfl rfl ?_
  replace h := bind_ex h; obtain ⟨r1, hr1, h⟩ := h
  refine cv_I C tw_1128 tw_111 tw_1125 tw_1127 tw_91 pd_X8_isChild (Nat.le_of_ble_eq_true rfl) (Nat.le_of_ble_eq_true rfl) (q := 234) (kd_lt ks_234 (by decide)) (sh8 ks_234) rfl (As := [.int x1]) (rest := []) rfl rfl (Nat.le_of_ble_eq_true rfl) (c_X8_isChild l D cA B aK aV M x1 r1 hr1) dX8_stand_2 ?_
  refine v_if_eq (tgt := 16) C dX8_stand_5 (by decide) (fun g => ?_) (fun g => ?_)
  · replace h := ite_t g h
    refine v_ldc C tw_981 dX8_stand_16 ?_
    replace h := Option.some.inj h; subst h
    subst hQ
    exact v_iret C hr hlk dX8_stand_18
  · replace h := ite_f g h
    refine v_iload_n (j := 2) C dX8_stand_8 rfl rfl ?_
    refine v_iload_n (j := 3) C dX8_stand_9 rfl rfl ?_
    refine v_pc (pc' := 10) rfl ?_
    replace h := bind_ex h; obtain ⟨r2, hr2, h⟩ := h
    refine cs_I C tw_1082 tw_111 tw_1080 tw_1081 pd_X8_isThrow (Nat.le_of_ble_eq_true rfl) (Nat.le_of_ble_eq_true rfl) (As := [.int x2, .int x3]) (rest := []) rfl rfl (Nat.le_of_ble_eq_true rfl) (c_X8_isThrow l D cA B aK aV M x2 x3 r2 hr2) dX8_stand_10 ?_
    refine v_if_ne (tgt := 19) C dX8_stand_13 (by decide) (fun g => ?_) (fun g => ?_)
    · replace h := ite_t g h
      refine v_ldc C tw_981 dX8_stand_16 ?_
      replace h := Option.some.inj h; subst h
      subst hQ
      exact v_iret C hr hlk dX8_stand_18
    · replace h := ite_f g h
      refine v_aload_nR (j := 0) C dX8_stand_19 rfl rfl ?_
      replace h := bind_ex h; obtain ⟨r3, hr3, h⟩ := h
      refine cv_V C tw_1096 tw_111 tw_1093 tw_1095 tw_86 pd_X8_lays (Nat.le_of_ble_eq_true rfl) (Nat.le_of_ble_eq_true rfl) (q := 234) (kd_lt ks_234 (by decide)) (sh8 ks_234) rfl (As := []) (rest := []) rfl rfl (Nat.le_of_ble_eq_true rfl) (c_X8_lays l D cA B aK aV M r3 hr3) dX8_stand_20 ?_
      refine v_aload_nR (j := 0) C dX8_stand_23 rfl rfl ?_
      refine v_iload_n (j := 2) C dX8_stand_24 rfl rfl ?_
      refine v_iload_n (j := 3) C dX8_stand_25 rfl rfl ?_
      replace h := bind_ex h; obtain ⟨r4, hr4, h⟩ := h
      refine cv_V C tw_1116 tw_111 tw_1113 tw_1115 tw_90 pd_X8_laysWays (Nat.le_of_ble_eq_true rfl) (Nat.le_of_ble_eq_true rfl) (q := 234) (kd_lt ks_234 (by decide)) (sh8 ks_234) rfl (As := [.int x2, .int x3]) (rest := []) rfl rfl (Nat.le_of_ble_eq_true rfl) (c_X8_laysWays l D cA B aK aV r3 x2 x3 r4 hr4) dX8_stand_26 ?_
      refine v_pc (pc' := 29) rfl ?_
      refine v_aload_nR (j := 0) C dX8_stand_29 rfl rfl ?_
      refine v_iload_n (j := 1) C dX8_stand_30 rfl rfl ?_
      replace h := bind_ex h; obtain ⟨r5, hr5, h⟩ := h
      refine cv_I C tw_1176 tw_111 tw_1173 tw_1175 tw_94 pd_X8_standOf (Nat.le_of_ble_eq_true rfl) (Nat.le_of_ble_eq_true rfl) (q := 234) (kd_lt ks_234 (by decide)) (sh8 ks_234) rfl (As := [.int x1]) (rest := []) rfl rfl (Nat.le_of_ble_eq_true rfl) (c_X8_standOf l D cA B aK aV r4 x1 r5 hr5) dX8_stand_31 ?_
      replace h := Option.some.inj h; subst h
      subst hQ
      exact v_iret C hr hlk dX8_stand_34
def j_X8_brothers_121 (M : Mem) (x1 : Int32) (x2 : Int32) (x5 : Int32) (x7 : Int32) (x8 : Int32) (x9 : Int32) (s0 : Int32) : Option ((Int32 × Int32 × Int32 × Mem) ⊕ (Int32 × Mem)) :=
  if x9 ≤ x7 then (some (.inl (s0, x7, x8 + 1, M))) else (some (.inl (s0, x9, x8 + 1, M)))
def b_X8_brothers_64 (M : Mem) (x1 : Int32) (x2 : Int32) (x5 : Int32) (x6 : Int32) (x7 : Int32) (x8 : Int32) : Option ((Int32 × Int32 × Int32 × Mem) ⊕ (Int32 × Mem)) :=
  if 900 ≤ x8 then (some (.inr (x6, M))) else (chk (inB x1 5) (nm (mset M 245 x1.toNatClampNeg (x8 / 30)) fun M8 => chk (inB x2 5) (nm (mset M8 245 x2.toNatClampNeg (x8 % 30)) fun M10 => (m_X8_waysOf M10 x1).bind fun r11 => (m_X8_waysOf M10 x2).bind fun r12 => nm (r11 + r12) fun y13 => if y13 ≤ x7 then (j_X8_brothers_121 M10 x1 x2 x5 x7 x8 y13 x6) else (j_X8_brothers_121 M10 x1 x2 x5 x7 x8 y13 x8))))
def m_X8_brothers (M : Mem) (x1 : Int32) (x2 : Int32) (x3 : Int32) (x4 : Int32) (x5 : Int32) : Option (Int32 × Mem) :=
  (m_X8_isChild M x1).bind fun r1 => if r1 = 0 then (some (((-1000001), M))) else ((m_X8_isChild M x2).bind fun r2 => if r2 = 0 then (some (((-1000001), M))) else (if x1 = x2 then (some (((-1000001), M))) else ((m_X8_isThrow M x3 x4).bind fun r3 => if r3 = 0 then (some (((-1000001), M))) else ((m_X8_in M x5.toInt64 0 1).bind fun r4 => if r4 = 0 then (some (((-1000001), M))) else ((m_X8_lays M).bind fun r5 => (m_X8_laysWays r5 x3 x4).bind fun r6 => (loopF (fun z => b_X8_brothers_64 z.2.2.2 x1 x2 x5 z.1 z.2.1 z.2.2.1) FUEL (0, (-1), 0, r6)).bind fun z14 => if x5 = 0 then (some ((z14.1 / 30, z14.2))) else (some ((z14.1 % 30, z14.2))))))))
set_option maxHeartbeats 4000000 in
set_option maxRecDepth 100000 in
theorem c_X8_brothers (l : Launch) (D : va_G) (cA : cAt) (B : Nat) (aK aV : Nat → Nat) (M : Mem) (x1 : Int32) (x2 : Int32) (x3 : Int32) (x4 : Int32) (x5 : Int32) (R : Int32 × Mem) (h : m_X8_brothers M x1 x2 x3 x4 x5 = some R) : CI l D cA B aK aV yX8_brothers cX8_brothers 10 .int 4 [.ref (B + 234), .int x1, .int x2, .int x3, .int x4, .int x5] M R.1 R.2 := by
  refine CI_of (by decide +kernel) (Nat.le_of_ble_eq_true rfl) ?_
  intro p e s m args below meth c C hr hlk
  have C : Cx p (rmd 4) s m args c 0 0 D cA B aK aV cX8_brothers 10 RX8 := C
  generalize hQ : MQ below _ args s 0 0 _ = Q
  refine v_eq (M' := M) (pc' := 0) (L' := [(0, .ref (B + 234)), (1, .int x1), (2, .int x2), (3, .int x3), (4, .int x4), (5, .int x5)]) (st' := []) ?_
  unfold m_X8_brothers at h
  refine v_aload_nR (j := 0) C dX8_brothers_0 rfl rfl ?_
  refine v_iload_n (j := 1) C dX8_brothers_1 rfl rfl ?_
  replace h := bind_ex h; obtain ⟨r1, hr1, h⟩ := h
  refine cv_I C tw_1128 tw_111 tw_1125 tw_1127 tw_91 pd_X8_isChild (Nat.le_of_ble_eq_true rfl) (Nat.le_of_ble_eq_true rfl) (q := 234) (kd_lt ks_234 (by decide)) (sh8 ks_234) rfl (As := [.int x1]) (rest := []) rfl rfl (Nat.le_of_ble_eq_true rfl) (c_X8_isChild l D cA B aK aV M x1 r1 hr1) dX8_brothers_2 ?_
  refine v_if_eq (tgt := 41) C dX8_brothers_5 (by decide) (fun g => ?_) (fun g => ?_)
  · replace h := ite_t g h
    refine v_ldc C tw_981 dX8_brothers_41 ?_
    replace h := Option.some.inj h; subst h
    subst hQ
    exact v_iret C hr hlk dX8_brothers_43
  · replace h := ite_f g h
    refine v_aload_nR (j := 0) C dX8_brothers_8 rfl rfl ?_
    refine v_iload_n (j := 2) C dX8_brothers_9 rfl rfl ?_
    refine v_pc (pc' := 10) rfl ?_
    replace h := bind_ex h; obtain ⟨r2, hr2, h⟩ := h
    refine cv_I C tw_1128 tw_111 tw_1125 tw_1127 tw_91 pd_X8_isChild (Nat.le_of_ble_eq_true rfl) (Nat.le_of_ble_eq_true rfl) (q := 234) (kd_lt ks_234 (by decide)) (sh8 ks_234) rfl (As := [.int x2]) (rest := []) rfl rfl (Nat.le_of_ble_eq_true rfl) (c_X8_isChild l D cA B aK aV M x2 r2 hr2) dX8_brothers_10 ?_
    refine v_if_eq (tgt := 41) C dX8_brothers_13 (by decide) (fun g => ?_) (fun g => ?_)
    · replace h := ite_t g h
      refine v_ldc C tw_981 dX8_brothers_41 ?_
      replace h := Option.some.inj h; subst h
      subst hQ
      exact v_iret C hr hlk dX8_brothers_43
    · replace h := ite_f g h
      refine v_iload_n (j := 1) C dX8_brothers_16 rfl rfl ?_
      refine v_iload_n (j := 2) C dX8_brothers_17 rfl rfl ?_
      refine v_icmp_eq (tgt := 41) C dX8_brothers_18 (by decide) (fun g => ?_) (fun g => ?_)
      · replace h := ite_t g h
        refine v_ldc C tw_981 dX8_brothers_41 ?_
        replace h := Option.some.inj h; subst h
        subst hQ
        exact v_iret C hr hlk dX8_brothers_43
      · replace h := ite_f g h
        refine v_iload_n (j := 3) C dX8_brothers_21 rfl rfl ?_
        refine v_iload (j := 4) C dX8_brothers_22 rfl ?_
        refine v_pc (pc' := 24) rfl ?_
        replace h := bind_ex h; obtain ⟨r3, hr3, h⟩ := h
        refine cs_I C tw_1082 tw_111 tw_1080 tw_1081 pd_X8_isThrow (Nat.le_of_ble_eq_true rfl) (Nat.le_of_ble_eq_true rfl) (As := [.int x3, .int x4]) (rest := []) rfl rfl (Nat.le_of_ble_eq_true rfl) (c_X8_isThrow l D cA B aK aV M x3 x4 r3 hr3) dX8_brothers_24 ?_
        refine v_if_eq (tgt := 41) C dX8_brothers_27 (by decide) (fun g => ?_) (fun g => ?_)
        · replace h := ite_t g h
          refine v_ldc C tw_981 dX8_brothers_41 ?_
          replace h := Option.some.inj h; subst h
          subst hQ
          exact v_iret C hr hlk dX8_brothers_43
        · replace h := ite_f g h
          refine v_iload (j := 5) C dX8_brothers_30 rfl ?_
          refine v_i2l C dX8_brothers_32 ?_
          refine v_lconst (v := 0) C dX8_brothers_33 rfl ?_
          refine v_lconst (v := 1) C dX8_brothers_34 rfl ?_
          replace h := bind_ex h; obtain ⟨r4, hr4, h⟩ := h
          refine cs_I C tw_979 tw_111 tw_977 tw_978 pd_X8_in (Nat.le_of_ble_eq_true rfl) (Nat.le_of_ble_eq_true rfl) (As := [.long x5.toInt64, .long 0, .long 1]) (rest := []) rfl rfl (Nat.le_of_ble_eq_true rfl) (c_X8_in l D cA B aK aV M x5.toInt64 0 1 r4 hr4) dX8_brothers_35 ?_
          refine v_pc (pc' := 38) rfl ?_
          refine v_if_ne (tgt := 44) C dX8_brothers_38 (by decide) (fun g => ?_) (fun g => ?_)
          · replace h := ite_t g h
            refine v_ldc C tw_981 dX8_brothers_41 ?_
            replace h := Option.some.inj h; subst h
            subst hQ
            exact v_iret C hr hlk dX8_brothers_43
          · replace h := ite_f g h
            refine v_aload_nR (j := 0) C dX8_brothers_44 rfl rfl ?_
            replace h := bind_ex h; obtain ⟨r5, hr5, h⟩ := h
            refine cv_V C tw_1096 tw_111 tw_1093 tw_1095 tw_86 pd_X8_lays (Nat.le_of_ble_eq_true rfl) (Nat.le_of_ble_eq_true rfl) (q := 234) (kd_lt ks_234 (by decide)) (sh8 ks_234) rfl (As := []) (rest := []) rfl rfl (Nat.le_of_ble_eq_true rfl) (c_X8_lays l D cA B aK aV M r5 hr5) dX8_brothers_45 ?_
            refine v_aload_nR (j := 0) C dX8_brothers_48 rfl rfl ?_
            refine v_iload_n (j := 3) C dX8_brothers_49 rfl rfl ?_
            refine v_iload (j := 4) C dX8_brothers_50 rfl ?_
            replace h := bind_ex h; obtain ⟨r6, hr6, h⟩ := h
            refine cv_V C tw_1116 tw_111 tw_1113 tw_1115 tw_90 pd_X8_laysWays (Nat.le_of_ble_eq_true rfl) (Nat.le_of_ble_eq_true rfl) (q := 234) (kd_lt ks_234 (by decide)) (sh8 ks_234) rfl (As := [.int x3, .int x4]) (rest := []) rfl rfl (Nat.le_of_ble_eq_true rfl) (c_X8_laysWays l D cA B aK aV r5 x3 x4 r6 hr6) dX8_brothers_52 ?_
            refine v_pc (pc' := 55) rfl ?_
            refine v_iconst C dX8_brothers_55 ct_i_0 ?_
            refine v_istore (L' := [(6, .int 0), (0, .ref (B + 234)), (1, .int x1), (2, .int x2), (3, .int x3), (4, .int x4), (5, .int x5)]) C dX8_brothers_56 (by decide) rfl ?_
            refine v_iconst C dX8_brothers_58 ct_i_m1 ?_
            refine v_istore (L' := [(7, .int (-1)), (6, .int 0), (0, .ref (B + 234)), (1, .int x1), (2, .int x2), (3, .int x3), (4, .int x4), (5, .int x5)]) C dX8_brothers_59 (by decide) rfl ?_
            refine v_iconst C dX8_brothers_61 ct_i_0 ?_
            refine v_istore (L' := [(8, .int 0), (7, .int (-1)), (6, .int 0), (0, .ref (B + 234)), (1, .int x1), (2, .int x2), (3, .int x3), (4, .int x4), (5, .int x5)]) C dX8_brothers_62 (by decide) rfl ?_
            have LB64 : ∀ (M : Mem) (x6 : Int32) (x7 : Int32) (x8 : Int32) (o64 : (Int32 × Int32 × Int32 × Mem) ⊕ (Int32 × Mem)) (h : b_X8_brothers_64 M x1 x2 x5 x6 x7 x8 = some o64) (hc64 : ∀ z : Int32 × Int32 × Int32 × Mem, o64 = .inl z → V p l e (rmd 4) s m args below meth c 0 0 D cA B 10 Q z.2.2.2 64 [(0, .ref (B + 234)), (1, .int x1), (2, .int x2), (5, .int x5), (6, .int z.1), (7, .int z.2.1), (8, .int z.2.2.1)] []) (he64 : ∀ z : Int32 × Mem, o64 = .inr z → V p l e (rmd 4) s m args below meth c 0 0 D cA B 10 Q z.2 145 [(5, .int x5), (6, .int z.1)] []), V p l e (rmd 4) s m args below meth c 0 0 D cA B 10 Q M 64 [(0, .ref (B + 234)), (1, .int x1), (2, .int x2), (5, .int x5), (6, .int x6), (7, .int x7), (8, .int x8)] [] := by
              intro M x6 x7 x8 o64 h hc64 he64
              unfold b_X8_brothers_64 at h
              have J121 : ∀ (M : Mem) (x7 : Int32) (x8 : Int32) (x9 : Int32) (s0 : Int32), j_X8_brothers_121 M x1 x2 x5 x7 x8 x9 s0 = some o64 → V p l e (rmd 4) s m args below meth c 0 0 D cA B 10 Q M 121 [(0, .ref (B + 234)), (1, .int x1), (2, .int x2), (5, .int x5), (7, .int x7), (8, .int x8), (9, .int x9)] [.int s0] := by
                intro M x7 x8 x9 s0 h
                unfold j_X8_brothers_121 at h
                refine v_istore (L' := [(6, .int s0), (0, .ref (B + 234)), (1, .int x1), (2, .int x2), (5, .int x5), (7, .int x7), (8, .int x8), (9, .int x9)]) C dX8_brothers_121 (by decide) rfl ?_
                refine v_iload (j := 7) C dX8_brothers_123 rfl ?_
                refine v_iload (j := 5) C dX8_brothers_125 rfl ?_
                refine v_icmp_le (tgt := 135) C dX8_brothers_127 (by decide) (fun g => ?_) (fun g => ?_)
                · replace h := ite_t g h
                  refine v_iload (j := 5) C dX8_brothers_135 rfl ?_
                  refine v_istore (L' := [(7, .int x7), (6, .int s0), (0, .ref (B + 234)), (1, .int x1), (2, .int x2), (5, .int x5), (8, .int x8), (9, .int x9)]) C dX8_brothers_137 (by decide) rfl ?_
                  refine v_iinc (j := 6) (L' := [(8, .int (x8 + 1)), (7, .int x7), (6, .int s0), (0, .ref (B + 234)), (1, .int x1), (2, .int x2), (5, .int x5), (9, .int x9)]) C dX8_brothers_139 rfl (congrArg (fun z => _ + z) ct_i_1) (by decide) rfl ?_
                  refine v_goto (tgt := 64) C dX8_brothers_142 (by decide) ?_
                  replace h := Option.some.inj h; subst h
                  refine v_sub [3, 4, 5, 6, 2, 1, 0] rfl ?_
                  exact hc64 (s0, x7, x8 + 1, M) rfl
                · replace h := ite_f g h
                  refine v_iload (j := 7) C dX8_brothers_130 rfl ?_
                  refine v_goto (tgt := 137) C dX8_brothers_132 (by decide) ?_
                  refine v_istore (L' := [(7, .int x9), (6, .int s0), (0, .ref (B + 234)), (1, .int x1), (2, .int x2), (5, .int x5), (8, .int x8), (9, .int x9)]) C dX8_brothers_137 (by decide) rfl ?_
                  refine v_iinc (j := 6) (L' := [(8, .int (x8 + 1)), (7, .int x9), (6, .int s0), (0, .ref (B + 234)), (1, .int x1), (2, .int x2), (5, .int x5), (9, .int x9)]) C dX8_brothers_139 rfl (congrArg (fun z => _ + z) ct_i_1) (by decide) rfl ?_
                  refine v_goto (tgt := 64) C dX8_brothers_142 (by decide) ?_
                  replace h := Option.some.inj h; subst h
                  refine v_sub [3, 4, 5, 6, 2, 1, 0] rfl ?_
                  exact hc64 (s0, x9, x8 + 1, M) rfl
              refine v_iload (j := 6) C dX8_brothers_64 rfl ?_
              refine v_sipush C dX8_brothers_66 ct_s_900 ?_
              refine v_icmp_ge (tgt := 145) C dX8_brothers_69 (by decide) (fun g => ?_) (fun g => ?_)
              · replace h := ite_t g h
                replace h := Option.some.inj h; subst h
                refine v_sub [3, 4] rfl ?_
                exact he64 (x6, M) rfl
              · replace h := ite_f g h
                refine v_aload_nR (j := 0) C dX8_brothers_72 rfl rfl ?_
                refine gf_X8_41 C ks_234 dX8_brothers_73 ?_
                refine v_iload_n (j := 1) C dX8_brothers_76 rfl rfl ?_
                refine v_pc (pc' := 77) rfl ?_
                refine v_iload (j := 6) C dX8_brothers_77 rfl ?_
                refine v_bipush C dX8_brothers_79 ct_b_30 ?_
                refine v_idiv C dX8_brothers_81 (by decide) ?_
                replace h := chk_some h; obtain ⟨g7, h⟩ := h
                replace h := nm_ex h; obtain ⟨M8, eM8, h⟩ := h
                refine v_iast C ks_245 (inB_vp g7) dX8_brothers_82 ?_
                refine v_mem eM8 ?_
                refine v_aload_nR (j := 0) C dX8_brothers_83 rfl rfl ?_
                refine gf_X8_41 C ks_234 dX8_brothers_84 ?_
                refine v_iload_n (j := 2) C dX8_brothers_87 rfl rfl ?_
                refine v_pc (pc' := 88) rfl ?_
                refine v_iload (j := 6) C dX8_brothers_88 rfl ?_
                refine v_bipush C dX8_brothers_90 ct_b_30 ?_
                refine v_irem C dX8_brothers_92 (by decide) ?_
                replace h := chk_some h; obtain ⟨g9, h⟩ := h
                replace h := nm_ex h; obtain ⟨M10, eM10, h⟩ := h
                refine v_iast C ks_245 (inB_vp g9) dX8_brothers_93 ?_
                refine v_mem eM10 ?_
                refine v_aload_nR (j := 0) C dX8_brothers_94 rfl rfl ?_
                refine v_iload_n (j := 1) C dX8_brothers_95 rfl rfl ?_
                replace h := bind_ex h; obtain ⟨r11, hr11, h⟩ := h
                refine cv_I C tw_1160 tw_111 tw_1157 tw_1159 tw_93 pd_X8_waysOf (Nat.le_of_ble_eq_true rfl) (Nat.le_of_ble_eq_true rfl) (q := 234) (kd_lt ks_234 (by decide)) (sh8 ks_234) rfl (As := [.int x1]) (rest := []) rfl rfl (Nat.le_of_ble_eq_true rfl) (c_X8_waysOf l D cA B aK aV M10 x1 r11 hr11) dX8_brothers_96 ?_
                refine v_pc (pc' := 99) rfl ?_
                refine v_aload_nR (j := 0) C dX8_brothers_99 rfl rfl ?_
                refine v_iload_n (j := 2) C dX8_brothers_100 rfl rfl ?_
                replace h := bind_ex h; obtain ⟨r12, hr12, h⟩ := h
                refine cv_I C tw_1160 tw_111 tw_1157 tw_1159 tw_93 pd_X8_waysOf (Nat.le_of_ble_eq_true rfl) (Nat.le_of_ble_eq_true rfl) (q := 234) (kd_lt ks_234 (by decide)) (sh8 ks_234) rfl (As := [.int x2]) (rest := [.int r11]) rfl rfl (Nat.le_of_ble_eq_true rfl) (c_X8_waysOf l D cA B aK aV M10 x2 r12 hr12) dX8_brothers_101 ?_
                refine v_iadd C dX8_brothers_104 ?_
                replace h := nm_ex h; obtain ⟨y13, ey13, h⟩ := h
                refine v_topI ey13 ?_
                refine v_istore (L' := [(9, .int y13), (0, .ref (B + 234)), (1, .int x1), (2, .int x2), (5, .int x5), (6, .int x6), (7, .int x7), (8, .int x8)]) C dX8_brothers_105 (by decide) rfl ?_
                refine v_iload (j := 0) C dX8_brothers_107 rfl ?_
                refine v_iload (j := 6) C dX8_brothers_109 rfl ?_
                refine v_pc (pc' := 111) rfl ?_
                refine v_icmp_le (tgt := 119) C dX8_brothers_111 (by decide) (fun g => ?_) (fun g => ?_)
                · replace h := ite_t g h
                  refine v_iload (j := 5) C dX8_brothers_119 rfl ?_
                  refine v_sub [1, 2, 3, 4, 6, 7, 0] rfl ?_
                  exact J121 M10 x7 x8 y13 x6 h
                · replace h := ite_f g h
                  refine v_iload (j := 7) C dX8_brothers_114 rfl ?_
                  refine v_goto (tgt := 121) C dX8_brothers_116 (by decide) ?_
                  refine v_sub [1, 2, 3, 4, 6, 7, 0] rfl ?_
                  exact J121 M10 x7 x8 y13 x8 h
            replace h := bind_ex h; obtain ⟨z14, hz14, h⟩ := h
            refine v_sub [3, 4, 5, 8, 2, 1, 0] rfl ?_
            refine loopF_walk (Pσ := fun z => V p l e (rmd 4) s m args below meth c 0 0 D cA B 10 Q z.2.2.2 64 [(0, .ref (B + 234)), (1, .int x1), (2, .int x2), (5, .int x5), (6, .int z.1), (7, .int z.2.1), (8, .int z.2.2.1)] []) (Pρ := fun y => V p l e (rmd 4) s m args below meth c 0 0 D cA B 10 Q y.2 145 [(5, .int x5), (6, .int y.1)] []) ?_ FUEL (0, (-1), 0, r6) z14 hz14 ?_
            · intro z o hb hc he
              exact LB64 z.2.2.2 z.1 z.2.1 z.2.2.1 o hb hc he
            · refine v_iload (j := 0) C dX8_brothers_145 rfl ?_
              refine v_if_ne (tgt := 158) C dX8_brothers_147 (by decide) (fun g => ?_) (fun g => ?_)
              · replace h := ite_t g h
                refine v_iload (j := 1) C dX8_brothers_150 rfl ?_
                refine v_bipush C dX8_brothers_152 ct_b_30 ?_
                refine v_idiv C dX8_brothers_154 (by decide) ?_
                refine v_goto (tgt := 163) C dX8_brothers_155 (by decide) ?_
                replace h := Option.some.inj h; subst h
                subst hQ
                exact v_iret C hr hlk dX8_brothers_163
              · replace h := ite_f g h
                refine v_iload (j := 1) C dX8_brothers_158 rfl ?_
                refine v_bipush C dX8_brothers_160 ct_b_30 ?_
                refine v_irem C dX8_brothers_162 (by decide) ?_
                replace h := Option.some.inj h; subst h
                subst hQ
                exact v_iret C hr hlk dX8_brothers_163
def j_X8_settles_49 (M : Mem) (x1 : Int32) (x3 : Int32) (x4 : Int32) (s0 : Int32) : Option ((Int32 × Int32 × Mem) ⊕ (Int32 × Mem)) :=
  chk (inB x3 5) (nm (mset M 245 x3.toNatClampNeg x4) fun M2 => some (.inl (s0, x3 + 1, M2)))
def j_X8_settles_44 (M : Mem) (x1 : Int32) (x3 : Int32) (x4 : Int32) : Option ((Int32 × Int32 × Mem) ⊕ (Int32 × Mem)) :=
  j_X8_settles_49 M x1 x3 x4 1
def b_X8_settles_12 (M : Mem) (x1 : Int32) (x2 : Int32) (x3 : Int32) : Option ((Int32 × Int32 × Mem) ⊕ (Int32 × Mem)) :=
  chk (inB 3 39) (if (M 239 (3 : Int32).toNatClampNeg) ≤ x3 then (some (.inr (x2, M))) else ((m_X8_standOf M x3).bind fun r4 => nm r4.1 fun y5 => if x2 = 0 then (chk (inB x3 5) (if y5 = (r4.2 245 x3.toNatClampNeg) then (j_X8_settles_49 r4.2 x1 x3 y5 0) else (j_X8_settles_44 r4.2 x1 x3 y5))) else (j_X8_settles_44 r4.2 x1 x3 y5)))
def b_X8_settles_2 (M : Mem) (x1 : Int32) : Option ((Int32 × Mem) ⊕ (Mem ⊕ (Int32 × Mem))) :=
  if 20 < x1 then (some (.inr (.inl M))) else ((loopF (fun z => b_X8_settles_12 z.2.2 x1 z.1 z.2.1) FUEL (0, 0, M)).bind fun z7 => if z7.1 = 0 then (some (.inr (.inr ((x1, z7.2))))) else (some (.inl (x1 + 1, z7.2))))
def m_X8_settles (M : Mem) : Option (Int32 × Mem) :=
  (loopF (fun z => b_X8_settles_2 z.2 z.1) FUEL (1, M)).bind fun z8 => sumC z8 (fun z9 => some (((-1000000), z9))) (fun z => some z)
set_option maxHeartbeats 4000000 in
set_option maxRecDepth 100000 in
theorem c_X8_settles (l : Launch) (D : va_G) (cA : cAt) (B : Nat) (aK aV : Nat → Nat) (M : Mem) (R : Int32 × Mem) (h : m_X8_settles M = some R) : CI l D cA B aK aV yX8_settles cX8_settles 5 .int 5 [.ref (B + 234)] M R.1 R.2 := by
  refine CI_of (by decide +kernel) (Nat.le_of_ble_eq_true rfl) ?_
  intro p e s m args below meth c C hr hlk
  have C : Cx p (rmd 5) s m args c 0 0 D cA B aK aV cX8_settles 5 RX8 := C
  generalize hQ : MQ below _ args s 0 0 _ = Q
  refine v_eq (M' := M) (pc' := 0) (L' := [(0, .ref (B + 234))]) (st' := []) ?_
  unfold m_X8_settles at h
  refine v_iconst C dX8_settles_0 ct_i_1 ?_
  refine v_istore_n (L' := [(1, .int 1), (0, .ref (B + 234))]) C dX8_settles_1 rfl (by decide) rfl ?_
  have LB2 : ∀ (M : Mem) (x1 : Int32) (o2 : (Int32 × Mem) ⊕ (Mem ⊕ (Int32 × Mem))) (h : b_X8_settles_2 M x1 = some o2) (hc2 : ∀ z : Int32 × Mem, o2 = .inl z → V p l e (rmd 5) s m args below meth c 0 0 D cA B 5 Q z.2 2 [(0, .ref (B + 234)), (1, .int z.1)] []) (he2 : ∀ z : Mem, o2 = .inr (.inl z) → V p l e (rmd 5) s m args below meth c 0 0 D cA B 5 Q z 76 [] []) (hr2 : ∀ z : Int32 × Mem, o2 = .inr (.inr z) → z = R), V p l e (rmd 5) s m args below meth c 0 0 D cA B 5 Q M 2 [(0, .ref (B + 234)), (1, .int x1)] [] := by
    intro M x1 o2 h hc2 he2 hr2
    unfold b_X8_settles_2 at h
    refine v_iload_n (j := 1) C dX8_settles_2 rfl rfl ?_
    refine v_bipush C dX8_settles_3 ct_b_20 ?_
    refine v_icmp_gt (tgt := 76) C dX8_settles_5 (by decide) (fun g => ?_) (fun g => ?_)
    · replace h := ite_t g h
      replace h := Option.some.inj h; subst h
      refine v_sub [] rfl ?_
      exact he2 M rfl
    · replace h := ite_f g h
      refine v_iconst C dX8_settles_8 ct_i_0 ?_
      refine v_istore_n (L' := [(2, .int 0), (0, .ref (B + 234)), (1, .int x1)]) C dX8_settles_9 rfl (by decide) rfl ?_
      refine v_iconst C dX8_settles_10 ct_i_0 ?_
      refine v_pc (pc' := 11) rfl ?_
      refine v_istore_n (L' := [(3, .int 0), (2, .int 0), (0, .ref (B + 234)), (1, .int x1)]) C dX8_settles_11 rfl (by decide) rfl ?_
      have LB12 : ∀ (M : Mem) (x1 : Int32) (x2 : Int32) (x3 : Int32) (o12 : (Int32 × Int32 × Mem) ⊕ (Int32 × Mem)) (h : b_X8_settles_12 M x1 x2 x3 = some o12) (hc12 : ∀ z : Int32 × Int32 × Mem, o12 = .inl z → V p l e (rmd 5) s m args below meth c 0 0 D cA B 5 Q z.2.2 12 [(0, .ref (B + 234)), (1, .int x1), (2, .int z.1), (3, .int z.2.1)] []) (he12 : ∀ z : Int32 × Mem, o12 = .inr z → V p l e (rmd 5) s m args below meth c 0 0 D cA B 5 Q z.2 64 [(0, .ref (B + 234)), (1, .int x1), (2, .int z.1)] []), V p l e (rmd 5) s m args below meth c 0 0 D cA B 5 Q M 12 [(0, .ref (B + 234)), (1, .int x1), (2, .int x2), (3, .int x3)] [] := by
        intro M x1 x2 x3 o12 h hc12 he12
        unfold b_X8_settles_12 at h
        have J49 : ∀ (M : Mem) (x3 : Int32) (x4 : Int32) (s0 : Int32), j_X8_settles_49 M x1 x3 x4 s0 = some o12 → V p l e (rmd 5) s m args below meth c 0 0 D cA B 5 Q M 49 [(0, .ref (B + 234)), (1, .int x1), (3, .int x3), (4, .int x4)] [.int s0] := by
          intro M x3 x4 s0 h
          unfold j_X8_settles_49 at h
          refine v_istore_n (L' := [(2, .int s0), (0, .ref (B + 234)), (1, .int x1), (3, .int x3), (4, .int x4)]) C dX8_settles_49 rfl (by decide) rfl ?_
          refine v_aload_nR (j := 1) C dX8_settles_50 rfl rfl ?_
          refine gf_X8_41 C ks_234 dX8_settles_51 ?_
          refine v_iload_n (j := 3) C dX8_settles_54 rfl rfl ?_
          refine v_iload (j := 4) C dX8_settles_55 rfl ?_
          replace h := chk_some h; obtain ⟨g1, h⟩ := h
          replace h := nm_ex h; obtain ⟨M2, eM2, h⟩ := h
          refine v_iast C ks_245 (inB_vp g1) dX8_settles_57 ?_
          refine v_mem eM2 ?_
          refine v_pc (pc' := 58) rfl ?_
          refine v_iinc (j := 3) (L' := [(3, .int (x3 + 1)), (2, .int s0), (0, .ref (B + 234)), (1, .int x1), (4, .int x4)]) C dX8_settles_58 rfl (congrArg (fun z => _ + z) ct_i_1) (by decide) rfl ?_
          refine v_goto (tgt := 12) C dX8_settles_61 (by decide) ?_
          replace h := Option.some.inj h; subst h
          refine v_sub [2, 3, 1, 0] rfl ?_
          exact hc12 (s0, x3 + 1, M2) rfl
        have J44 : ∀ (M : Mem) (x3 : Int32) (x4 : Int32), j_X8_settles_44 M x1 x3 x4 = some o12 → V p l e (rmd 5) s m args below meth c 0 0 D cA B 5 Q M 44 [(0, .ref (B + 234)), (1, .int x1), (3, .int x3), (4, .int x4)] [] := by
          intro M x3 x4 h
          unfold j_X8_settles_44 at h
          refine v_iconst C dX8_settles_44 ct_i_1 ?_
          refine v_goto (tgt := 49) C dX8_settles_45 (by decide) ?_
          refine v_sub [0, 1, 2, 3] rfl ?_
          exact J49 M x3 x4 1 h
        refine v_iload_n (j := 3) C dX8_settles_12 rfl rfl ?_
        refine v_aload_nR (j := 0) C dX8_settles_13 rfl rfl ?_
        refine gf_X8_22 C ks_234 dX8_settles_14 ?_
        refine v_iconst C dX8_settles_17 ct_i_3 ?_
        replace h := chk_some h; obtain ⟨g3, h⟩ := h
        refine v_iald C ks_239 (inB_vp g3) dX8_settles_18 ?_
        refine v_icmp_ge (tgt := 64) C dX8_settles_19 (by decide) (fun g => ?_) (fun g => ?_)
        · replace h := ite_t g h
          replace h := Option.some.inj h; subst h
          refine v_sub [0, 1, 2] rfl ?_
          exact he12 (x2, M) rfl
        · replace h := ite_f g h
          refine v_pc (pc' := 22) rfl ?_
          refine v_aload_nR (j := 0) C dX8_settles_22 rfl rfl ?_
          refine v_iload_n (j := 3) C dX8_settles_23 rfl rfl ?_
          replace h := bind_ex h; obtain ⟨r4, hr4, h⟩ := h
          refine cv_I C tw_1176 tw_111 tw_1173 tw_1175 tw_94 pd_X8_standOf (Nat.le_of_ble_eq_true rfl) (Nat.le_of_ble_eq_true rfl) (q := 234) (kd_lt ks_234 (by decide)) (sh8 ks_234) rfl (As := [.int x3]) (rest := []) rfl rfl (Nat.le_of_ble_eq_true rfl) (c_X8_standOf l D cA B aK aV M x3 r4 hr4) dX8_settles_24 ?_
          replace h := nm_ex h; obtain ⟨y5, ey5, h⟩ := h
          refine v_topI ey5 ?_
          refine v_istore (L' := [(4, .int y5), (0, .ref (B + 234)), (1, .int x1), (2, .int x2), (3, .int x3)]) C dX8_settles_27 (by decide) rfl ?_
          refine v_iload_n (j := 3) C dX8_settles_29 rfl rfl ?_
          refine v_if_ne (tgt := 44) C dX8_settles_30 (by decide) (fun g => ?_) (fun g => ?_)
          · replace h := ite_t g h
            refine v_iload (j := 0) C dX8_settles_33 rfl ?_
            refine v_pc (pc' := 35) rfl ?_
            refine v_aload_nR (j := 1) C dX8_settles_35 rfl rfl ?_
            refine gf_X8_41 C ks_234 dX8_settles_36 ?_
            refine v_iload_n (j := 4) C dX8_settles_39 rfl rfl ?_
            replace h := chk_some h; obtain ⟨g6, h⟩ := h
            refine v_iald C ks_245 (inB_vp g6) dX8_settles_40 ?_
            refine v_icmp_eq (tgt := 48) C dX8_settles_41 (by decide) (fun g => ?_) (fun g => ?_)
            · replace h := ite_t g h
              refine v_iconst C dX8_settles_48 ct_i_0 ?_
              refine v_sub [1, 2, 4, 0] rfl ?_
              exact J49 r4.2 x3 y5 0 h
            · replace h := ite_f g h
              refine v_sub [1, 2, 4, 0] rfl ?_
              exact J44 r4.2 x3 y5 h
          · replace h := ite_f g h
            refine v_sub [1, 2, 4, 0] rfl ?_
            exact J44 r4.2 x3 y5 h
      replace h := bind_ex h; obtain ⟨z7, hz7, h⟩ := h
      refine v_sub [2, 3, 1, 0] rfl ?_
      refine loopF_walk (Pσ := fun z => V p l e (rmd 5) s m args below meth c 0 0 D cA B 5 Q z.2.2 12 [(0, .ref (B + 234)), (1, .int x1), (2, .int z.1), (3, .int z.2.1)] []) (Pρ := fun y => V p l e (rmd 5) s m args below meth c 0 0 D cA B 5 Q y.2 64 [(0, .ref (B + 234)), (1, .int x1), (2, .int y.1)] []) ?_ FUEL (0, 0, M) z7 hz7 ?_
      · intro z o hb hc he
        exact LB12 z.2.2 x1 z.1 z.2.1 o hb hc he
      · refine v_iload_n (j := 2) C dX8_settles_64 rfl rfl ?_
        refine v_if_ne (tgt := 70) C dX8_settles_65 (by decide) (fun g => ?_) (fun g => ?_)
        · replace h := ite_t g h
          refine v_iload_n (j := 1) C dX8_settles_68 rfl rfl ?_
          replace h := Option.some.inj h; subst h
          have hR := hr2 _ rfl
          subst hR
          subst hQ
          exact v_iret C hr hlk dX8_settles_69
        · replace h := ite_f g h
          refine v_iinc (j := 1) (L' := [(1, .int (x1 + 1)), (0, .ref (B + 234)), (2, .int z7.1)]) C dX8_settles_70 rfl (congrArg (fun z => _ + z) ct_i_1) (by decide) rfl ?_
          refine v_goto (tgt := 2) C dX8_settles_73 (by decide) ?_
          replace h := Option.some.inj h; subst h
          refine v_sub [1, 0] rfl ?_
          exact hc2 (x1 + 1, z7.2) rfl
  replace h := bind_ex h; obtain ⟨z8, hz8, h⟩ := h
  refine v_sub [1, 0] rfl ?_
  refine loopF_walk (Pσ := fun z => V p l e (rmd 5) s m args below meth c 0 0 D cA B 5 Q z.2 2 [(0, .ref (B + 234)), (1, .int z.1)] []) (Pρ := fun r => (∀ y : Mem, r = .inl y → V p l e (rmd 5) s m args below meth c 0 0 D cA B 5 Q y 76 [] []) ∧ (∀ y : Int32 × Mem, r = .inr y → y = R)) ?_ FUEL (1, M) z8 hz8 ?_
  · intro z o hb hc he
    exact LB2 z.2 z.1 o hb hc (fun y e => (he _ e).1 y rfl) (fun y e => (he _ e).2 y rfl)
  · refine ⟨fun z9 e => ?_, fun y e => ?_⟩
    · subst e
      replace h := sumC_l h
      refine v_ldc C tw_1105 dX8_settles_76 ?_
      replace h := Option.some.inj h; subst h
      subst hQ
      exact v_iret C hr hlk dX8_settles_78
    · subst e
      replace h := sumC_r h
      exact Option.some.inj h
def m_X8_rounds (M : Mem) (x1 : Int32) (x2 : Int32) (x3 : Int32) : Option (Int32 × Mem) :=
  chk (inB 0 39) (if (M 239 (0 : Int32).toNatClampNeg) = 0 then (some (((-1000002), M))) else ((m_X8_isThrow M x1 x2).bind fun r2 => if r2 = 0 then (some (((-1000001), M))) else (chk (inB 3 39) ((m_X8_in M x3.toInt64 (-1) (((M 239 (3 : Int32).toNatClampNeg) - 1).toInt64)).bind fun r4 => if r4 = 0 then (some (((-1000001), M))) else ((m_X8_lays M).bind fun r5 => (m_X8_laysWays r5 x1 x2).bind fun r6 => (m_X8_settles r6).bind fun r7 => nm r7.1 fun y8 => if x3 = (-1) then (some ((y8, r7.2))) else (if y8 = (-1000000) then (some ((y8, r7.2))) else (chk (inB x3 5) (some ((r7.2 245 x3.toNatClampNeg, r7.2))))))))))
set_option maxHeartbeats 4000000 in
set_option maxRecDepth 100000 in
theorem c_X8_rounds (l : Launch) (D : va_G) (cA : cAt) (B : Nat) (aK aV : Nat → Nat) (M : Mem) (x1 : Int32) (x2 : Int32) (x3 : Int32) (R : Int32 × Mem) (h : m_X8_rounds M x1 x2 x3 = some R) : CI l D cA B aK aV yX8_rounds cX8_rounds 5 .int 6 [.ref (B + 234), .int x1, .int x2, .int x3] M R.1 R.2 := by
  refine CI_of (by decide +kernel) (Nat.le_of_ble_eq_true rfl) ?_
  intro p e s m args below meth c C hr hlk
  have C : Cx p (rmd 6) s m args c 0 0 D cA B aK aV cX8_rounds 5 RX8 := C
  generalize hQ : MQ below _ args s 0 0 _ = Q
  refine v_eq (M' := M) (pc' := 0) (L' := [(0, .ref (B + 234)), (1, .int x1), (2, .int x2), (3, .int x3)]) (st' := []) ?_
  unfold m_X8_rounds at h
  refine v_aload_nR (j := 0) C dX8_rounds_0 rfl rfl ?_
  refine gf_X8_22 C ks_234 dX8_rounds_1 ?_
  refine v_iconst C dX8_rounds_4 ct_i_0 ?_
  replace h := chk_some h; obtain ⟨g1, h⟩ := h
  refine v_iald C ks_239 (inB_vp g1) dX8_rounds_5 ?_
  refine v_if_ne (tgt := 12) C dX8_rounds_6 (by decide) (fun g => ?_) (fun g => ?_)
  · replace h := ite_t g h
    refine v_ldc C tw_1079 dX8_rounds_9 ?_
    refine v_pc (pc' := 11) rfl ?_
    replace h := Option.some.inj h; subst h
    subst hQ
    exact v_iret C hr hlk dX8_rounds_11
  · replace h := ite_f g h
    refine v_iload_n (j := 1) C dX8_rounds_12 rfl rfl ?_
    refine v_iload_n (j := 2) C dX8_rounds_13 rfl rfl ?_
    replace h := bind_ex h; obtain ⟨r2, hr2, h⟩ := h
    refine cs_I C tw_1082 tw_111 tw_1080 tw_1081 pd_X8_isThrow (Nat.le_of_ble_eq_true rfl) (Nat.le_of_ble_eq_true rfl) (As := [.int x1, .int x2]) (rest := []) rfl rfl (Nat.le_of_ble_eq_true rfl) (c_X8_isThrow l D cA B aK aV M x1 x2 r2 hr2) dX8_rounds_14 ?_
    refine v_if_eq (tgt := 40) C dX8_rounds_17 (by decide) (fun g => ?_) (fun g => ?_)
    · replace h := ite_t g h
      refine v_ldc C tw_981 dX8_rounds_40 ?_
      replace h := Option.some.inj h; subst h
      subst hQ
      exact v_iret C hr hlk dX8_rounds_42
    · replace h := ite_f g h
      refine v_iload_n (j := 3) C dX8_rounds_20 rfl rfl ?_
      refine v_i2l C dX8_rounds_21 ?_
      refine v_pc (pc' := 22) rfl ?_
      refine v_ldc2 C tw_1185 dX8_rounds_22 ?_
      refine v_aload_nR (j := 0) C dX8_rounds_25 rfl rfl ?_
      refine gf_X8_22 C ks_234 dX8_rounds_26 ?_
      refine v_iconst C dX8_rounds_29 ct_i_3 ?_
      replace h := chk_some h; obtain ⟨g3, h⟩ := h
      refine v_iald C ks_239 (inB_vp g3) dX8_rounds_30 ?_
      refine v_iconst C dX8_rounds_31 ct_i_1 ?_
      refine v_isub C dX8_rounds_32 ?_
      refine v_pc (pc' := 33) rfl ?_
      refine v_i2l C dX8_rounds_33 ?_
      replace h := bind_ex h; obtain ⟨r4, hr4, h⟩ := h
      refine cs_I C tw_979 tw_111 tw_977 tw_978 pd_X8_in (Nat.le_of_ble_eq_true rfl) (Nat.le_of_ble_eq_true rfl) (As := [.long x3.toInt64, .long (-1), .long (((M 239 (3 : Int32).toNatClampNeg) - 1).toInt64)]) (rest := []) rfl rfl (Nat.le_of_ble_eq_true rfl) (c_X8_in l D cA B aK aV M x3.toInt64 (-1) (((M 239 (3 : Int32).toNatClampNeg) - 1).toInt64) r4 hr4) dX8_rounds_34 ?_
      refine v_if_ne (tgt := 43) C dX8_rounds_37 (by decide) (fun g => ?_) (fun g => ?_)
      · replace h := ite_t g h
        refine v_ldc C tw_981 dX8_rounds_40 ?_
        replace h := Option.some.inj h; subst h
        subst hQ
        exact v_iret C hr hlk dX8_rounds_42
      · replace h := ite_f g h
        refine v_aload_nR (j := 0) C dX8_rounds_43 rfl rfl ?_
        replace h := bind_ex h; obtain ⟨r5, hr5, h⟩ := h
        refine cv_V C tw_1096 tw_111 tw_1093 tw_1095 tw_86 pd_X8_lays (Nat.le_of_ble_eq_true rfl) (Nat.le_of_ble_eq_true rfl) (q := 234) (kd_lt ks_234 (by decide)) (sh8 ks_234) rfl (As := []) (rest := []) rfl rfl (Nat.le_of_ble_eq_true rfl) (c_X8_lays l D cA B aK aV M r5 hr5) dX8_rounds_44 ?_
        refine v_aload_nR (j := 0) C dX8_rounds_47 rfl rfl ?_
        refine v_iload_n (j := 1) C dX8_rounds_48 rfl rfl ?_
        refine v_iload_n (j := 2) C dX8_rounds_49 rfl rfl ?_
        replace h := bind_ex h; obtain ⟨r6, hr6, h⟩ := h
        refine cv_V C tw_1116 tw_111 tw_1113 tw_1115 tw_90 pd_X8_laysWays (Nat.le_of_ble_eq_true rfl) (Nat.le_of_ble_eq_true rfl) (q := 234) (kd_lt ks_234 (by decide)) (sh8 ks_234) rfl (As := [.int x1, .int x2]) (rest := []) rfl rfl (Nat.le_of_ble_eq_true rfl) (c_X8_laysWays l D cA B aK aV r5 x1 x2 r6 hr6) dX8_rounds_50 ?_
        refine v_pc (pc' := 53) rfl ?_
        refine v_aload_nR (j := 0) C dX8_rounds_53 rfl rfl ?_
        replace h := bind_ex h; obtain ⟨r7, hr7, h⟩ := h
        refine cv_I C tw_1189 tw_111 tw_1186 tw_1188 tw_95 pd_X8_settles (Nat.le_of_ble_eq_true rfl) (Nat.le_of_ble_eq_true rfl) (q := 234) (kd_lt ks_234 (by decide)) (sh8 ks_234) rfl (As := []) (rest := []) rfl rfl (Nat.le_of_ble_eq_true rfl) (c_X8_settles l D cA B aK aV r6 r7 hr7) dX8_rounds_54 ?_
        replace h := nm_ex h; obtain ⟨y8, ey8, h⟩ := h
        refine v_topI ey8 ?_
        refine v_istore (L' := [(4, .int y8), (0, .ref (B + 234)), (1, .int x1), (2, .int x2), (3, .int x3)]) C dX8_rounds_57 (by decide) rfl ?_
        refine v_iload_n (j := 4) C dX8_rounds_59 rfl rfl ?_
        refine v_iconst C dX8_rounds_60 ct_i_m1 ?_
        refine v_icmp_eq (tgt := 71) C dX8_rounds_61 (by decide) (fun g => ?_) (fun g => ?_)
        · replace h := ite_t g h
          refine v_iload (j := 0) C dX8_rounds_71 rfl ?_
          refine v_goto (tgt := 82) C dX8_rounds_73 (by decide) ?_
          replace h := Option.some.inj h; subst h
          subst hQ
          exact v_iret C hr hlk dX8_rounds_82
        · replace h := ite_f g h
          refine v_iload (j := 0) C dX8_rounds_64 rfl ?_
          refine v_pc (pc' := 66) rfl ?_
          refine v_ldc C tw_1105 dX8_rounds_66 ?_
          refine v_icmp_ne (tgt := 76) C dX8_rounds_68 (by decide) (fun g => ?_) (fun g => ?_)
          · replace h := ite_t g h
            refine v_iload (j := 0) C dX8_rounds_71 rfl ?_
            refine v_goto (tgt := 82) C dX8_rounds_73 (by decide) ?_
            replace h := Option.some.inj h; subst h
            subst hQ
            exact v_iret C hr hlk dX8_rounds_82
          · replace h := ite_f g h
            refine v_aload_nR (j := 1) C dX8_rounds_76 rfl rfl ?_
            refine gf_X8_41 C ks_234 dX8_rounds_77 ?_
            refine v_iload_n (j := 4) C dX8_rounds_80 rfl rfl ?_
            replace h := chk_some h; obtain ⟨g9, h⟩ := h
            refine v_iald C ks_245 (inB_vp g9) dX8_rounds_81 ?_
            replace h := Option.some.inj h; subst h
            subst hQ
            exact v_iret C hr hlk dX8_rounds_82
def j_X8_served_49 (M : Mem) (x3 : Int32) (x4 : Int32) (s0 : Int32) : Option ((Int32 × Int32) ⊕ Int32) :=
  if s0 = (-1000000) then (nm (x3 ||| 0) fun y3 => some (.inl (y3, x4 + 1))) else (nm (x3 ||| (1 <<< (s0 &&& 31))) fun y2 => some (.inl (y2, x4 + 1)))
def b_X8_served_11 (M : Mem) (x3 : Int32) (x4 : Int32) : Option ((Int32 × Int32) ⊕ Int32) :=
  if (M 234 24) ≤ x4 then (some (.inr x3)) else (chk (inB x4 19) (if (M 247 x4.toNatClampNeg) = (-1000000) then (j_X8_served_49 M x3 x4 (-1000000)) else (chk (inB x4 19) (chk (inB (M 247 x4.toNatClampNeg) 30) (j_X8_served_49 M x3 x4 (M 246 (M 247 x4.toNatClampNeg).toNatClampNeg))))))
def m_X8_served (M : Mem) (x1 : Int32) (x2 : Int32) : Option (Int32 × Mem) :=
  (m_X8_laysWays M x1 x2).bind fun r1 => (loopF (fun z => b_X8_served_11 r1 z.1 z.2) FUEL (0, 0)).bind fun z7 => some ((z7, r1))
set_option maxHeartbeats 4000000 in
set_option maxRecDepth 100000 in
theorem c_X8_served (l : Launch) (D : va_G) (cA : cAt) (B : Nat) (aK aV : Nat → Nat) (M : Mem) (x1 : Int32) (x2 : Int32) (R : Int32 × Mem) (h : m_X8_served M x1 x2 = some R) : CI l D cA B aK aV yX8_served cX8_served 6 .int 2 [.ref (B + 234), .int x1, .int x2] M R.1 R.2 := by
  refine CI_of (by decide +kernel) (Nat.le_of_ble_eq_true rfl) ?_
  intro p e s m args below meth c C hr hlk
  have C : Cx p (rmd 2) s m args c 0 0 D cA B aK aV cX8_served 6 RX8 := C
  generalize hQ : MQ below _ args s 0 0 _ = Q
  refine v_eq (M' := M) (pc' := 0) (L' := [(0, .ref (B + 234)), (1, .int x1), (2, .int x2)]) (st' := []) ?_
  unfold m_X8_served at h
  refine v_aload_nR (j := 0) C dX8_served_0 rfl rfl ?_
  refine v_iload_n (j := 1) C dX8_served_1 rfl rfl ?_
  refine v_iload_n (j := 2) C dX8_served_2 rfl rfl ?_
  replace h := bind_ex h; obtain ⟨r1, hr1, h⟩ := h
  refine cv_V C tw_1116 tw_111 tw_1113 tw_1115 tw_90 pd_X8_laysWays (Nat.le_of_ble_eq_true rfl) (Nat.le_of_ble_eq_true rfl) (q := 234) (kd_lt ks_234 (by decide)) (sh8 ks_234) rfl (As := [.int x1, .int x2]) (rest := []) rfl rfl (Nat.le_of_ble_eq_true rfl) (c_X8_laysWays l D cA B aK aV M x1 x2 r1 hr1) dX8_served_3 ?_
  refine v_iconst C dX8_served_6 ct_i_0 ?_
  refine v_istore_n (L' := [(3, .int 0), (0, .ref (B + 234)), (1, .int x1), (2, .int x2)]) C dX8_served_7 rfl (by decide) rfl ?_
  refine v_pc (pc' := 8) rfl ?_
  refine v_iconst C dX8_served_8 ct_i_0 ?_
  refine v_istore (L' := [(4, .int 0), (3, .int 0), (0, .ref (B + 234)), (1, .int x1), (2, .int x2)]) C dX8_served_9 (by decide) rfl ?_
  have LB11 : ∀ (M : Mem) (x3 : Int32) (x4 : Int32) (o11 : (Int32 × Int32) ⊕ Int32) (h : b_X8_served_11 M x3 x4 = some o11) (hc11 : ∀ z : Int32 × Int32, o11 = .inl z → V p l e (rmd 2) s m args below meth c 0 0 D cA B 6 Q M 11 [(0, .ref (B + 234)), (3, .int z.1), (4, .int z.2)] []) (he11 : ∀ z : Int32, o11 = .inr z → V p l e (rmd 2) s m args below meth c 0 0 D cA B 6 Q M 75 [(3, .int z)] []), V p l e (rmd 2) s m args below meth c 0 0 D cA B 6 Q M 11 [(0, .ref (B + 234)), (3, .int x3), (4, .int x4)] [] := by
    intro M x3 x4 o11 h hc11 he11
    unfold b_X8_served_11 at h
    have J49 : ∀ (x3 : Int32) (x4 : Int32) (s0 : Int32), j_X8_served_49 M x3 x4 s0 = some o11 → V p l e (rmd 2) s m args below meth c 0 0 D cA B 6 Q M 49 [(0, .ref (B + 234)), (3, .int x3), (4, .int x4)] [.int s0] := by
      intro x3 x4 s0 h
      unfold j_X8_served_49 at h
      refine v_istore (L' := [(5, .int s0), (0, .ref (B + 234)), (3, .int x3), (4, .int x4)]) C dX8_served_49 (by decide) rfl ?_
      refine v_iload_n (j := 2) C dX8_served_51 rfl rfl ?_
      refine v_iload (j := 0) C dX8_served_52 rfl ?_
      refine v_ldc C tw_1105 dX8_served_54 ?_
      refine v_icmp_ne (tgt := 63) C dX8_served_56 (by decide) (fun g => ?_) (fun g => ?_)
      · replace h := ite_t g h
        refine v_iconst C dX8_served_59 ct_i_0 ?_
        refine v_pc (pc' := 60) rfl ?_
        refine v_goto (tgt := 67) C dX8_served_60 (by decide) ?_
        refine v_ior C dX8_served_67 ?_
        replace h := nm_ex h; obtain ⟨y3, ey3, h⟩ := h
        refine v_topI ey3 ?_
        refine v_istore_n (L' := [(3, .int y3), (5, .int s0), (0, .ref (B + 234)), (4, .int x4)]) C dX8_served_68 rfl (by decide) rfl ?_
        refine v_iinc (j := 3) (L' := [(4, .int (x4 + 1)), (3, .int y3), (5, .int s0), (0, .ref (B + 234))]) C dX8_served_69 rfl (congrArg (fun z => _ + z) ct_i_1) (by decide) rfl ?_
        refine v_goto (tgt := 11) C dX8_served_72 (by decide) ?_
        replace h := Option.some.inj h; subst h
        refine v_sub [3, 1, 0] rfl ?_
        exact hc11 (y3, x4 + 1) rfl
      · replace h := ite_f g h
        refine v_iconst C dX8_served_63 ct_i_1 ?_
        refine v_iload (j := 0) C dX8_served_64 rfl ?_
        refine v_ishl C dX8_served_66 ?_
        refine v_ior C dX8_served_67 ?_
        replace h := nm_ex h; obtain ⟨y2, ey2, h⟩ := h
        refine v_topI ey2 ?_
        refine v_istore_n (L' := [(3, .int y2), (5, .int s0), (0, .ref (B + 234)), (4, .int x4)]) C dX8_served_68 rfl (by decide) rfl ?_
        refine v_iinc (j := 3) (L' := [(4, .int (x4 + 1)), (3, .int y2), (5, .int s0), (0, .ref (B + 234))]) C dX8_served_69 rfl (congrArg (fun z => _ + z) ct_i_1) (by decide) rfl ?_
        refine v_pc (pc' := 72) rfl ?_
        refine v_goto (tgt := 11) C dX8_served_72 (by decide) ?_
        replace h := Option.some.inj h; subst h
        refine v_sub [3, 1, 0] rfl ?_
        exact hc11 (y2, x4 + 1) rfl
    refine v_iload (j := 2) C dX8_served_11 rfl ?_
    refine v_aload_nR (j := 0) C dX8_served_13 rfl rfl ?_
    refine gf_X8_186 C ks_234 dX8_served_14 ?_
    refine v_icmp_ge (tgt := 75) C dX8_served_17 (by decide) (fun g => ?_) (fun g => ?_)
    · replace h := ite_t g h
      replace h := Option.some.inj h; subst h
      refine v_sub [1] rfl ?_
      exact he11 x3 rfl
    · replace h := ite_f g h
      refine v_aload_nR (j := 0) C dX8_served_20 rfl rfl ?_
      refine gf_X8_47 C ks_234 dX8_served_21 ?_
      refine v_pc (pc' := 24) rfl ?_
      refine v_iload (j := 2) C dX8_served_24 rfl ?_
      replace h := chk_some h; obtain ⟨g4, h⟩ := h
      refine v_iald C ks_247 (inB_vp g4) dX8_served_26 ?_
      refine v_ldc C tw_1105 dX8_served_27 ?_
      refine v_icmp_ne (tgt := 37) C dX8_served_29 (by decide) (fun g => ?_) (fun g => ?_)
      · replace h := ite_t g h
        refine v_ldc C tw_1105 dX8_served_32 ?_
        refine v_goto (tgt := 49) C dX8_served_34 (by decide) ?_
        refine v_sub [0, 1, 2] rfl ?_
        exact J49 x3 x4 (-1000000) h
      · replace h := ite_f g h
        refine v_aload_nR (j := 0) C dX8_served_37 rfl rfl ?_
        refine gf_X8_44 C ks_234 dX8_served_38 ?_
        refine v_aload_nR (j := 0) C dX8_served_41 rfl rfl ?_
        refine gf_X8_47 C ks_234 dX8_served_42 ?_
        refine v_iload (j := 2) C dX8_served_45 rfl ?_
        replace h := chk_some h; obtain ⟨g5, h⟩ := h
        refine v_iald C ks_247 (inB_vp g5) dX8_served_47 ?_
        refine v_pc (pc' := 48) rfl ?_
        replace h := chk_some h; obtain ⟨g6, h⟩ := h
        refine v_iald C ks_246 (inB_vp g6) dX8_served_48 ?_
        refine v_sub [0, 1, 2] rfl ?_
        exact J49 x3 x4 (M 246 (M 247 x4.toNatClampNeg).toNatClampNeg) h
  replace h := bind_ex h; obtain ⟨z7, hz7, h⟩ := h
  refine v_sub [2, 1, 0] rfl ?_
  refine loopF_walk (Pσ := fun z => V p l e (rmd 2) s m args below meth c 0 0 D cA B 6 Q r1 11 [(0, .ref (B + 234)), (3, .int z.1), (4, .int z.2)] []) (Pρ := fun y => V p l e (rmd 2) s m args below meth c 0 0 D cA B 6 Q r1 75 [(3, .int y)] []) ?_ FUEL (0, 0) z7 hz7 ?_
  · intro z o hb hc he
    exact LB11 r1 z.1 z.2 o hb hc he
  · refine v_iload_n (j := 0) C dX8_served_75 rfl rfl ?_
    replace h := Option.some.inj h; subst h
    subst hQ
    exact v_iret C hr hlk dX8_served_76
def b_X8_ones_4 (M : Mem) (x0 : Int32) (x1 : Int32) (x2 : Int32) : Option ((Int32 × Int32) ⊕ Int32) :=
  if 5 ≤ x2 then (some (.inr x1)) else (nm (x1 + ((x0 >>> (x2 &&& 31)) &&& 1)) fun y1 => some (.inl (y1, x2 + 1)))
def m_X8_ones (M : Mem) (x0 : Int32) : Option Int32 :=
  (loopF (fun z => b_X8_ones_4 M x0 z.1 z.2) FUEL (0, 0)).bind fun z2 => some z2
set_option maxHeartbeats 4000000 in
set_option maxRecDepth 100000 in
theorem c_X8_ones (l : Launch) (D : va_G) (cA : cAt) (B : Nat) (aK aV : Nat → Nat) (M : Mem) (x0 : Int32) (R : Int32) (h : m_X8_ones M x0 = some R) : CI l D cA B aK aV yX8_ones cX8_ones 3 .int 0 [.int x0] M R M := by
  refine CI_of (by decide +kernel) (Nat.le_of_ble_eq_true rfl) ?_
  intro p e s m args below meth c C hr hlk
  have C : Cx p (rmd 0) s m args c 0 0 D cA B aK aV cX8_ones 3 RX8 := C
  generalize hQ : MQ below _ args s 0 0 _ = Q
  refine v_eq (M' := M) (pc' := 0) (L' := [(0, .int x0)]) (st' := []) ?_
  unfold m_X8_ones at h
  refine v_iconst C dX8_ones_0 ct_i_0 ?_
  refine v_istore_n (L' := [(1, .int 0), (0, .int x0)]) C dX8_ones_1 rfl (by decide) rfl ?_
  refine v_iconst C dX8_ones_2 ct_i_0 ?_
  refine v_istore_n (L' := [(2, .int 0), (1, .int 0), (0, .int x0)]) C dX8_ones_3 rfl (by decide) rfl ?_
  have LB4 : ∀  (x1 : Int32) (x2 : Int32) (o4 : (Int32 × Int32) ⊕ Int32) (h : b_X8_ones_4 M x0 x1 x2 = some o4) (hc4 : ∀ z : Int32 × Int32, o4 = .inl z → V p l e (rmd 0) s m args below meth c 0 0 D cA B 3 Q M 4 [(0, .int x0), (1, .int z.1), (2, .int z.2)] []) (he4 : ∀ z : Int32, o4 = .inr z → V p l e (rmd 0) s m args below meth c 0 0 D cA B 3 Q M 23 [(1, .int z)] []), V p l e (rmd 0) s m args below meth c 0 0 D cA B 3 Q M 4 [(0, .int x0), (1, .int x1), (2, .int x2)] [] := by
    intro x1 x2 o4 h hc4 he4
    unfold b_X8_ones_4 at h
    refine v_iload_n (j := 2) C dX8_ones_4 rfl rfl ?_
    refine v_iconst C dX8_ones_5 ct_i_5 ?_
    refine v_icmp_ge (tgt := 23) C dX8_ones_6 (by decide) (fun g => ?_) (fun g => ?_)
    · replace h := ite_t g h
      replace h := Option.some.inj h; subst h
      refine v_sub [1] rfl ?_
      exact he4 x1 rfl
    · replace h := ite_f g h
      refine v_iload_n (j := 1) C dX8_ones_9 rfl rfl ?_
      refine v_iload_n (j := 0) C dX8_ones_10 rfl rfl ?_
      refine v_iload_n (j := 2) C dX8_ones_11 rfl rfl ?_
      refine v_pc (pc' := 12) rfl ?_
      refine v_ishr C dX8_ones_12 ?_
      refine v_iconst C dX8_ones_13 ct_i_1 ?_
      refine v_iand C dX8_ones_14 ?_
      refine v_iadd C dX8_ones_15 ?_
      replace h := nm_ex h; obtain ⟨y1, ey1, h⟩ := h
      refine v_topI ey1 ?_
      refine v_istore_n (L' := [(1, .int y1), (0, .int x0), (2, .int x2)]) C dX8_ones_16 rfl (by decide) rfl ?_
      refine v_iinc (j := 2) (L' := [(2, .int (x2 + 1)), (1, .int y1), (0, .int x0)]) C dX8_ones_17 rfl (congrArg (fun z => _ + z) ct_i_1) (by decide) rfl ?_
      refine v_goto (tgt := 4) C dX8_ones_20 (by decide) ?_
      replace h := Option.some.inj h; subst h
      refine v_sub [2, 1, 0] rfl ?_
      exact hc4 (y1, x2 + 1) rfl
  replace h := bind_ex h; obtain ⟨z2, hz2, h⟩ := h
  refine v_sub [2, 1, 0] rfl ?_
  refine loopF_walk (Pσ := fun z => V p l e (rmd 0) s m args below meth c 0 0 D cA B 3 Q M 4 [(0, .int x0), (1, .int z.1), (2, .int z.2)] []) (Pρ := fun y => V p l e (rmd 0) s m args below meth c 0 0 D cA B 3 Q M 23 [(1, .int y)] []) ?_ FUEL (0, 0) z2 hz2 ?_
  · intro z o hb hc he
    exact LB4 z.1 z.2 o hb hc he
  · refine v_iload_n (j := 0) C dX8_ones_23 rfl rfl ?_
    replace h := Option.some.inj h; subst h
    subst hQ
    exact v_iret C hr hlk dX8_ones_24
