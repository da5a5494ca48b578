def m_X3_landAt (M : Mem) (x1 : Int32) : Option Int32 :=
  if x1 < 0 then (some (-1)) else (if (M 196 1) ≤ x1 then (some (-1)) else (if 20 ≤ x1 then (some (-1)) else (chk (inB x1 20) (some (M 197 x1.toNatClampNeg)))))
set_option maxHeartbeats 4000000 in
set_option maxRecDepth 100000 in
theorem c_X3_landAt (l : Launch) (D : va_G) (cA : cAt) (B : Nat) (aK aV : Nat → Nat) (M : Mem) (x1 : Int32) (R : Int32) (h : m_X3_landAt M x1 = some R) : CI l D cA B aK aV yX3_landAt cX3_landAt 2 .int 0 [.ref (B + 196), .int x1] M R M := by
  refine CI_of (by decide +kernel) (Nat.le_of_ble_eq_true rfl) ?_
  intro p e s m args below meth c C hr hlk
  have C : Cx p (rmd 0) s m args c 0 0 D cA B aK aV cX3_landAt 2 RX3 := C
  generalize hQ : MQ below _ args s 0 0 _ = Q
  refine v_eq (M' := M) (pc' := 0) (L' := [(0, .ref (B + 196)), (1, .int x1)]) (st' := []) ?_
  unfold m_X3_landAt at h
  refine v_iload_n (j := 1) C dX3_landAt_0 rfl rfl ?_
  refine v_if_lt (tgt := 30) C dX3_landAt_1 (by decide) (fun g => ?_) (fun g => ?_)
  · replace h := ite_t g h
    refine v_iconst C dX3_landAt_30 ct_i_m1 ?_
    replace h := Option.some.inj h; subst h
    subst hQ
    exact v_iret C hr hlk dX3_landAt_31
  · replace h := ite_f g h
    refine v_iload_n (j := 1) C dX3_landAt_4 rfl rfl ?_
    refine v_aload_nR (j := 0) C dX3_landAt_5 rfl rfl ?_
    refine gf_X3_15 C ks_196 dX3_landAt_6 ?_
    refine v_icmp_ge (tgt := 30) C dX3_landAt_9 (by decide) (fun g => ?_) (fun g => ?_)
    · replace h := ite_t g h
      refine v_iconst C dX3_landAt_30 ct_i_m1 ?_
      replace h := Option.some.inj h; subst h
      subst hQ
      exact v_iret C hr hlk dX3_landAt_31
    · replace h := ite_f g h
      refine v_pc (pc' := 12) rfl ?_
      refine v_iload_n (j := 1) C dX3_landAt_12 rfl rfl ?_
      refine v_aload_nR (j := 0) C dX3_landAt_13 rfl rfl ?_
      refine gf_X3_9 C ks_196 dX3_landAt_14 ?_
      refine v_alen9 (v := 20) C ks_197 rfl dX3_landAt_17 ?_
      refine v_icmp_ge (tgt := 30) C dX3_landAt_18 (by decide) (fun g => ?_) (fun g => ?_)
      · replace h := ite_t g h
        refine v_iconst C dX3_landAt_30 ct_i_m1 ?_
        replace h := Option.some.inj h; subst h
        subst hQ
        exact v_iret C hr hlk dX3_landAt_31
      · replace h := ite_f g h
        refine v_aload_nR (j := 0) C dX3_landAt_21 rfl rfl ?_
        refine gf_X3_9 C ks_196 dX3_landAt_22 ?_
        refine v_pc (pc' := 25) rfl ?_
        refine v_iload_n (j := 1) C dX3_landAt_25 rfl rfl ?_
        replace h := chk_some h; obtain ⟨g1, h⟩ := h
        refine v_iald C ks_197 (inB_vp g1) dX3_landAt_26 ?_
        refine v_goto (tgt := 31) C dX3_landAt_27 (by decide) ?_
        replace h := Option.some.inj h; subst h
        subst hQ
        exact v_iret C hr hlk dX3_landAt_31
def m_X3_landBy (M : Mem) (x1 : Int64) : Option Int32 :=
  if (M 196 1) ≤ 0 then (some (-1)) else (chk (nzL ((M 196 1).toInt64)) ((m_X3_landAt M ((x1 % ((M 196 1).toInt64)).toInt32)).bind fun r2 => some r2))
set_option maxHeartbeats 4000000 in
set_option maxRecDepth 100000 in
theorem c_X3_landBy (l : Launch) (D : va_G) (cA : cAt) (B : Nat) (aK aV : Nat → Nat) (M : Mem) (x1 : Int64) (R : Int32) (h : m_X3_landBy M x1 = some R) : CI l D cA B aK aV yX3_landBy cX3_landBy 3 .int 1 [.ref (B + 196), .long x1] M R M := by
  refine CI_of (by decide +kernel) (Nat.le_of_ble_eq_true rfl) ?_
  intro p e s m args below meth c C hr hlk
  have C : Cx p (rmd 1) s m args c 0 0 D cA B aK aV cX3_landBy 3 RX3 := C
  generalize hQ : MQ below _ args s 0 0 _ = Q
  refine v_eq (M' := M) (pc' := 0) (L' := [(0, .ref (B + 196)), (1, .long x1)]) (st' := []) ?_
  unfold m_X3_landBy at h
  refine v_aload_nR (j := 0) C dX3_landBy_0 rfl rfl ?_
  refine gf_X3_15 C ks_196 dX3_landBy_1 ?_
  refine v_if_le (tgt := 22) C dX3_landBy_4 (by decide) (fun g => ?_) (fun g => ?_)
  · replace h := ite_t g h
    refine v_iconst C dX3_landBy_22 ct_i_m1 ?_
    replace h := Option.some.inj h; subst h
    subst hQ
    exact v_iret C hr hlk dX3_landBy_23
  · replace h := ite_f g h
    refine v_aload_nR (j := 0) C dX3_landBy_7 rfl rfl ?_
    refine v_lload_n (j := 1) C dX3_landBy_8 rfl rfl ?_
    refine v_aload_nR (j := 0) C dX3_landBy_9 rfl rfl ?_
    refine v_pc (pc' := 10) rfl ?_
    refine gf_X3_15 C ks_196 dX3_landBy_10 ?_
    refine v_i2l C dX3_landBy_13 ?_
    replace h := chk_some h; obtain ⟨g1, h⟩ := h
    refine v_lrem C dX3_landBy_14 (of_decide_eq_true g1) ?_
    refine v_l2i C dX3_landBy_15 ?_
    replace h := bind_ex h; obtain ⟨r2, hr2, h⟩ := h
    refine cv_I C tw_611 tw_108 tw_608 tw_610 tw_36 pd_X3_landAt (Nat.le_of_ble_eq_true rfl) (Nat.le_of_ble_eq_true rfl) (q := 196) (kd_lt ks_196 (by decide)) (sh3 ks_196) rfl (As := [.int ((x1 % ((M 196 1).toInt64)).toInt32)]) (rest := []) rfl rfl (Nat.le_of_ble_eq_true rfl) (c_X3_landAt l D cA B aK aV M ((x1 % ((M 196 1).toInt64)).toInt32) r2 hr2) dX3_landBy_16 ?_
    refine v_goto (tgt := 23) C dX3_landBy_19 (by decide) ?_
    replace h := Option.some.inj h; subst h
    subst hQ
    exact v_iret C hr hlk dX3_landBy_23
def m_X3_cellAt (M : Mem) (x0 : Int32) (x1 : Int32) : Option Int32 :=
  if x0 < 0 then (some (-1)) else (if 6 ≤ x0 then (some (-1)) else (if x1 < 0 then (some (-1)) else (if 5 ≤ x1 then (some (-1)) else (some ((6 * x1) + x0)))))
set_option maxHeartbeats 4000000 in
set_option maxRecDepth 100000 in
theorem c_X3_cellAt (l : Launch) (D : va_G) (cA : cAt) (B : Nat) (aK aV : Nat → Nat) (M : Mem) (x0 : Int32) (x1 : Int32) (R : Int32) (h : m_X3_cellAt M x0 x1 = some R) : CI l D cA B aK aV yX3_cellAt cX3_cellAt 2 .int 0 [.int x0, .int x1] M R M := by
  refine CI_of (by decide +kernel) (Nat.le_of_ble_eq_true rfl) ?_
  intro p e s m args below meth c C hr hlk
  have C : Cx p (rmd 0) s m args c 0 0 D cA B aK aV cX3_cellAt 2 RX3 := C
  generalize hQ : MQ below _ args s 0 0 _ = Q
  refine v_eq (M' := M) (pc' := 0) (L' := [(0, .int x0), (1, .int x1)]) (st' := []) ?_
  unfold m_X3_cellAt at h
  refine v_iload_n (j := 0) C dX3_cellAt_0 rfl rfl ?_
  refine v_if_lt (tgt := 28) C dX3_cellAt_1 (by decide) (fun g => ?_) (fun g => ?_)
  · replace h := ite_t g h
    refine v_iconst C dX3_cellAt_28 ct_i_m1 ?_
    replace h := Option.some.inj h; subst h
    subst hQ
    exact v_iret C hr hlk dX3_cellAt_29
  · replace h := ite_f g h
    refine v_iload_n (j := 0) C dX3_cellAt_4 rfl rfl ?_
    refine v_bipush C dX3_cellAt_5 ct_b_6 ?_
    refine v_icmp_ge (tgt := 28) C dX3_cellAt_7 (by decide) (fun g => ?_) (fun g => ?_)
    · replace h := ite_t g h
      refine v_iconst C dX3_cellAt_28 ct_i_m1 ?_
      replace h := Option.some.inj h; subst h
      subst hQ
      exact v_iret C hr hlk dX3_cellAt_29
    · replace h := ite_f g h
      refine v_iload_n (j := 1) C dX3_cellAt_10 rfl rfl ?_
      refine v_pc (pc' := 11) rfl ?_
      refine v_if_lt (tgt := 28) C dX3_cellAt_11 (by decide) (fun g => ?_) (fun g => ?_)
      · replace h := ite_t g h
        refine v_iconst C dX3_cellAt_28 ct_i_m1 ?_
        replace h := Option.some.inj h; subst h
        subst hQ
        exact v_iret C hr hlk dX3_cellAt_29
      · replace h := ite_f g h
        refine v_iload_n (j := 1) C dX3_cellAt_14 rfl rfl ?_
        refine v_iconst C dX3_cellAt_15 ct_i_5 ?_
        refine v_icmp_ge (tgt := 28) C dX3_cellAt_16 (by decide) (fun g => ?_) (fun g => ?_)
        · replace h := ite_t g h
          refine v_iconst C dX3_cellAt_28 ct_i_m1 ?_
          replace h := Option.some.inj h; subst h
          subst hQ
          exact v_iret C hr hlk dX3_cellAt_29
        · replace h := ite_f g h
          refine v_bipush C dX3_cellAt_19 ct_b_6 ?_
          refine v_iload_n (j := 1) C dX3_cellAt_21 rfl rfl ?_
          refine v_imul C dX3_cellAt_22 ?_
          refine v_pc (pc' := 23) rfl ?_
          refine v_iload_n (j := 0) C dX3_cellAt_23 rfl rfl ?_
          refine v_iadd C dX3_cellAt_24 ?_
          refine v_goto (tgt := 29) C dX3_cellAt_25 (by decide) ?_
          replace h := Option.some.inj h; subst h
          subst hQ
          exact v_iret C hr hlk dX3_cellAt_29
def b_X3_throwAt_46 (M : Mem) (x1 : Int32) (x2 : Int32) (x3 : Int32) (x4 : Int32) (x5 : Int32) (x6 : Int32) : Option ((Int32 × Mem) ⊕ Mem) :=
  if x5 ≤ x6 then (some (.inr M)) else ((m_X3_cellAt M ((x1 % 6) + x4) ((x1 / 6) + x3)).bind fun r3 => (m_X3_add M r3).bind fun r4 => some (.inl (x6 + 1, r4)))
def b_X3_throwAt_17 (M : Mem) (x1 : Int32) (x2 : Int32) (x3 : Int32) (x4 : Int32) : Option ((Int32 × Mem) ⊕ Mem) :=
  if 2 < x4 then (some (.inr M)) else (nm ((((if 2 < x2 then 2 else x2) + 1) - (if 0 ≤ x4 then x4 else 0 - x4)) - (if 0 ≤ x3 then x3 else 0 - x3)) fun y2 => (loopF (fun z => b_X3_throwAt_46 z.2 x1 x2 x3 x4 y2 z.1) FUEL (0, M)).bind fun z5 => some (.inl (x4 + 1, z5)))
def b_X3_throwAt_8 (M : Mem) (x1 : Int32) (x2 : Int32) (x3 : Int32) : Option ((Int32 × Mem) ⊕ Mem) :=
  if 2 < x3 then (some (.inr M)) else ((loopF (fun z => b_X3_throwAt_17 z.2 x1 x2 x3 z.1) FUEL ((-2), M)).bind fun z6 => some (.inl (x3 + 1, z6)))
def m_X3_throwAt (M : Mem) (x1 : Int32) (x2 : Int32) : Option Mem :=
  nm (mset M 196 1 0) fun M1 => (loopF (fun z => b_X3_throwAt_8 z.2 x1 x2 z.1) FUEL ((-2), M1)).bind fun z7 => some z7
set_option maxHeartbeats 4000000 in
set_option maxRecDepth 100000 in
theorem c_X3_throwAt (l : Launch) (D : va_G) (cA : cAt) (B : Nat) (aK aV : Nat → Nat) (M : Mem) (x1 : Int32) (x2 : Int32) (R : Mem) (h : m_X3_throwAt M x1 x2 = some R) : CV l D cA B aK aV yX3_throwAt cX3_throwAt 7 1 [.ref (B + 196), .int x1, .int x2] M R := by
  refine CV_of (by decide +kernel) (Nat.le_of_ble_eq_true rfl) ?_
  intro p e s m args below meth c C hr hlk
  have C : Cx p (rmd 1) s m args c 0 0 D cA B aK aV cX3_throwAt 7 RX3 := C
  generalize hQ : MQ below _ args s 0 0 _ = Q
  refine v_eq (M' := M) (pc' := 0) (L' := [(0, .ref (B + 196)), (1, .int x1), (2, .int x2)]) (st' := []) ?_
  unfold m_X3_throwAt at h
  refine v_aload_nR (j := 0) C dX3_throwAt_0 rfl rfl ?_
  refine v_iconst C dX3_throwAt_1 ct_i_0 ?_
  replace h := nm_ex h; obtain ⟨M1, eM1, h⟩ := h
  refine pf_X3_15 C ks_196 dX3_throwAt_2 ?_
  refine v_mem eM1 ?_
  refine v_bipush C dX3_throwAt_5 ct_b_m2 ?_
  refine v_istore_n (L' := [(3, .int (-2)), (0, .ref (B + 196)), (1, .int x1), (2, .int x2)]) C dX3_throwAt_7 rfl (by decide) rfl ?_
  have LB8 : ∀ (M : Mem) (x3 : Int32) (o8 : (Int32 × Mem) ⊕ Mem) (h : b_X3_throwAt_8 M x1 x2 x3 = some o8) (hc8 : ∀ z : Int32 × Mem, o8 = .inl z → V p l e (rmd 1) s m args below meth c 0 0 D cA B 7 Q z.2 8 [(0, .ref (B + 196)), (1, .int x1), (2, .int x2), (3, .int z.1)] []) (he8 : ∀ z : Mem, o8 = .inr z → V p l e (rmd 1) s m args below meth c 0 0 D cA B 7 Q z 91 [] []), V p l e (rmd 1) s m args below meth c 0 0 D cA B 7 Q M 8 [(0, .ref (B + 196)), (1, .int x1), (2, .int x2), (3, .int x3)] [] := by
    intro M x3 o8 h hc8 he8
    unfold b_X3_throwAt_8 at h
    refine v_iload_n (j := 3) C dX3_throwAt_8 rfl rfl ?_
    refine v_iconst C dX3_throwAt_9 ct_i_2 ?_
    refine v_icmp_gt (tgt := 91) C dX3_throwAt_10 (by decide) (fun g => ?_) (fun g => ?_)
    · replace h := ite_t g h
      replace h := Option.some.inj h; subst h
      refine v_sub [] rfl ?_
      exact he8 M rfl
    · replace h := ite_f g h
      refine v_bipush C dX3_throwAt_13 ct_b_m2 ?_
      refine v_istore (L' := [(4, .int (-2)), (0, .ref (B + 196)), (1, .int x1), (2, .int x2), (3, .int x3)]) C dX3_throwAt_15 (by decide) rfl ?_
      have LB17 : ∀ (M : Mem) (x3 : Int32) (x4 : Int32) (o17 : (Int32 × Mem) ⊕ Mem) (h : b_X3_throwAt_17 M x1 x2 x3 x4 = some o17) (hc17 : ∀ z : Int32 × Mem, o17 = .inl z → V p l e (rmd 1) s m args below meth c 0 0 D cA B 7 Q z.2 17 [(0, .ref (B + 196)), (1, .int x1), (2, .int x2), (3, .int x3), (4, .int z.1)] []) (he17 : ∀ z : Mem, o17 = .inr z → V p l e (rmd 1) s m args below meth c 0 0 D cA B 7 Q z 85 [(0, .ref (B + 196)), (1, .int x1), (2, .int x2), (3, .int x3)] []), V p l e (rmd 1) s m args below meth c 0 0 D cA B 7 Q M 17 [(0, .ref (B + 196)), (1, .int x1), (2, .int x2), (3, .int x3), (4, .int x4)] [] := by
        intro M x3 x4 o17 h hc17 he17
        unfold b_X3_throwAt_17 at h
        refine v_iload (j := 4) C dX3_throwAt_17 rfl ?_
        refine v_iconst C dX3_throwAt_19 ct_i_2 ?_
        refine v_icmp_gt (tgt := 85) C dX3_throwAt_20 (by decide) (fun g => ?_) (fun g => ?_)
        · replace h := ite_t g h
          replace h := Option.some.inj h; subst h
          refine v_sub [0, 1, 2, 3] rfl ?_
          exact he17 M rfl
        · replace h := ite_f g h
          refine v_iload_n (j := 2) C dX3_throwAt_23 rfl rfl ?_
          refine v_iconst C dX3_throwAt_24 ct_i_2 ?_
          refine v_mmin C tw_585 tw_586 tw_118 tw_587 (Nat.le_of_ble_eq_true rfl) (Nat.le_of_ble_eq_true rfl) dX3_throwAt_25 ?_
          refine v_pc (pc' := 28) rfl ?_
          refine v_iconst C dX3_throwAt_28 ct_i_1 ?_
          refine v_iadd C dX3_throwAt_29 ?_
          refine v_iload (j := 4) C dX3_throwAt_30 rfl ?_
          refine v_mabs C tw_588 tw_589 tw_118 tw_590 (Nat.le_of_ble_eq_true rfl) (Nat.le_of_ble_eq_true rfl) dX3_throwAt_32 ?_
          refine v_isub C dX3_throwAt_35 ?_
          refine v_iload_n (j := 3) C dX3_throwAt_36 rfl rfl ?_
          refine v_mabs C tw_588 tw_589 tw_118 tw_590 (Nat.le_of_ble_eq_true rfl) (Nat.le_of_ble_eq_true rfl) dX3_throwAt_37 ?_
          refine v_pc (pc' := 40) rfl ?_
          refine v_isub C dX3_throwAt_40 ?_
          replace h := nm_ex h; obtain ⟨y2, ey2, h⟩ := h
          refine v_topI ey2 ?_
          refine v_istore (L' := [(5, .int y2), (0, .ref (B + 196)), (1, .int x1), (2, .int x2), (3, .int x3), (4, .int x4)]) C dX3_throwAt_41 (by decide) rfl ?_
          refine v_iconst C dX3_throwAt_43 ct_i_0 ?_
          refine v_istore (L' := [(6, .int 0), (5, .int y2), (0, .ref (B + 196)), (1, .int x1), (2, .int x2), (3, .int x3), (4, .int x4)]) C dX3_throwAt_44 (by decide) rfl ?_
          have LB46 : ∀ (M : Mem) (x3 : Int32) (x4 : Int32) (x5 : Int32) (x6 : Int32) (o46 : (Int32 × Mem) ⊕ Mem) (h : b_X3_throwAt_46 M x1 x2 x3 x4 x5 x6 = some o46) (hc46 : ∀ z : Int32 × Mem, o46 = .inl z → V p l e (rmd 1) s m args below meth c 0 0 D cA B 7 Q z.2 46 [(0, .ref (B + 196)), (1, .int x1), (2, .int x2), (3, .int x3), (4, .int x4), (5, .int x5), (6, .int z.1)] []) (he46 : ∀ z : Mem, o46 = .inr z → V p l e (rmd 1) s m args below meth c 0 0 D cA B 7 Q z 79 [(0, .ref (B + 196)), (1, .int x1), (2, .int x2), (3, .int x3), (4, .int x4)] []), V p l e (rmd 1) s m args below meth c 0 0 D cA B 7 Q M 46 [(0, .ref (B + 196)), (1, .int x1), (2, .int x2), (3, .int x3), (4, .int x4), (5, .int x5), (6, .int x6)] [] := by
            intro M x3 x4 x5 x6 o46 h hc46 he46
            unfold b_X3_throwAt_46 at h
            refine v_iload (j := 6) C dX3_throwAt_46 rfl ?_
            refine v_iload (j := 5) C dX3_throwAt_48 rfl ?_
            refine v_icmp_ge (tgt := 79) C dX3_throwAt_50 (by decide) (fun g => ?_) (fun g => ?_)
            · replace h := ite_t g h
              replace h := Option.some.inj h; subst h
              refine v_sub [0, 1, 2, 3, 4] rfl ?_
              exact he46 M rfl
            · replace h := ite_f g h
              refine v_aload_nR (j := 0) C dX3_throwAt_53 rfl rfl ?_
              refine v_iload_n (j := 1) C dX3_throwAt_54 rfl rfl ?_
              refine v_bipush C dX3_throwAt_55 ct_b_6 ?_
              refine v_pc (pc' := 57) rfl ?_
              refine v_irem C dX3_throwAt_57 (by decide) ?_
              refine v_iload (j := 4) C dX3_throwAt_58 rfl ?_
              refine v_iadd C dX3_throwAt_60 ?_
              refine v_iload_n (j := 1) C dX3_throwAt_61 rfl rfl ?_
              refine v_bipush C dX3_throwAt_62 ct_b_6 ?_
              refine v_idiv C dX3_throwAt_64 (by decide) ?_
              refine v_iload_n (j := 3) C dX3_throwAt_65 rfl rfl ?_
              refine v_pc (pc' := 66) rfl ?_
              refine v_iadd C dX3_throwAt_66 ?_
              replace h := bind_ex h; obtain ⟨r3, hr3, h⟩ := h
              refine cs_I C tw_593 tw_108 tw_591 tw_592 pd_X3_cellAt (Nat.le_of_ble_eq_true rfl) (Nat.le_of_ble_eq_true rfl) (As := [.int ((x1 % 6) + x4), .int ((x1 / 6) + x3)]) (rest := [.ref (B + 196)]) rfl rfl (Nat.le_of_ble_eq_true rfl) (c_X3_cellAt l D cA B aK aV M ((x1 % 6) + x4) ((x1 / 6) + x3) r3 hr3) dX3_throwAt_67 ?_
              replace h := bind_ex h; obtain ⟨r4, hr4, h⟩ := h
              refine cv_V C tw_597 tw_108 tw_594 tw_596 tw_33 pd_X3_add (Nat.le_of_ble_eq_true rfl) (Nat.le_of_ble_eq_true rfl) (q := 196) (kd_lt ks_196 (by decide)) (sh3 ks_196) rfl (As := [.int r3]) (rest := []) rfl rfl (Nat.le_of_ble_eq_true rfl) (c_X3_add l D cA B aK aV M r3 r4 hr4) dX3_throwAt_70 ?_
              refine v_iinc (j := 6) (L' := [(6, .int (x6 + 1)), (0, .ref (B + 196)), (1, .int x1), (2, .int x2), (3, .int x3), (4, .int x4), (5, .int x5)]) C dX3_throwAt_73 rfl (congrArg (fun z => _ + z) ct_i_1) (by decide) rfl ?_
              refine v_goto (tgt := 46) C dX3_throwAt_76 (by decide) ?_
              replace h := Option.some.inj h; subst h
              refine v_sub [1, 2, 3, 4, 5, 6, 0] rfl ?_
              exact hc46 (x6 + 1, r4) rfl
          replace h := bind_ex h; obtain ⟨z5, hz5, h⟩ := h
          refine v_sub [2, 3, 4, 5, 6, 1, 0] rfl ?_
          refine loopF_walk (Pσ := fun z => V p l e (rmd 1) s m args below meth c 0 0 D cA B 7 Q z.2 46 [(0, .ref (B + 196)), (1, .int x1), (2, .int x2), (3, .int x3), (4, .int x4), (5, .int y2), (6, .int z.1)] []) (Pρ := fun y => V p l e (rmd 1) s m args below meth c 0 0 D cA B 7 Q y 79 [(0, .ref (B + 196)), (1, .int x1), (2, .int x2), (3, .int x3), (4, .int x4)] []) ?_ FUEL (0, M) z5 hz5 ?_
          · intro z o hb hc he
            exact LB46 z.2 x3 x4 y2 z.1 o hb hc he
          · refine v_iinc (j := 4) (L' := [(4, .int (x4 + 1)), (0, .ref (B + 196)), (1, .int x1), (2, .int x2), (3, .int x3)]) C dX3_throwAt_79 rfl (congrArg (fun z => _ + z) ct_i_1) (by decide) rfl ?_
            refine v_goto (tgt := 17) C dX3_throwAt_82 (by decide) ?_
            replace h := Option.some.inj h; subst h
            refine v_sub [1, 2, 3, 4, 0] rfl ?_
            exact hc17 (x4 + 1, z5) rfl
      replace h := bind_ex h; obtain ⟨z6, hz6, h⟩ := h
      refine v_sub [1, 2, 3, 4, 0] rfl ?_
      refine loopF_walk (Pσ := fun z => V p l e (rmd 1) s m args below meth c 0 0 D cA B 7 Q z.2 17 [(0, .ref (B + 196)), (1, .int x1), (2, .int x2), (3, .int x3), (4, .int z.1)] []) (Pρ := fun y => V p l e (rmd 1) s m args below meth c 0 0 D cA B 7 Q y 85 [(0, .ref (B + 196)), (1, .int x1), (2, .int x2), (3, .int x3)] []) ?_ FUEL ((-2), M) z6 hz6 ?_
      · intro z o hb hc he
        exact LB17 z.2 x3 z.1 o hb hc he
      · refine v_iinc (j := 3) (L' := [(3, .int (x3 + 1)), (0, .ref (B + 196)), (1, .int x1), (2, .int x2)]) C dX3_throwAt_85 rfl (congrArg (fun z => _ + z) ct_i_1) (by decide) rfl ?_
        refine v_goto (tgt := 8) C dX3_throwAt_88 (by decide) ?_
        replace h := Option.some.inj h; subst h
        refine v_sub [1, 2, 3, 0] rfl ?_
        exact hc8 (x3 + 1, z6) rfl
  replace h := bind_ex h; obtain ⟨z7, hz7, h⟩ := h
  refine v_sub [1, 2, 3, 0] rfl ?_
  refine loopF_walk (Pσ := fun z => V p l e (rmd 1) s m args below meth c 0 0 D cA B 7 Q z.2 8 [(0, .ref (B + 196)), (1, .int x1), (2, .int x2), (3, .int z.1)] []) (Pρ := fun y => V p l e (rmd 1) s m args below meth c 0 0 D cA B 7 Q y 91 [] []) ?_ FUEL ((-2), M1) z7 hz7 ?_
  · intro z o hb hc he
    exact LB8 z.2 z.1 o hb hc he
  · replace h := Option.some.inj h; subst h
    subst hQ
    exact v_vret C hr hlk dX3_throwAt_91
def m_X4_item (M : Mem) (x0 : Nat) (x1 : Int32) : Option Int32 :=
  if x1 < 0 then (some 0) else (if 40 ≤ x1 then (some 0) else (chk (inB x1 40) (some (M (x0 + 1) x1.toNatClampNeg))))
set_option maxHeartbeats 4000000 in
set_option maxRecDepth 100000 in
theorem c_X4_item (l : Launch) (D : va_G) (cA : cAt) (B : Nat) (aK aV : Nat → Nat) (M : Mem) (x0 : Nat) (x1 : Int32) (k0 : kd x0 = 4) (R : Int32) (h : m_X4_item M x0 x1 = some R) : CI l D cA B aK aV yX4_item cX4_item 2 .int 0 [.ref (B + x0), .int x1] M R M := by
  refine CI_of (by decide +kernel) (Nat.le_of_ble_eq_true rfl) ?_
  intro p e s m args below meth c C hr hlk
  have C : Cx p (rmd 0) s m args c 0 0 D cA B aK aV cX4_item 2 RX4 := C
  generalize hQ : MQ below _ args s 0 0 _ = Q
  refine v_eq (M' := M) (pc' := 0) (L' := [(0, .ref (B + x0)), (1, .int x1)]) (st' := []) ?_
  unfold m_X4_item at h
  refine v_iload_n (j := 1) C dX4_item_0 rfl rfl ?_
  refine v_if_lt (tgt := 22) C dX4_item_1 (by decide) (fun g => ?_) (fun g => ?_)
  · replace h := ite_t g h
    refine v_iconst C dX4_item_22 ct_i_0 ?_
    replace h := Option.some.inj h; subst h
    subst hQ
    exact v_iret C hr hlk dX4_item_23
  · replace h := ite_f g h
    refine v_iload_n (j := 1) C dX4_item_4 rfl rfl ?_
    refine v_aload_nR (j := 0) C dX4_item_5 rfl rfl ?_
    refine gf_X4_9 C k0 dX4_item_6 ?_
    refine v_alen9 (v := 40) C (kdR k0) (by rw [alenR k0]; rfl) dX4_item_9 ?_
    refine v_pc (pc' := 10) rfl ?_
    refine v_icmp_ge (tgt := 22) C dX4_item_10 (by decide) (fun g => ?_) (fun g => ?_)
    · replace h := ite_t g h
      refine v_iconst C dX4_item_22 ct_i_0 ?_
      replace h := Option.some.inj h; subst h
      subst hQ
      exact v_iret C hr hlk dX4_item_23
    · replace h := ite_f g h
      refine v_aload_nR (j := 0) C dX4_item_13 rfl rfl ?_
      refine gf_X4_9 C k0 dX4_item_14 ?_
      refine v_iload_n (j := 1) C dX4_item_17 rfl rfl ?_
      replace h := chk_some h; obtain ⟨g1, h⟩ := h
      refine v_iald C (kdR k0) (by rw [alenR k0]; exact (inB_vp g1)) dX4_item_18 ?_
      refine v_goto (tgt := 23) C dX4_item_19 (by decide) ?_
      replace h := Option.some.inj h; subst h
      subst hQ
      exact v_iret C hr hlk dX4_item_23
def m_X7_isCell (M : Mem) (x0 : Int32) : Option Int32 :=
  if x0 < 0 then (some 0) else (if 30 ≤ x0 then (some 0) else (some 1))
set_option maxHeartbeats 4000000 in
set_option maxRecDepth 100000 in
theorem c_X7_isCell (l : Launch) (D : va_G) (cA : cAt) (B : Nat) (aK aV : Nat → Nat) (M : Mem) (x0 : Int32) (R : Int32) (h : m_X7_isCell M x0 = some R) : CI l D cA B aK aV yX7_isCell cX7_isCell 1 .boolean 0 [.int x0] M R M := by
  refine CI_of (by decide +kernel) (Nat.le_of_ble_eq_true rfl) ?_
  intro p e s m args below meth c C hr hlk
  have C : Cx p (rmd 0) s m args c 0 0 D cA B aK aV cX7_isCell 1 RX7 := C
  generalize hQ : MQ below _ args s 0 0 _ = Q
  refine v_eq (M' := M) (pc' := 0) (L' := [(0, .int x0)]) (st' := []) ?_
  unfold m_X7_isCell at h
  refine v_iload_n (j := 0) C dX7_isCell_0 rfl rfl ?_
  refine v_if_lt (tgt := 14) C dX7_isCell_1 (by decide) (fun g => ?_) (fun g => ?_)
  · replace h := ite_t g h
    refine v_iconst C dX7_isCell_14 ct_i_0 ?_
    replace h := Option.some.inj h; subst h
    subst hQ
    exact v_zret C hr hlk (show narrow .boolean (.int 0) = .int 0 from rfl) dX7_isCell_15
  · replace h := ite_f g h
    refine v_iload_n (j := 0) C dX7_isCell_4 rfl rfl ?_
    refine v_bipush C dX7_isCell_5 ct_b_30 ?_
    refine v_icmp_ge (tgt := 14) C dX7_isCell_7 (by decide) (fun g => ?_) (fun g => ?_)
    · replace h := ite_t g h
      refine v_iconst C dX7_isCell_14 ct_i_0 ?_
      replace h := Option.some.inj h; subst h
      subst hQ
      exact v_zret C hr hlk (show narrow .boolean (.int 0) = .int 0 from rfl) dX7_isCell_15
    · replace h := ite_f g h
      refine v_iconst C dX7_isCell_10 ct_i_1 ?_
      refine v_pc (pc' := 11) rfl ?_
      refine v_goto (tgt := 15) C dX7_isCell_11 (by decide) ?_
      replace h := Option.some.inj h; subst h
      subst hQ
      exact v_zret C hr hlk (show narrow .boolean (.int 1) = .int 1 from rfl) dX7_isCell_15
def b_X3_takeItems_8 (M : Mem) (x1 : Nat) (x2 : Int32) (x3 : Int32) (x4 : Int32) : Option ((Int32 × Mem) ⊕ (Mem ⊕ (Int32 × Mem))) :=
  if x3 ≤ x4 then (some (.inr (.inl M))) else (if 20 ≤ x4 then (some (.inr (.inl M))) else ((m_X4_item M x1 (x2 + x4)).bind fun r2 => (m_X7_isCell M r2).bind fun r3 => if r3 = 0 then (some (.inr (.inr ((0, M))))) else ((m_X3_add M r2).bind fun r4 => some (.inl (x4 + 1, r4)))))
def m_X3_takeItems (M : Mem) (x1 : Nat) (x2 : Int32) (x3 : Int32) : Option (Int32 × Mem) :=
  nm (mset M 196 1 0) fun M1 => (loopF (fun z => b_X3_takeItems_8 z.2 x1 x2 x3 z.1) FUEL (0, M1)).bind fun z5 => sumC z5 (fun z6 => some ((1, z6))) (fun z => some z)
set_option maxHeartbeats 4000000 in
set_option maxRecDepth 100000 in
theorem c_X3_takeItems (l : Launch) (D : va_G) (cA : cAt) (B : Nat) (aK aV : Nat → Nat) (M : Mem) (x1 : Nat) (x2 : Int32) (x3 : Int32) (k1 : kd x1 = 4) (R : Int32 × Mem) (h : m_X3_takeItems M x1 x2 x3 = some R) : CI l D cA B aK aV yX3_takeItems cX3_takeItems 6 .boolean 1 [.ref (B + 196), .ref (B + x1), .int x2, .int x3] M R.1 R.2 := by
  refine CI_of (by decide +kernel) (Nat.le_of_ble_eq_true rfl) ?_
  intro p e s m args below meth c C hr hlk
  have C : Cx p (rmd 1) s m args c 0 0 D cA B aK aV cX3_takeItems 6 RX3 := C
  generalize hQ : MQ below _ args s 0 0 _ = Q
  refine v_eq (M' := M) (pc' := 0) (L' := [(0, .ref (B + 196)), (1, .ref (B + x1)), (2, .int x2), (3, .int x3)]) (st' := []) ?_
  unfold m_X3_takeItems at h
  refine v_aload_nR (j := 0) C dX3_takeItems_0 rfl rfl ?_
  refine v_iconst C dX3_takeItems_1 ct_i_0 ?_
  replace h := nm_ex h; obtain ⟨M1, eM1, h⟩ := h
  refine pf_X3_15 C ks_196 dX3_takeItems_2 ?_
  refine v_mem eM1 ?_
  refine v_iconst C dX3_takeItems_5 ct_i_0 ?_
  refine v_istore (L' := [(4, .int 0), (0, .ref (B + 196)), (1, .ref (B + x1)), (2, .int x2), (3, .int x3)]) C dX3_takeItems_6 (by decide) rfl ?_
  have LB8 : ∀ (M : Mem) (x4 : Int32) (o8 : (Int32 × Mem) ⊕ (Mem ⊕ (Int32 × Mem))) (h : b_X3_takeItems_8 M x1 x2 x3 x4 = some o8) (hc8 : ∀ z : Int32 × Mem, o8 = .inl z → V p l e (rmd 1) s m args below meth c 0 0 D cA B 6 Q z.2 8 [(0, .ref (B + 196)), (1, .ref (B + x1)), (2, .int x2), (3, .int x3), (4, .int z.1)] []) (he8 : ∀ z : Mem, o8 = .inr (.inl z) → V p l e (rmd 1) s m args below meth c 0 0 D cA B 6 Q z 56 [] []) (hr8 : ∀ z : Int32 × Mem, o8 = .inr (.inr z) → z = R), V p l e (rmd 1) s m args below meth c 0 0 D cA B 6 Q M 8 [(0, .ref (B + 196)), (1, .ref (B + x1)), (2, .int x2), (3, .int x3), (4, .int x4)] [] := by
    intro M x4 o8 h hc8 he8 hr8
    unfold b_X3_takeItems_8 at h
    refine v_iload (j := 4) C dX3_takeItems_8 rfl ?_
    refine v_iload_n (j := 3) C dX3_takeItems_10 rfl rfl ?_
    refine v_icmp_ge (tgt := 56) C dX3_takeItems_11 (by decide) (fun g => ?_) (fun g => ?_)
    · replace h := ite_t g h
      replace h := Option.some.inj h; subst h
      refine v_sub [] rfl ?_
      exact he8 M rfl
    · replace h := ite_f g h
      refine v_iload (j := 4) C dX3_takeItems_14 rfl ?_
      refine v_aload_nR (j := 0) C dX3_takeItems_16 rfl rfl ?_
      refine gf_X3_9 C ks_196 dX3_takeItems_17 ?_
      refine v_pc (pc' := 20) rfl ?_
      refine v_alen9 (v := 20) C ks_197 rfl dX3_takeItems_20 ?_
      refine v_icmp_ge (tgt := 56) C dX3_takeItems_21 (by decide) (fun g => ?_) (fun g => ?_)
      · replace h := ite_t g h
        replace h := Option.some.inj h; subst h
        refine v_sub [] rfl ?_
        exact he8 M rfl
      · replace h := ite_f g h
        refine v_aload_nR (j := 1) C dX3_takeItems_24 rfl rfl ?_
        refine v_iload_n (j := 2) C dX3_takeItems_25 rfl rfl ?_
        refine v_iload (j := 4) C dX3_takeItems_26 rfl ?_
        refine v_iadd C dX3_takeItems_28 ?_
        replace h := bind_ex h; obtain ⟨r2, hr2, h⟩ := h
        refine cvN_I C tw_787 tw_110 tw_784 tw_786 tw_56 pd_X4_item (Nat.le_of_ble_eq_true rfl) (Nat.le_of_ble_eq_true rfl) (q := x1) (kd_lt k1 (by decide)) (sh4 k1) rfl (As := [.int (x2 + x4)]) (rest := []) rfl rfl (Nat.le_of_ble_eq_true rfl) (c_X4_item l D cA B aK aV M x1 (x2 + x4) k1 r2 hr2) dX3_takeItems_29 ?_
        refine v_pc (pc' := 32) rfl ?_
        refine v_istore (L' := [(5, .int r2), (0, .ref (B + 196)), (1, .ref (B + x1)), (2, .int x2), (3, .int x3), (4, .int x4)]) C dX3_takeItems_32 (by decide) rfl ?_
        refine v_iload (j := 0) C dX3_takeItems_34 rfl ?_
        replace h := bind_ex h; obtain ⟨r3, hr3, h⟩ := h
        refine csN_I C tw_556 tw_103 tw_788 tw_555 pd_X7_isCell (Nat.le_of_ble_eq_true rfl) (Nat.le_of_ble_eq_true rfl) (As := [.int r2]) (rest := []) rfl rfl (Nat.le_of_ble_eq_true rfl) (c_X7_isCell l D cA B aK aV M r2 r3 hr3) dX3_takeItems_36 ?_
        refine v_if_ne (tgt := 44) C dX3_takeItems_39 (by decide) (fun g => ?_) (fun g => ?_)
        · replace h := ite_t g h
          refine v_iconst C dX3_takeItems_42 ct_i_0 ?_
          replace h := Option.some.inj h; subst h
          have hR := hr8 _ rfl
          subst hR
          subst hQ
          exact v_zret C hr hlk (show narrow .boolean (.int 0) = .int 0 from rfl) dX3_takeItems_43
        · replace h := ite_f g h
          refine v_aload_nR (j := 1) C dX3_takeItems_44 rfl rfl ?_
          refine v_iload (j := 0) C dX3_takeItems_45 rfl ?_
          replace h := bind_ex h; obtain ⟨r4, hr4, h⟩ := h
          refine cv_V C tw_597 tw_108 tw_594 tw_596 tw_33 pd_X3_add (Nat.le_of_ble_eq_true rfl) (Nat.le_of_ble_eq_true rfl) (q := 196) (kd_lt ks_196 (by decide)) (sh3 ks_196) rfl (As := [.int r2]) (rest := []) rfl rfl (Nat.le_of_ble_eq_true rfl) (c_X3_add l D cA B aK aV M r2 r4 hr4) dX3_takeItems_47 ?_
          refine v_iinc (j := 5) (L' := [(4, .int (x4 + 1)), (5, .int r2), (0, .ref (B + 196)), (1, .ref (B + x1)), (2, .int x2), (3, .int x3)]) C dX3_takeItems_50 rfl (congrArg (fun z => _ + z) ct_i_1) (by decide) rfl ?_
          refine v_goto (tgt := 8) C dX3_takeItems_53 (by decide) ?_
          replace h := Option.some.inj h; subst h
          refine v_sub [2, 3, 4, 5, 0] rfl ?_
          exact hc8 (x4 + 1, r4) rfl
  replace h := bind_ex h; obtain ⟨z5, hz5, h⟩ := h
  refine v_sub [1, 2, 3, 4, 0] rfl ?_
  refine loopF_walk (Pσ := fun z => V p l e (rmd 1) s m args below meth c 0 0 D cA B 6 Q z.2 8 [(0, .ref (B + 196)), (1, .ref (B + x1)), (2, .int x2), (3, .int x3), (4, .int z.1)] []) (Pρ := fun r => (∀ y : Mem, r = .inl y → V p l e (rmd 1) s m args below meth c 0 0 D cA B 6 Q y 56 [] []) ∧ (∀ y : Int32 × Mem, r = .inr y → y = R)) ?_ FUEL (0, M1) z5 hz5 ?_
  · intro z o hb hc he
    exact LB8 z.2 z.1 o hb hc (fun y e => (he _ e).1 y rfl) (fun y e => (he _ e).2 y rfl)
  · refine ⟨fun z6 e => ?_, fun y e => ?_⟩
    · subst e
      replace h := sumC_l h
      refine v_iconst C dX3_takeItems_56 ct_i_1 ?_
      replace h := Option.some.inj h; subst h
      subst hQ
      exact v_zret C hr hlk (show narrow .boolean (.int 1) = .int 1 from rfl) dX3_takeItems_57
    · subst e
      replace h := sumC_r h
      exact Option.some.inj h
def m_X5_isDry (M : Mem) (x0 : Nat) (x1 : Int32) : Option Int32 :=
  (m_X7_isCell M x1).bind fun r1 => if r1 = 0 then (some 0) else (if (((M x0 3) >>> (x1 &&& 31)) &&& 1) = 0 then (some 1) else (some 0))
set_option maxHeartbeats 4000000 in
set_option maxRecDepth 100000 in
theorem c_X5_isDry (l : Launch) (D : va_G) (cA : cAt) (B : Nat) (aK aV : Nat → Nat) (M : Mem) (x0 : Nat) (x1 : Int32) (k0 : kd x0 = 5) (R : Int32) (h : m_X5_isDry M x0 x1 = some R) : CI l D cA B aK aV yX5_isDry cX5_isDry 2 .boolean 1 [.ref (B + x0), .int x1] M R M := by
  refine CI_of (by decide +kernel) (Nat.le_of_ble_eq_true rfl) ?_
  intro p e s m args below meth c C hr hlk
  have C : Cx p (rmd 1) s m args c 0 0 D cA B aK aV cX5_isDry 2 RX5 := C
  generalize hQ : MQ below _ args s 0 0 _ = Q
  refine v_eq (M' := M) (pc' := 0) (L' := [(0, .ref (B + x0)), (1, .int x1)]) (st' := []) ?_
  unfold m_X5_isDry at h
  refine v_iload_n (j := 1) C dX5_isDry_0 rfl rfl ?_
  replace h := bind_ex h; obtain ⟨r1, hr1, h⟩ := h
  refine csN_I C tw_556 tw_103 tw_620 tw_555 pd_X7_isCell (Nat.le_of_ble_eq_true rfl) (Nat.le_of_ble_eq_true rfl) (As := [.int x1]) (rest := []) rfl rfl (Nat.le_of_ble_eq_true rfl) (c_X7_isCell l D cA B aK aV M x1 r1 hr1) dX5_isDry_1 ?_
  refine v_if_eq (tgt := 22) C dX5_isDry_4 (by decide) (fun g => ?_) (fun g => ?_)
  · replace h := ite_t g h
    refine v_iconst C dX5_isDry_22 ct_i_0 ?_
    replace h := Option.some.inj h; subst h
    subst hQ
    exact v_zret C hr hlk (show narrow .boolean (.int 0) = .int 0 from rfl) dX5_isDry_23
  · replace h := ite_f g h
    refine v_aload_nR (j := 0) C dX5_isDry_7 rfl rfl ?_
    refine gf_X5_28 C k0 dX5_isDry_8 ?_
    refine v_iload_n (j := 1) C dX5_isDry_11 rfl rfl ?_
    refine v_pc (pc' := 12) rfl ?_
    refine v_ishr C dX5_isDry_12 ?_
    refine v_iconst C dX5_isDry_13 ct_i_1 ?_
    refine v_iand C dX5_isDry_14 ?_
    refine v_if_ne (tgt := 22) C dX5_isDry_15 (by decide) (fun g => ?_) (fun g => ?_)
    · replace h := ite_t g h
      refine v_iconst C dX5_isDry_18 ct_i_1 ?_
      refine v_goto (tgt := 23) C dX5_isDry_19 (by decide) ?_
      replace h := Option.some.inj h; subst h
      subst hQ
      exact v_zret C hr hlk (show narrow .boolean (.int 1) = .int 1 from rfl) dX5_isDry_23
    · replace h := ite_f g h
      refine v_iconst C dX5_isDry_22 ct_i_0 ?_
      replace h := Option.some.inj h; subst h
      subst hQ
      exact v_zret C hr hlk (show narrow .boolean (.int 0) = .int 0 from rfl) dX5_isDry_23
def m_X7_far (M : Mem) (x0 : Int32) (x1 : Int32) : Option Int32 :=
  some ((if 0 ≤ ((x0 % 6) - (x1 % 6)) then ((x0 % 6) - (x1 % 6)) else 0 - ((x0 % 6) - (x1 % 6))) + (if 0 ≤ ((x0 / 6) - (x1 / 6)) then ((x0 / 6) - (x1 / 6)) else 0 - ((x0 / 6) - (x1 / 6))))
set_option maxHeartbeats 4000000 in
set_option maxRecDepth 100000 in
theorem c_X7_far (l : Launch) (D : va_G) (cA : cAt) (B : Nat) (aK aV : Nat → Nat) (M : Mem) (x0 : Int32) (x1 : Int32) (R : Int32) (h : m_X7_far M x0 x1 = some R) : CI l D cA B aK aV yX7_far cX7_far 2 .int 1 [.int x0, .int x1] M R M := by
  refine CI_of (by decide +kernel) (Nat.le_of_ble_eq_true rfl) ?_
  intro p e s m args below meth c C hr hlk
  have C : Cx p (rmd 1) s m args c 0 0 D cA B aK aV cX7_far 2 RX7 := C
  generalize hQ : MQ below _ args s 0 0 _ = Q
  refine v_eq (M' := M) (pc' := 0) (L' := [(0, .int x0), (1, .int x1)]) (st' := []) ?_
  unfold m_X7_far at h
  refine v_iload_n (j := 0) C dX7_far_0 rfl rfl ?_
  refine v_bipush C dX7_far_1 ct_b_6 ?_
  refine v_irem C dX7_far_3 (by decide) ?_
  refine v_iload_n (j := 1) C dX7_far_4 rfl rfl ?_
  refine v_bipush C dX7_far_5 ct_b_6 ?_
  refine v_irem C dX7_far_7 (by decide) ?_
  refine v_pc (pc' := 8) rfl ?_
  refine v_isub C dX7_far_8 ?_
  refine v_mabs C tw_624 tw_589 tw_118 tw_590 (Nat.le_of_ble_eq_true rfl) (Nat.le_of_ble_eq_true rfl) dX7_far_9 ?_
  refine v_iload_n (j := 0) C dX7_far_12 rfl rfl ?_
  refine v_bipush C dX7_far_13 ct_b_6 ?_
  refine v_idiv C dX7_far_15 (by decide) ?_
  refine v_iload_n (j := 1) C dX7_far_16 rfl rfl ?_
  refine v_bipush C dX7_far_17 ct_b_6 ?_
  refine v_pc (pc' := 19) rfl ?_
  refine v_idiv C dX7_far_19 (by decide) ?_
  refine v_isub C dX7_far_20 ?_
  refine v_mabs C tw_624 tw_589 tw_118 tw_590 (Nat.le_of_ble_eq_true rfl) (Nat.le_of_ble_eq_true rfl) dX7_far_21 ?_
  refine v_iadd C dX7_far_24 ?_
  replace h := Option.some.inj h; subst h
  subst hQ
  exact v_iret C hr hlk dX7_far_25
def j_X5_pickerAt_56 (M : Mem) (x0 : Nat) (x1 : Int32) (x2 : Int32) (x3 : Int32) (x4 : Int32) (s0 : Int32) : Option ((Int32 × Int32 × Int32) ⊕ Int32) :=
  if s0 ≤ x3 then (some (.inl (x2, x3, x4 + 1))) else (some (.inl (x4, s0, x4 + 1)))
def b_X5_pickerAt_7 (M : Mem) (x0 : Nat) (x1 : Int32) (x2 : Int32) (x3 : Int32) (x4 : Int32) : Option ((Int32 × Int32 × Int32) ⊕ Int32) :=
  if 5 ≤ x4 then (some (.inr x2)) else ((m_X5_isDry M x0 x1).bind fun r1 => if r1 = 0 then (some (.inr x2)) else ((m_X5_at M x0 x4).bind fun r2 => optC r2 (j_X5_pickerAt_56 M x0 x1 x2 x3 x4 0) (fun a3 => chk (kdB a3 2) ((m_X7_far M (M a3 3) x1).bind fun r5 => (m_X2_powerBy M a3 r5 (M x0 2)).bind fun r6 => j_X5_pickerAt_56 M x0 x1 x2 x3 x4 r6))))
def m_X5_pickerAt (M : Mem) (x0 : Nat) (x1 : Int32) : Option Int32 :=
  (loopF (fun z => b_X5_pickerAt_7 M x0 x1 z.1 z.2.1 z.2.2) FUEL ((-1), 0, 0)).bind fun z7 => some z7
set_option maxHeartbeats 4000000 in
set_option maxRecDepth 100000 in
theorem c_X5_pickerAt (l : Launch) (D : va_G) (cA : cAt) (B : Nat) (aK aV : Nat → Nat) (M : Mem) (x0 : Nat) (x1 : Int32) (k0 : kd x0 = 5) (R : Int32) (h : m_X5_pickerAt M x0 x1 = some R) : CI l D cA B aK aV yX5_pickerAt cX5_pickerAt 7 .int 2 [.ref (B + x0), .int x1] M R M := by
  refine CI_of (by decide +kernel) (Nat.le_of_ble_eq_true rfl) ?_
  intro p e s m args below meth c C hr hlk
  have C : Cx p (rmd 2) s m args c 0 0 D cA B aK aV cX5_pickerAt 7 RX5 := C
  generalize hQ : MQ below _ args s 0 0 _ = Q
  refine v_eq (M' := M) (pc' := 0) (L' := [(0, .ref (B + x0)), (1, .int x1)]) (st' := []) ?_
  unfold m_X5_pickerAt at h
  refine v_iconst C dX5_pickerAt_0 ct_i_m1 ?_
  refine v_istore_n (L' := [(2, .int (-1)), (0, .ref (B + x0)), (1, .int x1)]) C dX5_pickerAt_1 rfl (by decide) rfl ?_
  refine v_iconst C dX5_pickerAt_2 ct_i_0 ?_
  refine v_istore_n (L' := [(3, .int 0), (2, .int (-1)), (0, .ref (B + x0)), (1, .int x1)]) C dX5_pickerAt_3 rfl (by decide) rfl ?_
  refine v_iconst C dX5_pickerAt_4 ct_i_0 ?_
  refine v_istore (L' := [(4, .int 0), (3, .int 0), (2, .int (-1)), (0, .ref (B + x0)), (1, .int x1)]) C dX5_pickerAt_5 (by decide) rfl ?_
  have LB7 : ∀  (x2 : Int32) (x3 : Int32) (x4 : Int32) (o7 : (Int32 × Int32 × Int32) ⊕ Int32) (h : b_X5_pickerAt_7 M x0 x1 x2 x3 x4 = some o7) (hc7 : ∀ z : Int32 × Int32 × Int32, o7 = .inl z → V p l e (rmd 2) s m args below meth c 0 0 D cA B 7 Q M 7 [(0, .ref (B + x0)), (1, .int x1), (2, .int z.1), (3, .int z.2.1), (4, .int z.2.2)] []) (he7 : ∀ z : Int32, o7 = .inr z → V p l e (rmd 2) s m args below meth c 0 0 D cA B 7 Q M 76 [(2, .int z)] []), V p l e (rmd 2) s m args below meth c 0 0 D cA B 7 Q M 7 [(0, .ref (B + x0)), (1, .int x1), (2, .int x2), (3, .int x3), (4, .int x4)] [] := by
    intro x2 x3 x4 o7 h hc7 he7
    unfold b_X5_pickerAt_7 at h
    have J56 : ∀ (x2 : Int32) (x3 : Int32) (x4 : Int32) (s0 : Int32), j_X5_pickerAt_56 M x0 x1 x2 x3 x4 s0 = some o7 → V p l e (rmd 2) s m args below meth c 0 0 D cA B 7 Q M 56 [(0, .ref (B + x0)), (1, .int x1), (2, .int x2), (3, .int x3), (4, .int x4)] [.int s0] := by
      intro x2 x3 x4 s0 h
      unfold j_X5_pickerAt_56 at h
      refine v_istore (L' := [(6, .int s0), (0, .ref (B + x0)), (1, .int x1), (2, .int x2), (3, .int x3), (4, .int x4)]) C dX5_pickerAt_56 (by decide) rfl ?_
      refine v_iload (j := 0) C dX5_pickerAt_58 rfl ?_
      refine v_iload_n (j := 4) C dX5_pickerAt_60 rfl rfl ?_
      refine v_icmp_le (tgt := 70) C dX5_pickerAt_61 (by decide) (fun g => ?_) (fun g => ?_)
      · replace h := ite_t g h
        refine v_iinc (j := 5) (L' := [(4, .int (x4 + 1)), (6, .int s0), (0, .ref (B + x0)), (1, .int x1), (2, .int x2), (3, .int x3)]) C dX5_pickerAt_70 rfl (congrArg (fun z => _ + z) ct_i_1) (by decide) rfl ?_
        refine v_goto (tgt := 7) C dX5_pickerAt_73 (by decide) ?_
        replace h := Option.some.inj h; subst h
        refine v_sub [2, 3, 4, 5, 0] rfl ?_
        exact hc7 (x2, x3, x4 + 1) rfl
      · replace h := ite_f g h
        refine v_iload (j := 0) C dX5_pickerAt_64 rfl ?_
        refine v_istore_n (L' := [(3, .int s0), (6, .int s0), (0, .ref (B + x0)), (1, .int x1), (2, .int x2), (4, .int x4)]) C dX5_pickerAt_66 rfl (by decide) rfl ?_
        refine v_pc (pc' := 67) rfl ?_
        refine v_iload (j := 5) C dX5_pickerAt_67 rfl ?_
        refine v_istore_n (L' := [(2, .int x4), (3, .int s0), (6, .int s0), (0, .ref (B + x0)), (1, .int x1), (4, .int x4)]) C dX5_pickerAt_69 rfl (by decide) rfl ?_
        refine v_iinc (j := 5) (L' := [(4, .int (x4 + 1)), (2, .int x4), (3, .int s0), (6, .int s0), (0, .ref (B + x0)), (1, .int x1)]) C dX5_pickerAt_70 rfl (congrArg (fun z => _ + z) ct_i_1) (by decide) rfl ?_
        refine v_goto (tgt := 7) C dX5_pickerAt_73 (by decide) ?_
        replace h := Option.some.inj h; subst h
        refine v_sub [4, 5, 1, 2, 0] rfl ?_
        exact hc7 (x4, s0, x4 + 1) rfl
    refine v_iload (j := 4) C dX5_pickerAt_7 rfl ?_
    refine v_iconst C dX5_pickerAt_9 ct_i_5 ?_
    refine v_icmp_ge (tgt := 76) C dX5_pickerAt_10 (by decide) (fun g => ?_) (fun g => ?_)
    · replace h := ite_t g h
      replace h := Option.some.inj h; subst h
      refine v_sub [2] rfl ?_
      exact he7 x2 rfl
    · replace h := ite_f g h
      refine v_aload_nR (j := 0) C dX5_pickerAt_13 rfl rfl ?_
      refine v_iload_n (j := 1) C dX5_pickerAt_14 rfl rfl ?_
      replace h := bind_ex h; obtain ⟨r1, hr1, h⟩ := h
      refine cv_I C tw_619 tw_105 tw_616 tw_618 tw_38 pd_X5_isDry (Nat.le_of_ble_eq_true rfl) (Nat.le_of_ble_eq_true rfl) (q := x0) (kd_lt k0 (by decide)) (sh5 k0) rfl (As := [.int x1]) (rest := []) rfl rfl (Nat.le_of_ble_eq_true rfl) (c_X5_isDry l D cA B aK aV M x0 x1 k0 r1 hr1) dX5_pickerAt_15 ?_
      refine v_pc (pc' := 18) rfl ?_
      refine v_if_eq (tgt := 76) C dX5_pickerAt_18 (by decide) (fun g => ?_) (fun g => ?_)
      · replace h := ite_t g h
        replace h := Option.some.inj h; subst h
        refine v_sub [2] rfl ?_
        exact he7 x2 rfl
      · replace h := ite_f g h
        refine v_aload_nR (j := 0) C dX5_pickerAt_21 rfl rfl ?_
        refine v_iload (j := 4) C dX5_pickerAt_22 rfl ?_
        replace h := bind_ex h; obtain ⟨r2, hr2, h⟩ := h
        refine cv_Q C tw_534 tw_105 tw_531 tw_533 tw_25 pd_X5_at (Nat.le_of_ble_eq_true rfl) (Nat.le_of_ble_eq_true rfl) (q := x0) (kd_lt k0 (by decide)) (sh5 k0) rfl (As := [.int x4]) (rest := []) rfl rfl (Nat.le_of_ble_eq_true rfl) (c_X5_at l D cA B aK aV M x0 x4 k0 r2 hr2) dX5_pickerAt_24 ?_
        refine v_astoreO (L' := [(5, rv B r2), (0, .ref (B + x0)), (1, .int x1), (2, .int x2), (3, .int x3), (4, .int x4)]) C dX5_pickerAt_27 (by decide) rfl ?_
        refine v_aloadO (j := 0) C dX5_pickerAt_29 rfl ?_
        replace h := optC_ex h
        rcases h with ⟨rfl, h⟩ | ⟨a3, rfl, h⟩
        · refine v_eq (M' := M) (pc' := 31) (L' := [(5, .null), (0, .ref (B + x0)), (1, .int x1), (2, .int x2), (3, .int x3), (4, .int x4)]) (st' := [.null]) ?_
          refine v_ifnonnullN C dX5_pickerAt_31 ?_
          refine v_iconst C dX5_pickerAt_34 ct_i_0 ?_
          refine v_goto (tgt := 56) C dX5_pickerAt_35 (by decide) ?_
          refine v_sub [1, 2, 3, 4, 5] rfl ?_
          exact J56 x2 x3 x4 0 h
        · replace h := chk_some h; obtain ⟨g4, h⟩ := h
          replace g4 := kdB_eq g4
          refine v_eq (M' := M) (pc' := 31) (L' := [(5, .ref (B + a3)), (0, .ref (B + x0)), (1, .int x1), (2, .int x2), (3, .int x3), (4, .int x4)]) (st' := [.ref (B + a3)]) ?_
          refine v_ifnonnullS (tgt := 38) C dX5_pickerAt_31 (by decide) ?_
          refine v_aloadR (j := 0) C dX5_pickerAt_38 rfl ?_
          refine v_aloadR (j := 0) C dX5_pickerAt_40 rfl ?_
          refine gf_X5_45 C g4 dX5_pickerAt_42 ?_
          refine v_iload_n (j := 2) C dX5_pickerAt_45 rfl rfl ?_
          replace h := bind_ex h; obtain ⟨r5, hr5, h⟩ := h
          refine csN_I C tw_623 tw_103 tw_621 tw_622 pd_X7_far (Nat.le_of_ble_eq_true rfl) (Nat.le_of_ble_eq_true rfl) (As := [.int (M a3 3), .int x1]) (rest := [.ref (B + a3)]) rfl rfl (Nat.le_of_ble_eq_true rfl) (c_X7_far l D cA B aK aV M (M a3 3) x1 r5 hr5) dX5_pickerAt_46 ?_
          refine v_aload_nR (j := 1) C dX5_pickerAt_49 rfl rfl ?_
          refine v_pc (pc' := 50) rfl ?_
          refine gf_X5_24 C k0 dX5_pickerAt_50 ?_
          replace h := bind_ex h; obtain ⟨r6, hr6, h⟩ := h
          refine cvN_I C tw_628 tw_106 tw_625 tw_627 tw_39 pd_X2_powerBy (Nat.le_of_ble_eq_true rfl) (Nat.le_of_ble_eq_true rfl) (q := a3) (kd_lt g4 (by decide)) (sh2 g4) rfl (As := [.int r5, .int (M x0 2)]) (rest := []) rfl rfl (Nat.le_of_ble_eq_true rfl) (c_X2_powerBy l D cA B aK aV M a3 r5 (M x0 2) g4 r6 hr6) dX5_pickerAt_53 ?_
          refine v_sub [1, 2, 3, 4, 5] rfl ?_
          exact J56 x2 x3 x4 r6 h
  replace h := bind_ex h; obtain ⟨z7, hz7, h⟩ := h
  refine v_sub [3, 4, 2, 1, 0] rfl ?_
  refine loopF_walk (Pσ := fun z => V p l e (rmd 2) s m args below meth c 0 0 D cA B 7 Q M 7 [(0, .ref (B + x0)), (1, .int x1), (2, .int z.1), (3, .int z.2.1), (4, .int z.2.2)] []) (Pρ := fun y => V p l e (rmd 2) s m args below meth c 0 0 D cA B 7 Q M 76 [(2, .int y)] []) ?_ FUEL ((-1), 0, 0) z7 hz7 ?_
  · intro z o hb hc he
    exact LB7 z.1 z.2.1 z.2.2 o hb hc he
  · refine v_iload_n (j := 0) C dX5_pickerAt_76 rfl rfl ?_
    replace h := Option.some.inj h; subst h
    subst hQ
    exact v_iret C hr hlk dX5_pickerAt_77
def b_X3_countPickedBy_5 (M : Mem) (x1 : Nat) (x2 : Int32) (x3 : Int32) (x4 : Int32) : Option ((Int32 × Int32) ⊕ Int32) :=
  if (M 196 1) ≤ x4 then (some (.inr x3)) else ((m_X3_landAt M x4).bind fun r1 => (m_X5_pickerAt M x1 r1).bind fun r2 => if r2 = x2 then (some (.inl (x3 + 1, x4 + 1))) else (some (.inl (x3, x4 + 1))))
def m_X3_countPickedBy (M : Mem) (x1 : Nat) (x2 : Int32) : Option Int32 :=
  (loopF (fun z => b_X3_countPickedBy_5 M x1 x2 z.1 z.2) FUEL (0, 0)).bind fun z3 => some z3
set_option maxHeartbeats 4000000 in
set_option maxRecDepth 100000 in
theorem c_X3_countPickedBy (l : Launch) (D : va_G) (cA : cAt) (B : Nat) (aK aV : Nat → Nat) (M : Mem) (x1 : Nat) (x2 : Int32) (k1 : kd x1 = 5) (R : Int32) (h : m_X3_countPickedBy M x1 x2 = some R) : CI l D cA B aK aV yX3_countPickedBy cX3_countPickedBy 5 .int 3 [.ref (B + 196), .ref (B + x1), .int x2] M R M := by
  refine CI_of (by decide +kernel) (Nat.le_of_ble_eq_true rfl) ?_
  intro p e s m args below meth c C hr hlk
  have C : Cx p (rmd 3) s m args c 0 0 D cA B aK aV cX3_countPickedBy 5 RX3 := C
  generalize hQ : MQ below _ args s 0 0 _ = Q
  refine v_eq (M' := M) (pc' := 0) (L' := [(0, .ref (B + 196)), (1, .ref (B + x1)), (2, .int x2)]) (st' := []) ?_
  unfold m_X3_countPickedBy at h
  refine v_iconst C dX3_countPickedBy_0 ct_i_0 ?_
  refine v_istore_n (L' := [(3, .int 0), (0, .ref (B + 196)), (1, .ref (B + x1)), (2, .int x2)]) C dX3_countPickedBy_1 rfl (by decide) rfl ?_
  refine v_iconst C dX3_countPickedBy_2 ct_i_0 ?_
  refine v_istore (L' := [(4, .int 0), (3, .int 0), (0, .ref (B + 196)), (1, .ref (B + x1)), (2, .int x2)]) C dX3_countPickedBy_3 (by decide) rfl ?_
  have LB5 : ∀  (x3 : Int32) (x4 : Int32) (o5 : (Int32 × Int32) ⊕ Int32) (h : b_X3_countPickedBy_5 M x1 x2 x3 x4 = some o5) (hc5 : ∀ z : Int32 × Int32, o5 = .inl z → V p l e (rmd 3) s m args below meth c 0 0 D cA B 5 Q M 5 [(0, .ref (B + 196)), (1, .ref (B + x1)), (2, .int x2), (3, .int z.1), (4, .int z.2)] []) (he5 : ∀ z : Int32, o5 = .inr z → V p l e (rmd 3) s m args below meth c 0 0 D cA B 5 Q M 37 [(3, .int z)] []), V p l e (rmd 3) s m args below meth c 0 0 D cA B 5 Q M 5 [(0, .ref (B + 196)), (1, .ref (B + x1)), (2, .int x2), (3, .int x3), (4, .int x4)] [] := by
    intro x3 x4 o5 h hc5 he5
    unfold b_X3_countPickedBy_5 at h
    refine v_iload (j := 4) C dX3_countPickedBy_5 rfl ?_
    refine v_aload_nR (j := 0) C dX3_countPickedBy_7 rfl rfl ?_
    refine gf_X3_15 C ks_196 dX3_countPickedBy_8 ?_
    refine v_icmp_ge (tgt := 37) C dX3_countPickedBy_11 (by decide) (fun g => ?_) (fun g => ?_)
    · replace h := ite_t g h
      replace h := Option.some.inj h; subst h
      refine v_sub [3] rfl ?_
      exact he5 x3 rfl
    · replace h := ite_f g h
      refine v_aload_nR (j := 1) C dX3_countPickedBy_14 rfl rfl ?_
      refine v_aload_nR (j := 0) C dX3_countPickedBy_15 rfl rfl ?_
      refine v_pc (pc' := 16) rfl ?_
      refine v_iload (j := 4) C dX3_countPickedBy_16 rfl ?_
      replace h := bind_ex h; obtain ⟨r1, hr1, h⟩ := h
      refine cv_I C tw_611 tw_108 tw_608 tw_610 tw_36 pd_X3_landAt (Nat.le_of_ble_eq_true rfl) (Nat.le_of_ble_eq_true rfl) (q := 196) (kd_lt ks_196 (by decide)) (sh3 ks_196) rfl (As := [.int x4]) (rest := [.ref (B + x1)]) rfl rfl (Nat.le_of_ble_eq_true rfl) (c_X3_landAt l D cA B aK aV M x4 r1 hr1) dX3_countPickedBy_18 ?_
      replace h := bind_ex h; obtain ⟨r2, hr2, h⟩ := h
      refine cvN_I C tw_615 tw_105 tw_679 tw_614 tw_37 pd_X5_pickerAt (Nat.le_of_ble_eq_true rfl) (Nat.le_of_ble_eq_true rfl) (q := x1) (kd_lt k1 (by decide)) (sh5 k1) rfl (As := [.int r1]) (rest := []) rfl rfl (Nat.le_of_ble_eq_true rfl) (c_X5_pickerAt l D cA B aK aV M x1 r1 k1 r2 hr2) dX3_countPickedBy_21 ?_
      refine v_iload_n (j := 2) C dX3_countPickedBy_24 rfl rfl ?_
      refine v_icmp_ne (tgt := 31) C dX3_countPickedBy_25 (by decide) (fun g => ?_) (fun g => ?_)
      · replace h := ite_t g h
        refine v_iinc (j := 3) (L' := [(3, .int (x3 + 1)), (0, .ref (B + 196)), (1, .ref (B + x1)), (2, .int x2), (4, .int x4)]) C dX3_countPickedBy_28 rfl (congrArg (fun z => _ + z) ct_i_1) (by decide) rfl ?_
        refine v_iinc (j := 4) (L' := [(4, .int (x4 + 1)), (3, .int (x3 + 1)), (0, .ref (B + 196)), (1, .ref (B + x1)), (2, .int x2)]) C dX3_countPickedBy_31 rfl (congrArg (fun z => _ + z) ct_i_1) (by decide) rfl ?_
        refine v_pc (pc' := 34) rfl ?_
        refine v_goto (tgt := 5) C dX3_countPickedBy_34 (by decide) ?_
        replace h := Option.some.inj h; subst h
        refine v_sub [2, 3, 4, 1, 0] rfl ?_
        exact hc5 (x3 + 1, x4 + 1) rfl
      · replace h := ite_f g h
        refine v_iinc (j := 4) (L' := [(4, .int (x4 + 1)), (0, .ref (B + 196)), (1, .ref (B + x1)), (2, .int x2), (3, .int x3)]) C dX3_countPickedBy_31 rfl (congrArg (fun z => _ + z) ct_i_1) (by decide) rfl ?_
        refine v_goto (tgt := 5) C dX3_countPickedBy_34 (by decide) ?_
        replace h := Option.some.inj h; subst h
        refine v_sub [1, 2, 3, 4, 0] rfl ?_
        exact hc5 (x3, x4 + 1) rfl
  replace h := bind_ex h; obtain ⟨z3, hz3, h⟩ := h
  refine v_sub [2, 3, 4, 1, 0] rfl ?_
  refine loopF_walk (Pσ := fun z => V p l e (rmd 3) s m args below meth c 0 0 D cA B 5 Q M 5 [(0, .ref (B + 196)), (1, .ref (B + x1)), (2, .int x2), (3, .int z.1), (4, .int z.2)] []) (Pρ := fun y => V p l e (rmd 3) s m args below meth c 0 0 D cA B 5 Q M 37 [(3, .int y)] []) ?_ FUEL (0, 0) z3 hz3 ?_
  · intro z o hb hc he
    exact LB5 z.1 z.2 o hb hc he
  · refine v_iload_n (j := 0) C dX3_countPickedBy_37 rfl rfl ?_
    replace h := Option.some.inj h; subst h
    subst hQ
    exact v_iret C hr hlk dX3_countPickedBy_38
def b_X3_pickers_4 (M : Mem) (x1 : Nat) (x2 : Int32) (x3 : Int32) : Option ((Int32 × Int32) ⊕ Int32) :=
  if (M 196 1) ≤ x3 then (some (.inr x2)) else ((m_X3_landAt M x3).bind fun r1 => (m_X5_pickerAt M x1 r1).bind fun r2 => if r2 = (-1) then (some (.inl (x2, x3 + 1))) else (nm (x2 ||| (1 <<< (r2 &&& 31))) fun y3 => some (.inl (y3, x3 + 1))))
def m_X3_pickers (M : Mem) (x1 : Nat) : Option Int32 :=
  (loopF (fun z => b_X3_pickers_4 M x1 z.1 z.2) FUEL (0, 0)).bind fun z4 => some z4
set_option maxHeartbeats 4000000 in
set_option maxRecDepth 100000 in
theorem c_X3_pickers (l : Launch) (D : va_G) (cA : cAt) (B : Nat) (aK aV : Nat → Nat) (M : Mem) (x1 : Nat) (k1 : kd x1 = 5) (R : Int32) (h : m_X3_pickers M x1 = some R) : CI l D cA B aK aV yX3_pickers cX3_pickers 5 .int 3 [.ref (B + 196), .ref (B + x1)] M R M := by
  refine CI_of (by decide +kernel) (Nat.le_of_ble_eq_true rfl) ?_
  intro p e s m args below meth c C hr hlk
  have C : Cx p (rmd 3) s m args c 0 0 D cA B aK aV cX3_pickers 5 RX3 := C
  generalize hQ : MQ below _ args s 0 0 _ = Q
  refine v_eq (M' := M) (pc' := 0) (L' := [(0, .ref (B + 196)), (1, .ref (B + x1))]) (st' := []) ?_
  unfold m_X3_pickers at h
  refine v_iconst C dX3_pickers_0 ct_i_0 ?_
  refine v_istore_n (L' := [(2, .int 0), (0, .ref (B + 196)), (1, .ref (B + x1))]) C dX3_pickers_1 rfl (by decide) rfl ?_
  refine v_iconst C dX3_pickers_2 ct_i_0 ?_
  refine v_istore_n (L' := [(3, .int 0), (2, .int 0), (0, .ref (B + 196)), (1, .ref (B + x1))]) C dX3_pickers_3 rfl (by decide) rfl ?_
  have LB4 : ∀  (x2 : Int32) (x3 : Int32) (o4 : (Int32 × Int32) ⊕ Int32) (h : b_X3_pickers_4 M x1 x2 x3 = some o4) (hc4 : ∀ z : Int32 × Int32, o4 = .inl z → V p l e (rmd 3) s m args below meth c 0 0 D cA B 5 Q M 4 [(0, .ref (B + 196)), (1, .ref (B + x1)), (2, .int z.1), (3, .int z.2)] []) (he4 : ∀ z : Int32, o4 = .inr z → V p l e (rmd 3) s m args below meth c 0 0 D cA B 5 Q M 42 [(2, .int z)] []), V p l e (rmd 3) s m args below meth c 0 0 D cA B 5 Q M 4 [(0, .ref (B + 196)), (1, .ref (B + x1)), (2, .int x2), (3, .int x3)] [] := by
    intro x2 x3 o4 h hc4 he4
    unfold b_X3_pickers_4 at h
    refine v_iload_n (j := 3) C dX3_pickers_4 rfl rfl ?_
    refine v_aload_nR (j := 0) C dX3_pickers_5 rfl rfl ?_
    refine gf_X3_15 C ks_196 dX3_pickers_6 ?_
    refine v_icmp_ge (tgt := 42) C dX3_pickers_9 (by decide) (fun g => ?_) (fun g => ?_)
    · replace h := ite_t g h
      replace h := Option.some.inj h; subst h
      refine v_sub [2] rfl ?_
      exact he4 x2 rfl
    · replace h := ite_f g h
      refine v_aload_nR (j := 1) C dX3_pickers_12 rfl rfl ?_
      refine v_aload_nR (j := 0) C dX3_pickers_13 rfl rfl ?_
      refine v_pc (pc' := 14) rfl ?_
      refine v_iload_n (j := 3) C dX3_pickers_14 rfl rfl ?_
      replace h := bind_ex h; obtain ⟨r1, hr1, h⟩ := h
      refine cv_I C tw_611 tw_108 tw_608 tw_610 tw_36 pd_X3_landAt (Nat.le_of_ble_eq_true rfl) (Nat.le_of_ble_eq_true rfl) (q := 196) (kd_lt ks_196 (by decide)) (sh3 ks_196) rfl (As := [.int x3]) (rest := [.ref (B + x1)]) rfl rfl (Nat.le_of_ble_eq_true rfl) (c_X3_landAt l D cA B aK aV M x3 r1 hr1) dX3_pickers_15 ?_
      replace h := bind_ex h; obtain ⟨r2, hr2, h⟩ := h
      refine cvN_I C tw_615 tw_105 tw_679 tw_614 tw_37 pd_X5_pickerAt (Nat.le_of_ble_eq_true rfl) (Nat.le_of_ble_eq_true rfl) (q := x1) (kd_lt k1 (by decide)) (sh5 k1) rfl (As := [.int r1]) (rest := []) rfl rfl (Nat.le_of_ble_eq_true rfl) (c_X5_pickerAt l D cA B aK aV M x1 r1 k1 r2 hr2) dX3_pickers_18 ?_
      refine v_istore (L' := [(4, .int r2), (0, .ref (B + 196)), (1, .ref (B + x1)), (2, .int x2), (3, .int x3)]) C dX3_pickers_21 (by decide) rfl ?_
      refine v_iload (j := 0) C dX3_pickers_23 rfl ?_
      refine v_iconst C dX3_pickers_25 ct_i_m1 ?_
      refine v_icmp_eq (tgt := 36) C dX3_pickers_26 (by decide) (fun g => ?_) (fun g => ?_)
      · replace h := ite_t g h
        refine v_iinc (j := 4) (L' := [(3, .int (x3 + 1)), (4, .int r2), (0, .ref (B + 196)), (1, .ref (B + x1)), (2, .int x2)]) C dX3_pickers_36 rfl (congrArg (fun z => _ + z) ct_i_1) (by decide) rfl ?_
        refine v_goto (tgt := 4) C dX3_pickers_39 (by decide) ?_
        replace h := Option.some.inj h; subst h
        refine v_sub [2, 3, 4, 0] rfl ?_
        exact hc4 (x2, x3 + 1) rfl
      · replace h := ite_f g h
        refine v_pc (pc' := 29) rfl ?_
        refine v_iload_n (j := 3) C dX3_pickers_29 rfl rfl ?_
        refine v_iconst C dX3_pickers_30 ct_i_1 ?_
        refine v_iload (j := 0) C dX3_pickers_31 rfl ?_
        refine v_ishl C dX3_pickers_33 ?_
        refine v_ior C dX3_pickers_34 ?_
        replace h := nm_ex h; obtain ⟨y3, ey3, h⟩ := h
        refine v_topI ey3 ?_
        refine v_istore_n (L' := [(2, .int y3), (4, .int r2), (0, .ref (B + 196)), (1, .ref (B + x1)), (3, .int x3)]) C dX3_pickers_35 rfl (by decide) rfl ?_
        refine v_iinc (j := 4) (L' := [(3, .int (x3 + 1)), (2, .int y3), (4, .int r2), (0, .ref (B + 196)), (1, .ref (B + x1))]) C dX3_pickers_36 rfl (congrArg (fun z => _ + z) ct_i_1) (by decide) rfl ?_
        refine v_pc (pc' := 39) rfl ?_
        refine v_goto (tgt := 4) C dX3_pickers_39 (by decide) ?_
        replace h := Option.some.inj h; subst h
        refine v_sub [3, 4, 1, 0] rfl ?_
        exact hc4 (y3, x3 + 1) rfl
  replace h := bind_ex h; obtain ⟨z4, hz4, h⟩ := h
  refine v_sub [2, 3, 1, 0] rfl ?_
  refine loopF_walk (Pσ := fun z => V p l e (rmd 3) s m args below meth c 0 0 D cA B 5 Q M 4 [(0, .ref (B + 196)), (1, .ref (B + x1)), (2, .int z.1), (3, .int z.2)] []) (Pρ := fun y => V p l e (rmd 3) s m args below meth c 0 0 D cA B 5 Q M 42 [(2, .int y)] []) ?_ FUEL (0, 0) z4 hz4 ?_
  · intro z o hb hc he
    exact LB4 z.1 z.2 o hb hc he
  · refine v_iload_n (j := 0) C dX3_pickers_42 rfl rfl ?_
    replace h := Option.some.inj h; subst h
    subst hQ
    exact v_iret C hr hlk dX3_pickers_43
def b_J7_fill_53178_5 (M : Mem) (x0 : Nat) (x1 : Int32) (x3 : Int32) (x2 : Int32) : Option ((Int32 × Mem) ⊕ Mem) :=
  if x3 ≤ x2 then (some (.inr M)) else (chk (inB x2 (alen x0)) (nm (mset M x0 x2.toNatClampNeg x1) fun M3 => some (.inl (x2 + 1, M3))))
def m_J7_fill_53178 (M : Mem) (x0 : Nat) (x1 : Int32) : Option Mem :=
  nm (Int32.ofNat (alen x0)) fun y1 => (loopF (fun z => b_J7_fill_53178_5 z.2 x0 x1 y1 z.1) FUEL (0, M)).bind fun z4 => some z4
set_option maxHeartbeats 4000000 in
set_option maxRecDepth 100000 in
theorem c_J7_fill_53178 (l : Launch) (D : va_G) (cA : cAt) (B : Nat) (aK aV : Nat → Nat) (M : Mem) (x0 : Nat) (x1 : Int32) (k0 : kd x0 = 9) (R : Mem) (h : m_J7_fill_53178 M x0 x1 = some R) : CV l D cA B aK aV yJ7_fill_53178 cJ7_fill_53178 4 0 [.ref (B + x0), .int x1] M R := by
  refine CV_of (by decide +kernel) (Nat.le_of_ble_eq_true rfl) ?_
  intro p e s m args below meth c C hr hlk
  have C : Cx p (rmd 0) s m args c 0 0 D cA B aK aV cJ7_fill_53178 4 RJ7 := C
  generalize hQ : MQ below _ args s 0 0 _ = Q
  refine v_eq (M' := M) (pc' := 0) (L' := [(0, .ref (B + x0)), (1, .int x1)]) (st' := []) ?_
  unfold m_J7_fill_53178 at h
  refine v_iconst C dJ7_fill_53178_0 ct_i_0 ?_
  refine v_istore_n (L' := [(2, .int 0), (0, .ref (B + x0)), (1, .int x1)]) C dJ7_fill_53178_1 rfl (by decide) rfl ?_
  refine v_aload_nR (j := 1) C dJ7_fill_53178_2 rfl rfl ?_
  refine v_alen9 (v := Int32.ofNat (alen x0)) C k0 rfl dJ7_fill_53178_3 ?_
  replace h := nm_ex h; obtain ⟨y1, ey1, h⟩ := h
  refine v_topI ey1 ?_
  refine v_istore_n (L' := [(3, .int y1), (2, .int 0), (0, .ref (B + x0)), (1, .int x1)]) C dJ7_fill_53178_4 rfl (by decide) rfl ?_
  have LB5 : ∀ (M : Mem) (x3 : Int32) (x2 : Int32) (o5 : (Int32 × Mem) ⊕ Mem) (h : b_J7_fill_53178_5 M x0 x1 x3 x2 = some o5) (hc5 : ∀ z : Int32 × Mem, o5 = .inl z → V p l e (rmd 0) s m args below meth c 0 0 D cA B 4 Q z.2 5 [(0, .ref (B + x0)), (1, .int x1), (2, .int z.1), (3, .int x3)] []) (he5 : ∀ z : Mem, o5 = .inr z → V p l e (rmd 0) s m args below meth c 0 0 D cA B 4 Q z 20 [] []), V p l e (rmd 0) s m args below meth c 0 0 D cA B 4 Q M 5 [(0, .ref (B + x0)), (1, .int x1), (2, .int x2), (3, .int x3)] [] := by
    intro M x3 x2 o5 h hc5 he5
    unfold b_J7_fill_53178_5 at h
    refine v_iload_n (j := 2) C dJ7_fill_53178_5 rfl rfl ?_
    refine v_iload_n (j := 3) C dJ7_fill_53178_6 rfl rfl ?_
    refine v_icmp_ge (tgt := 20) C dJ7_fill_53178_7 (by decide) (fun g => ?_) (fun g => ?_)
    · replace h := ite_t g h
      replace h := Option.some.inj h; subst h
      refine v_sub [] rfl ?_
      exact he5 M rfl
    · replace h := ite_f g h
      refine v_aload_nR (j := 0) C dJ7_fill_53178_10 rfl rfl ?_
      refine v_iload_n (j := 2) C dJ7_fill_53178_11 rfl rfl ?_
      refine v_iload_n (j := 1) C dJ7_fill_53178_12 rfl rfl ?_
      refine v_pc (pc' := 13) rfl ?_
      replace h := chk_some h; obtain ⟨g2, h⟩ := h
      replace h := nm_ex h; obtain ⟨M3, eM3, h⟩ := h
      refine v_iast C k0 (inB_vp g2) dJ7_fill_53178_13 ?_
      refine v_mem eM3 ?_
      refine v_iinc (j := 2) (L' := [(2, .int (x2 + 1)), (0, .ref (B + x0)), (1, .int x1), (3, .int x3)]) C dJ7_fill_53178_14 rfl (congrArg (fun z => _ + z) ct_i_1) (by decide) rfl ?_
      refine v_goto (tgt := 5) C dJ7_fill_53178_17 (by decide) ?_
      replace h := Option.some.inj h; subst h
      refine v_sub [1, 2, 0, 3] rfl ?_
      exact hc5 (x2 + 1, M3) rfl
  replace h := bind_ex h; obtain ⟨z4, hz4, h⟩ := h
  refine v_sub [2, 3, 1, 0] rfl ?_
  refine loopF_walk (Pσ := fun z => V p l e (rmd 0) s m args below meth c 0 0 D cA B 4 Q z.2 5 [(0, .ref (B + x0)), (1, .int x1), (2, .int z.1), (3, .int y1)] []) (Pρ := fun y => V p l e (rmd 0) s m args below meth c 0 0 D cA B 4 Q y 20 [] []) ?_ FUEL (0, M) z4 hz4 ?_
  · intro z o hb hc he
    exact LB5 z.2 y1 z.1 o hb hc he
  · replace h := Option.some.inj h; subst h
    subst hQ
    exact v_vret C hr hlk dJ7_fill_53178_20
def j_X5_powerNeeded_60 (M : Mem) (x0 : Nat) (x1 : Int32) (x2 : Int32) (x3 : Int32) (x4 : Int32) (x5 : Int32) (x6 : Nat) (s0 : Int32) : Option ((Int32 × Int32) ⊕ Int32) :=
  (m_X7_far M (M x6 3) x3).bind fun r2 => (m_X2_powerBy M x6 r2 (M x0 2)).bind fun r3 => nm (if x4 < (r3 + s0) then (r3 + s0) else x4) fun y4 => some (.inl (y4, x5 + 1))
def b_X5_powerNeeded_18 (M : Mem) (x0 : Nat) (x1 : Int32) (x2 : Int32) (x3 : Int32) (x4 : Int32) (x5 : Int32) : Option ((Int32 × Int32) ⊕ Int32) :=
  if 5 ≤ x5 then (some (.inr x4)) else ((m_X5_at M x0 x5).bind fun r5 => optC r5 (some (.inl (x4, x5 + 1))) (fun a6 => chk (kdB a6 2) (if x5 = x1 then (some (.inl (x4, x5 + 1))) else (if x5 = x2 then (some (.inl (x4, x5 + 1))) else (if x1 ≤ x5 then (j_X5_powerNeeded_60 M x0 x1 x2 x3 x4 x5 a6 0) else (j_X5_powerNeeded_60 M x0 x1 x2 x3 x4 x5 a6 1))))))
def m_X5_powerNeeded (M : Mem) (x0 : Nat) (x1 : Int32) (x2 : Int32) (x3 : Int32) : Option Int32 :=
  (m_X5_isDry M x0 x3).bind fun r1 => if r1 = 0 then (some 1000) else ((loopF (fun z => b_X5_powerNeeded_18 M x0 x1 x2 x3 z.1 z.2) FUEL (1, 0)).bind fun z8 => some z8)
set_option maxHeartbeats 4000000 in
set_option maxRecDepth 100000 in
theorem c_X5_powerNeeded (l : Launch) (D : va_G) (cA : cAt) (B : Nat) (aK aV : Nat → Nat) (M : Mem) (x0 : Nat) (x1 : Int32) (x2 : Int32) (x3 : Int32) (k0 : kd x0 = 5) (R : Int32) (h : m_X5_powerNeeded M x0 x1 x2 x3 = some R) : CI l D cA B aK aV yX5_powerNeeded cX5_powerNeeded 8 .int 2 [.ref (B + x0), .int x1, .int x2, .int x3] M R M := by
  refine CI_of (by decide +kernel) (Nat.le_of_ble_eq_true rfl) ?_
  intro p e s m args below meth c C hr hlk
  have C : Cx p (rmd 2) s m args c 0 0 D cA B aK aV cX5_powerNeeded 8 RX5 := C
  generalize hQ : MQ below _ args s 0 0 _ = Q
  refine v_eq (M' := M) (pc' := 0) (L' := [(0, .ref (B + x0)), (1, .int x1), (2, .int x2), (3, .int x3)]) (st' := []) ?_
  unfold m_X5_powerNeeded at h
  refine v_aload_nR (j := 0) C dX5_powerNeeded_0 rfl rfl ?_
  refine v_iload_n (j := 3) C dX5_powerNeeded_1 rfl rfl ?_
  replace h := bind_ex h; obtain ⟨r1, hr1, h⟩ := h
  refine cv_I C tw_619 tw_105 tw_616 tw_618 tw_38 pd_X5_isDry (Nat.le_of_ble_eq_true rfl) (Nat.le_of_ble_eq_true rfl) (q := x0) (kd_lt k0 (by decide)) (sh5 k0) rfl (As := [.int x3]) (rest := []) rfl rfl (Nat.le_of_ble_eq_true rfl) (c_X5_isDry l D cA B aK aV M x0 x3 k0 r1 hr1) dX5_powerNeeded_2 ?_
  refine v_if_ne (tgt := 12) C dX5_powerNeeded_5 (by decide) (fun g => ?_) (fun g => ?_)
  · replace h := ite_t g h
    refine v_sipush C dX5_powerNeeded_8 ct_s_1000 ?_
    replace h := Option.some.inj h; subst h
    subst hQ
    exact v_iret C hr hlk dX5_powerNeeded_11
  · replace h := ite_f g h
    refine v_iconst C dX5_powerNeeded_12 ct_i_1 ?_
    refine v_istore (L' := [(4, .int 1), (0, .ref (B + x0)), (1, .int x1), (2, .int x2), (3, .int x3)]) C dX5_powerNeeded_13 (by decide) rfl ?_
    refine v_iconst C dX5_powerNeeded_15 ct_i_0 ?_
    refine v_istore (L' := [(5, .int 0), (4, .int 1), (0, .ref (B + x0)), (1, .int x1), (2, .int x2), (3, .int x3)]) C dX5_powerNeeded_16 (by decide) rfl ?_
    have LB18 : ∀  (x4 : Int32) (x5 : Int32) (o18 : (Int32 × Int32) ⊕ Int32) (h : b_X5_powerNeeded_18 M x0 x1 x2 x3 x4 x5 = some o18) (hc18 : ∀ z : Int32 × Int32, o18 = .inl z → V p l e (rmd 2) s m args below meth c 0 0 D cA B 8 Q M 18 [(0, .ref (B + x0)), (1, .int x1), (2, .int x2), (3, .int x3), (4, .int z.1), (5, .int z.2)] []) (he18 : ∀ z : Int32, o18 = .inr z → V p l e (rmd 2) s m args below meth c 0 0 D cA B 8 Q M 96 [(4, .int z)] []), V p l e (rmd 2) s m args below meth c 0 0 D cA B 8 Q M 18 [(0, .ref (B + x0)), (1, .int x1), (2, .int x2), (3, .int x3), (4, .int x4), (5, .int x5)] [] := by
      intro x4 x5 o18 h hc18 he18
      unfold b_X5_powerNeeded_18 at h
      have J60 : ∀ (x4 : Int32) (x5 : Int32) (x6 : Nat) (s0 : Int32) (k6 : kd x6 = 2), j_X5_powerNeeded_60 M x0 x1 x2 x3 x4 x5 x6 s0 = some o18 → V p l e (rmd 2) s m args below meth c 0 0 D cA B 8 Q M 60 [(0, .ref (B + x0)), (1, .int x1), (2, .int x2), (3, .int x3), (4, .int x4), (5, .int x5), (6, .ref (B + x6))] [.int s0] := by
        intro x4 x5 x6 s0 k6 h
        unfold j_X5_powerNeeded_60 at h
        refine v_istore (L' := [(7, .int s0), (0, .ref (B + x0)), (1, .int x1), (2, .int x2), (3, .int x3), (4, .int x4), (5, .int x5), (6, .ref (B + x6))]) C dX5_powerNeeded_60 (by decide) rfl ?_
        refine v_iload (j := 5) C dX5_powerNeeded_62 rfl ?_
        refine v_aloadR (j := 7) C dX5_powerNeeded_64 rfl ?_
        refine v_aloadR (j := 7) C dX5_powerNeeded_66 rfl ?_
        refine gf_X5_45 C k6 dX5_powerNeeded_68 ?_
        refine v_iload_n (j := 4) C dX5_powerNeeded_71 rfl rfl ?_
        refine v_pc (pc' := 72) rfl ?_
        replace h := bind_ex h; obtain ⟨r2, hr2, h⟩ := h
        refine csN_I C tw_623 tw_103 tw_621 tw_622 pd_X7_far (Nat.le_of_ble_eq_true rfl) (Nat.le_of_ble_eq_true rfl) (As := [.int (M x6 3), .int x3]) (rest := [.ref (B + x6), .int x4]) rfl rfl (Nat.le_of_ble_eq_true rfl) (c_X7_far l D cA B aK aV M (M x6 3) x3 r2 hr2) dX5_powerNeeded_72 ?_
        refine v_aload_nR (j := 1) C dX5_powerNeeded_75 rfl rfl ?_
        refine gf_X5_24 C k0 dX5_powerNeeded_76 ?_
        replace h := bind_ex h; obtain ⟨r3, hr3, h⟩ := h
        refine cvN_I C tw_628 tw_106 tw_625 tw_627 tw_39 pd_X2_powerBy (Nat.le_of_ble_eq_true rfl) (Nat.le_of_ble_eq_true rfl) (q := x6) (kd_lt k6 (by decide)) (sh2 k6) rfl (As := [.int r2, .int (M x0 2)]) (rest := [.int x4]) rfl rfl (Nat.le_of_ble_eq_true rfl) (c_X2_powerBy l D cA B aK aV M x6 r2 (M x0 2) k6 r3 hr3) dX5_powerNeeded_79 ?_
        refine v_iload (j := 0) C dX5_powerNeeded_82 rfl ?_
        refine v_iadd C dX5_powerNeeded_84 ?_
        refine v_mmax C tw_565 tw_566 tw_118 tw_567 (Nat.le_of_ble_eq_true rfl) (Nat.le_of_ble_eq_true rfl) dX5_powerNeeded_85 ?_
        refine v_pc (pc' := 88) rfl ?_
        replace h := nm_ex h; obtain ⟨y4, ey4, h⟩ := h
        refine v_topI ey4 ?_
        refine v_istore (L' := [(4, .int y4), (7, .int s0), (0, .ref (B + x0)), (1, .int x1), (2, .int x2), (3, .int x3), (5, .int x5), (6, .ref (B + x6))]) C dX5_powerNeeded_88 (by decide) rfl ?_
        refine v_iinc (j := 6) (L' := [(5, .int (x5 + 1)), (4, .int y4), (7, .int s0), (0, .ref (B + x0)), (1, .int x1), (2, .int x2), (3, .int x3), (6, .ref (B + x6))]) C dX5_powerNeeded_90 rfl (congrArg (fun z => _ + z) ct_i_1) (by decide) rfl ?_
        refine v_goto (tgt := 18) C dX5_powerNeeded_93 (by decide) ?_
        replace h := Option.some.inj h; subst h
        refine v_sub [3, 4, 5, 6, 1, 0] rfl ?_
        exact hc18 (y4, x5 + 1) rfl
      refine v_iload (j := 5) C dX5_powerNeeded_18 rfl ?_
      refine v_iconst C dX5_powerNeeded_20 ct_i_5 ?_
      refine v_icmp_ge (tgt := 96) C dX5_powerNeeded_21 (by decide) (fun g => ?_) (fun g => ?_)
      · replace h := ite_t g h
        replace h := Option.some.inj h; subst h
        refine v_sub [4] rfl ?_
        exact he18 x4 rfl
      · replace h := ite_f g h
        refine v_aload_nR (j := 0) C dX5_powerNeeded_24 rfl rfl ?_
        refine v_iload (j := 5) C dX5_powerNeeded_25 rfl ?_
        replace h := bind_ex h; obtain ⟨r5, hr5, h⟩ := h
        refine cv_Q C tw_534 tw_105 tw_531 tw_533 tw_25 pd_X5_at (Nat.le_of_ble_eq_true rfl) (Nat.le_of_ble_eq_true rfl) (q := x0) (kd_lt k0 (by decide)) (sh5 k0) rfl (As := [.int x5]) (rest := []) rfl rfl (Nat.le_of_ble_eq_true rfl) (c_X5_at l D cA B aK aV M x0 x5 k0 r5 hr5) dX5_powerNeeded_27 ?_
        refine v_pc (pc' := 30) rfl ?_
        refine v_astoreO (L' := [(6, rv B r5), (0, .ref (B + x0)), (1, .int x1), (2, .int x2), (3, .int x3), (4, .int x4), (5, .int x5)]) C dX5_powerNeeded_30 (by decide) rfl ?_
        refine v_aloadO (j := 0) C dX5_powerNeeded_32 rfl ?_
        replace h := optC_ex h
        rcases h with ⟨rfl, h⟩ | ⟨a6, rfl, h⟩
        · refine v_eq (M' := M) (pc' := 34) (L' := [(6, .null), (0, .ref (B + x0)), (1, .int x1), (2, .int x2), (3, .int x3), (4, .int x4), (5, .int x5)]) (st' := [.null]) ?_
          refine v_ifnullN (tgt := 90) C dX5_powerNeeded_34 (by decide) ?_
          refine v_iinc (j := 6) (L' := [(5, .int (x5 + 1)), (6, .null), (0, .ref (B + x0)), (1, .int x1), (2, .int x2), (3, .int x3), (4, .int x4)]) C dX5_powerNeeded_90 rfl (congrArg (fun z => _ + z) ct_i_1) (by decide) rfl ?_
          refine v_goto (tgt := 18) C dX5_powerNeeded_93 (by decide) ?_
          replace h := Option.some.inj h; subst h
          refine v_sub [2, 3, 4, 5, 6, 0] rfl ?_
          exact hc18 (x4, x5 + 1) rfl
        · replace h := chk_some h; obtain ⟨g7, h⟩ := h
          replace g7 := kdB_eq g7
          refine v_eq (M' := M) (pc' := 34) (L' := [(6, .ref (B + a6)), (0, .ref (B + x0)), (1, .int x1), (2, .int x2), (3, .int x3), (4, .int x4), (5, .int x5)]) (st' := [.ref (B + a6)]) ?_
          refine v_ifnullS C dX5_powerNeeded_34 ?_
          refine v_iload (j := 6) C dX5_powerNeeded_37 rfl ?_
          refine v_iload_n (j := 2) C dX5_powerNeeded_39 rfl rfl ?_
          refine v_icmp_eq (tgt := 90) C dX5_powerNeeded_40 (by decide) (fun g => ?_) (fun g => ?_)
          · replace h := ite_t g h
            refine v_iinc (j := 6) (L' := [(5, .int (x5 + 1)), (6, .ref (B + a6)), (0, .ref (B + x0)), (1, .int x1), (2, .int x2), (3, .int x3), (4, .int x4)]) C dX5_powerNeeded_90 rfl (congrArg (fun z => _ + z) ct_i_1) (by decide) rfl ?_
            refine v_goto (tgt := 18) C dX5_powerNeeded_93 (by decide) ?_
            replace h := Option.some.inj h; subst h
            refine v_sub [2, 3, 4, 5, 6, 0] rfl ?_
            exact hc18 (x4, x5 + 1) rfl
          · replace h := ite_f g h
            refine v_iload (j := 6) C dX5_powerNeeded_43 rfl ?_
            refine v_iload_n (j := 3) C dX5_powerNeeded_45 rfl rfl ?_
            refine v_icmp_eq (tgt := 90) C dX5_powerNeeded_46 (by decide) (fun g => ?_) (fun g => ?_)
            · replace h := ite_t g h
              refine v_iinc (j := 6) (L' := [(5, .int (x5 + 1)), (6, .ref (B + a6)), (0, .ref (B + x0)), (1, .int x1), (2, .int x2), (3, .int x3), (4, .int x4)]) C dX5_powerNeeded_90 rfl (congrArg (fun z => _ + z) ct_i_1) (by decide) rfl ?_
              refine v_goto (tgt := 18) C dX5_powerNeeded_93 (by decide) ?_
              replace h := Option.some.inj h; subst h
              refine v_sub [2, 3, 4, 5, 6, 0] rfl ?_
              exact hc18 (x4, x5 + 1) rfl
            · replace h := ite_f g h
              refine v_pc (pc' := 49) rfl ?_
              refine v_iload (j := 6) C dX5_powerNeeded_49 rfl ?_
              refine v_iload_n (j := 2) C dX5_powerNeeded_51 rfl rfl ?_
              refine v_icmp_ge (tgt := 59) C dX5_powerNeeded_52 (by decide) (fun g => ?_) (fun g => ?_)
              · replace h := ite_t g h
                refine v_iconst C dX5_powerNeeded_59 ct_i_0 ?_
                refine v_sub [1, 2, 3, 4, 5, 6, 0] rfl ?_
                exact J60 x4 x5 a6 0 g7 h
              · replace h := ite_f g h
                refine v_iconst C dX5_powerNeeded_55 ct_i_1 ?_
                refine v_goto (tgt := 60) C dX5_powerNeeded_56 (by decide) ?_
                refine v_sub [1, 2, 3, 4, 5, 6, 0] rfl ?_
                exact J60 x4 x5 a6 1 g7 h
    replace h := bind_ex h; obtain ⟨z8, hz8, h⟩ := h
    refine v_sub [2, 3, 4, 5, 1, 0] rfl ?_
    refine loopF_walk (Pσ := fun z => V p l e (rmd 2) s m args below meth c 0 0 D cA B 8 Q M 18 [(0, .ref (B + x0)), (1, .int x1), (2, .int x2), (3, .int x3), (4, .int z.1), (5, .int z.2)] []) (Pρ := fun y => V p l e (rmd 2) s m args below meth c 0 0 D cA B 8 Q M 96 [(4, .int y)] []) ?_ FUEL (1, 0) z8 hz8 ?_
    · intro z o hb hc he
      exact LB18 z.1 z.2 o hb hc he
    · refine v_iload (j := 0) C dX5_powerNeeded_96 rfl ?_
      replace h := Option.some.inj h; subst h
      subst hQ
      exact v_iret C hr hlk dX5_powerNeeded_98
def b_X3_weigh_51 (M : Mem) (x1 : Nat) (x2 : Int32) (x3 : Int32) (x4 : Nat) (x5 : Nat) (x6 : Int32) (x7 : Int32) (x8 : Int32) (x9 : Int32) : Option ((Int32 × Mem) ⊕ Mem) :=
  if (Int32.ofNat (alen x4)) ≤ x9 then (some (.inr M)) else (if 1000 ≤ x8 then (some (.inr M)) else ((m_X7_far M x9 x7).bind fun r7 => (m_X2_powerBy M x5 r7 (M x1 2)).bind fun r8 => if r8 < x8 then (some (.inl (x9 + 1, M))) else (chk (inB x9 (alen x4)) (chk (inB x9 (alen x4)) (nm (mset M x4 x9.toNatClampNeg ((M x4 x9.toNatClampNeg) ||| (1 <<< (x6 &&& 31)))) fun M11 => some (.inl (x9 + 1, M11)))))))
def b_X3_weigh_16 (M : Mem) (x1 : Nat) (x2 : Int32) (x3 : Int32) (x4 : Nat) (x5 : Option Nat) (x6 : Int32) : Option ((Int32 × Mem) ⊕ Mem) :=
  if (M 196 1) ≤ x6 then (some (.inr M)) else (optC x5 (some (.inr M)) (fun a3 => chk (kdB a3 2) ((m_X3_landAt M x6).bind fun r5 => (m_X5_powerNeeded M x1 x2 x3 r5).bind fun r6 => (loopF (fun z => b_X3_weigh_51 z.2 x1 x2 x3 x4 a3 x6 r5 r6 z.1) FUEL (0, M)).bind fun z12 => some (.inl (x6 + 1, z12)))))
def m_X3_weigh (M : Mem) (x1 : Nat) (x2 : Int32) (x3 : Int32) (x4 : Nat) : Option Mem :=
  (m_J7_fill_53178 M x4 0).bind fun r1 => (m_X5_at r1 x1 x2).bind fun r2 => (loopF (fun z => b_X3_weigh_16 z.2 x1 x2 x3 x4 r2 z.1) FUEL (0, r1)).bind fun z13 => some z13
set_option maxHeartbeats 4000000 in
set_option maxRecDepth 100000 in
theorem c_X3_weigh (l : Launch) (D : va_G) (cA : cAt) (B : Nat) (aK aV : Nat → Nat) (M : Mem) (x1 : Nat) (x2 : Int32) (x3 : Int32) (x4 : Nat) (k1 : kd x1 = 5) (k4 : kd x4 = 9) (R : Mem) (h : m_X3_weigh M x1 x2 x3 x4 = some R) : CV l D cA B aK aV yX3_weigh cX3_weigh 10 3 [.ref (B + 196), .ref (B + x1), .int x2, .int x3, .ref (B + x4)] M R := by
  refine CV_of (by decide +kernel) (Nat.le_of_ble_eq_true rfl) ?_
  intro p e s m args below meth c C hr hlk
  have C : Cx p (rmd 3) s m args c 0 0 D cA B aK aV cX3_weigh 10 RX3 := C
  generalize hQ : MQ below _ args s 0 0 _ = Q
  refine v_eq (M' := M) (pc' := 0) (L' := [(0, .ref (B + 196)), (1, .ref (B + x1)), (2, .int x2), (3, .int x3), (4, .ref (B + x4))]) (st' := []) ?_
  unfold m_X3_weigh at h
  refine v_aloadR (j := 4) C dX3_weigh_0 rfl ?_
  refine v_iconst C dX3_weigh_2 ct_i_0 ?_
  replace h := bind_ex h; obtain ⟨r1, hr1, h⟩ := h
  refine cs_V C tw_355 tw_112 tw_702 tw_354 pd_J7_fill_53178 (Nat.le_of_ble_eq_true rfl) (Nat.le_of_ble_eq_true rfl) (As := [.ref (B + x4), .int 0]) (rest := []) rfl rfl (Nat.le_of_ble_eq_true rfl) (c_J7_fill_53178 l D cA B aK aV M x4 0 k4 r1 hr1) dX3_weigh_3 ?_
  refine v_aload_nR (j := 1) C dX3_weigh_6 rfl rfl ?_
  refine v_iload_n (j := 2) C dX3_weigh_7 rfl rfl ?_
  replace h := bind_ex h; obtain ⟨r2, hr2, h⟩ := h
  refine cvN_Q C tw_534 tw_105 tw_703 tw_533 tw_25 pd_X5_at (Nat.le_of_ble_eq_true rfl) (Nat.le_of_ble_eq_true rfl) (q := x1) (kd_lt k1 (by decide)) (sh5 k1) rfl (As := [.int x2]) (rest := []) rfl rfl (Nat.le_of_ble_eq_true rfl) (c_X5_at l D cA B aK aV r1 x1 x2 k1 r2 hr2) dX3_weigh_8 ?_
  refine v_pc (pc' := 11) rfl ?_
  refine v_astoreO (L' := [(5, rv B r2), (0, .ref (B + 196)), (1, .ref (B + x1)), (2, .int x2), (3, .int x3), (4, .ref (B + x4))]) C dX3_weigh_11 (by decide) rfl ?_
  refine v_iconst C dX3_weigh_13 ct_i_0 ?_
  refine v_istore (L' := [(6, .int 0), (5, rv B r2), (0, .ref (B + 196)), (1, .ref (B + x1)), (2, .int x2), (3, .int x3), (4, .ref (B + x4))]) C dX3_weigh_14 (by decide) (by cases r2 <;> rfl) ?_
  have LB16 : ∀ (M : Mem) (x5 : Option Nat) (x6 : Int32) (o16 : (Int32 × Mem) ⊕ Mem) (h : b_X3_weigh_16 M x1 x2 x3 x4 x5 x6 = some o16) (hc16 : ∀ z : Int32 × Mem, o16 = .inl z → V p l e (rmd 3) s m args below meth c 0 0 D cA B 10 Q z.2 16 [(0, .ref (B + 196)), (1, .ref (B + x1)), (2, .int x2), (3, .int x3), (4, .ref (B + x4)), (5, rv B x5), (6, .int z.1)] []) (he16 : ∀ z : Mem, o16 = .inr z → V p l e (rmd 3) s m args below meth c 0 0 D cA B 10 Q z 112 [] []), V p l e (rmd 3) s m args below meth c 0 0 D cA B 10 Q M 16 [(0, .ref (B + 196)), (1, .ref (B + x1)), (2, .int x2), (3, .int x3), (4, .ref (B + x4)), (5, rv B x5), (6, .int x6)] [] := by
    intro M x5 x6 o16 h hc16 he16
    unfold b_X3_weigh_16 at h
    refine v_iload (j := 6) C dX3_weigh_16 rfl ?_
    refine v_aload_nR (j := 0) C dX3_weigh_18 rfl rfl ?_
    refine gf_X3_15 C ks_196 dX3_weigh_19 ?_
    refine v_icmp_ge (tgt := 112) C dX3_weigh_22 (by decide) (fun g => ?_) (fun g => ?_)
    · replace h := ite_t g h
      replace h := Option.some.inj h; subst h
      refine v_sub [] rfl ?_
      exact he16 M rfl
    · replace h := ite_f g h
      refine v_aloadO (j := 5) C dX3_weigh_25 rfl ?_
      replace h := optC_ex h
      rcases h with ⟨rfl, h⟩ | ⟨a3, rfl, h⟩
      · refine v_eq (M' := M) (pc' := 27) (L' := [(0, .ref (B + 196)), (1, .ref (B + x1)), (2, .int x2), (3, .int x3), (4, .ref (B + x4)), (5, .null), (6, .int x6)]) (st' := [.null]) ?_
        refine v_ifnullN (tgt := 112) C dX3_weigh_27 (by decide) ?_
        replace h := Option.some.inj h; subst h
        refine v_sub [] rfl ?_
        exact he16 M rfl
      · replace h := chk_some h; obtain ⟨g4, h⟩ := h
        replace g4 := kdB_eq g4
        refine v_eq (M' := M) (pc' := 27) (L' := [(0, .ref (B + 196)), (1, .ref (B + x1)), (2, .int x2), (3, .int x3), (4, .ref (B + x4)), (5, .ref (B + a3)), (6, .int x6)]) (st' := [.ref (B + a3)]) ?_
        refine v_ifnullS C dX3_weigh_27 ?_
        refine v_aload_nR (j := 0) C dX3_weigh_30 rfl rfl ?_
        refine v_iload (j := 6) C dX3_weigh_31 rfl ?_
        replace h := bind_ex h; obtain ⟨r5, hr5, h⟩ := h
        refine cv_I C tw_611 tw_108 tw_608 tw_610 tw_36 pd_X3_landAt (Nat.le_of_ble_eq_true rfl) (Nat.le_of_ble_eq_true rfl) (q := 196) (kd_lt ks_196 (by decide)) (sh3 ks_196) rfl (As := [.int x6]) (rest := []) rfl rfl (Nat.le_of_ble_eq_true rfl) (c_X3_landAt l D cA B aK aV M x6 r5 hr5) dX3_weigh_33 ?_
        refine v_istore (L' := [(7, .int r5), (0, .ref (B + 196)), (1, .ref (B + x1)), (2, .int x2), (3, .int x3), (4, .ref (B + x4)), (5, .ref (B + a3)), (6, .int x6)]) C dX3_weigh_36 (by decide) rfl ?_
        refine v_aload_nR (j := 2) C dX3_weigh_38 rfl rfl ?_
        refine v_iload_n (j := 3) C dX3_weigh_39 rfl rfl ?_
        refine v_pc (pc' := 40) rfl ?_
        refine v_iload_n (j := 4) C dX3_weigh_40 rfl rfl ?_
        refine v_iload (j := 0) C dX3_weigh_41 rfl ?_
        replace h := bind_ex h; obtain ⟨r6, hr6, h⟩ := h
        refine cvN_I C tw_707 tw_105 tw_704 tw_706 tw_45 pd_X5_powerNeeded (Nat.le_of_ble_eq_true rfl) (Nat.le_of_ble_eq_true rfl) (q := x1) (kd_lt k1 (by decide)) (sh5 k1) rfl (As := [.int x2, .int x3, .int r5]) (rest := []) rfl rfl (Nat.le_of_ble_eq_true rfl) (c_X5_powerNeeded l D cA B aK aV M x1 x2 x3 r5 k1 r6 hr6) dX3_weigh_43 ?_
        refine v_istore (L' := [(8, .int r6), (7, .int r5), (0, .ref (B + 196)), (1, .ref (B + x1)), (2, .int x2), (3, .int x3), (4, .ref (B + x4)), (5, .ref (B + a3)), (6, .int x6)]) C dX3_weigh_46 (by decide) rfl ?_
        refine v_iconst C dX3_weigh_48 ct_i_0 ?_
        refine v_istore (L' := [(9, .int 0), (8, .int r6), (7, .int r5), (0, .ref (B + 196)), (1, .ref (B + x1)), (2, .int x2), (3, .int x3), (4, .ref (B + x4)), (5, .ref (B + a3)), (6, .int x6)]) C dX3_weigh_49 (by decide) rfl ?_
        have LB51 : ∀ (M : Mem) (x5 : Nat) (x6 : Int32) (x7 : Int32) (x8 : Int32) (k5 : kd x5 = 2) (x9 : Int32) (o51 : (Int32 × Mem) ⊕ Mem) (h : b_X3_weigh_51 M x1 x2 x3 x4 x5 x6 x7 x8 x9 = some o51) (hc51 : ∀ z : Int32 × Mem, o51 = .inl z → V p l e (rmd 3) s m args below meth c 0 0 D cA B 10 Q z.2 51 [(0, .ref (B + 196)), (1, .ref (B + x1)), (2, .int x2), (3, .int x3), (4, .ref (B + x4)), (5, .ref (B + x5)), (6, .int x6), (7, .int x7), (8, .int x8), (9, .int z.1)] []) (he51 : ∀ z : Mem, o51 = .inr z → V p l e (rmd 3) s m args below meth c 0 0 D cA B 10 Q z 106 [(0, .ref (B + 196)), (1, .ref (B + x1)), (2, .int x2), (3, .int x3), (4, .ref (B + x4)), (5, .ref (B + x5)), (6, .int x6)] []), V p l e (rmd 3) s m args below meth c 0 0 D cA B 10 Q M 51 [(0, .ref (B + 196)), (1, .ref (B + x1)), (2, .int x2), (3, .int x3), (4, .ref (B + x4)), (5, .ref (B + x5)), (6, .int x6), (7, .int x7), (8, .int x8), (9, .int x9)] [] := by
          intro M x5 x6 x7 x8 k5 x9 o51 h hc51 he51
          unfold b_X3_weigh_51 at h
          refine v_iload (j := 9) C dX3_weigh_51 rfl ?_
          refine v_aloadR (j := 4) C dX3_weigh_53 rfl ?_
          refine v_alen9 (v := Int32.ofNat (alen x4)) C k4 rfl dX3_weigh_55 ?_
          refine v_icmp_ge (tgt := 106) C dX3_weigh_56 (by decide) (fun g => ?_) (fun g => ?_)
          · replace h := ite_t g h
            replace h := Option.some.inj h; subst h
            refine v_sub [0, 1, 2, 3, 4, 5, 6] rfl ?_
            exact he51 M rfl
          · replace h := ite_f g h
            refine v_iload (j := 8) C dX3_weigh_59 rfl ?_
            refine v_sipush C dX3_weigh_61 ct_s_1000 ?_
            refine v_pc (pc' := 64) rfl ?_
            refine v_icmp_ge (tgt := 106) C dX3_weigh_64 (by decide) (fun g => ?_) (fun g => ?_)
            · replace h := ite_t g h
              replace h := Option.some.inj h; subst h
              refine v_sub [0, 1, 2, 3, 4, 5, 6] rfl ?_
              exact he51 M rfl
            · replace h := ite_f g h
              refine v_aloadR (j := 5) C dX3_weigh_67 rfl ?_
              refine v_iload (j := 9) C dX3_weigh_69 rfl ?_
              refine v_iload (j := 7) C dX3_weigh_71 rfl ?_
              replace h := bind_ex h; obtain ⟨r7, hr7, h⟩ := h
              refine csN_I C tw_623 tw_103 tw_708 tw_622 pd_X7_far (Nat.le_of_ble_eq_true rfl) (Nat.le_of_ble_eq_true rfl) (As := [.int x9, .int x7]) (rest := [.ref (B + x5)]) rfl rfl (Nat.le_of_ble_eq_true rfl) (c_X7_far l D cA B aK aV M x9 x7 r7 hr7) dX3_weigh_73 ?_
              refine v_aload_nR (j := 1) C dX3_weigh_76 rfl rfl ?_
              refine gf_X3_70 C k1 dX3_weigh_77 ?_
              refine v_pc (pc' := 80) rfl ?_
              replace h := bind_ex h; obtain ⟨r8, hr8, h⟩ := h
              refine cvN_I C tw_628 tw_106 tw_709 tw_627 tw_39 pd_X2_powerBy (Nat.le_of_ble_eq_true rfl) (Nat.le_of_ble_eq_true rfl) (q := x5) (kd_lt k5 (by decide)) (sh2 k5) rfl (As := [.int r7, .int (M x1 2)]) (rest := []) rfl rfl (Nat.le_of_ble_eq_true rfl) (c_X2_powerBy l D cA B aK aV M x5 r7 (M x1 2) k5 r8 hr8) dX3_weigh_80 ?_
              refine v_iload (j := 8) C dX3_weigh_83 rfl ?_
              refine v_icmp_lt (tgt := 100) C dX3_weigh_85 (by decide) (fun g => ?_) (fun g => ?_)
              · replace h := ite_t g h
                refine v_iinc (j := 9) (L' := [(9, .int (x9 + 1)), (0, .ref (B + 196)), (1, .ref (B + x1)), (2, .int x2), (3, .int x3), (4, .ref (B + x4)), (5, .ref (B + x5)), (6, .int x6), (7, .int x7), (8, .int x8)]) C dX3_weigh_100 rfl (congrArg (fun z => _ + z) ct_i_1) (by decide) rfl ?_
                refine v_goto (tgt := 51) C dX3_weigh_103 (by decide) ?_
                replace h := Option.some.inj h; subst h
                refine v_sub [1, 2, 3, 4, 5, 6, 7, 8, 9, 0] rfl ?_
                exact hc51 (x9 + 1, M) rfl
              · replace h := ite_f g h
                refine v_aloadR (j := 4) C dX3_weigh_88 rfl ?_
                refine v_iload (j := 9) C dX3_weigh_90 rfl ?_
                refine v_dup2 C dX3_weigh_92 rfl rfl ?_
                replace h := chk_some h; obtain ⟨g9, h⟩ := h
                refine v_iald C k4 (inB_vp g9) dX3_weigh_93 ?_
                refine v_pc (pc' := 94) rfl ?_
                refine v_iconst C dX3_weigh_94 ct_i_1 ?_
                refine v_iload (j := 6) C dX3_weigh_95 rfl ?_
                refine v_ishl C dX3_weigh_97 ?_
                refine v_ior C dX3_weigh_98 ?_
                replace h := chk_some h; obtain ⟨g10, h⟩ := h
                replace h := nm_ex h; obtain ⟨M11, eM11, h⟩ := h
                refine v_iast C k4 (inB_vp g10) dX3_weigh_99 ?_
                refine v_mem eM11 ?_
                refine v_iinc (j := 9) (L' := [(9, .int (x9 + 1)), (0, .ref (B + 196)), (1, .ref (B + x1)), (2, .int x2), (3, .int x3), (4, .ref (B + x4)), (5, .ref (B + x5)), (6, .int x6), (7, .int x7), (8, .int x8)]) C dX3_weigh_100 rfl (congrArg (fun z => _ + z) ct_i_1) (by decide) rfl ?_
                refine v_goto (tgt := 51) C dX3_weigh_103 (by decide) ?_
                replace h := Option.some.inj h; subst h
                refine v_sub [1, 2, 3, 4, 5, 6, 7, 8, 9, 0] rfl ?_
                exact hc51 (x9 + 1, M11) rfl
        replace h := bind_ex h; obtain ⟨z12, hz12, h⟩ := h
        refine v_sub [3, 4, 5, 6, 7, 8, 9, 2, 1, 0] rfl ?_
        refine loopF_walk (Pσ := fun z => V p l e (rmd 3) s m args below meth c 0 0 D cA B 10 Q z.2 51 [(0, .ref (B + 196)), (1, .ref (B + x1)), (2, .int x2), (3, .int x3), (4, .ref (B + x4)), (5, .ref (B + a3)), (6, .int x6), (7, .int r5), (8, .int r6), (9, .int z.1)] []) (Pρ := fun y => V p l e (rmd 3) s m args below meth c 0 0 D cA B 10 Q y 106 [(0, .ref (B + 196)), (1, .ref (B + x1)), (2, .int x2), (3, .int x3), (4, .ref (B + x4)), (5, .ref (B + a3)), (6, .int x6)] []) ?_ FUEL (0, M) z12 hz12 ?_
        · intro z o hb hc he
          exact LB51 z.2 a3 x6 r5 r6 g4 z.1 o hb hc he
        · refine v_iinc (j := 6) (L' := [(6, .int (x6 + 1)), (0, .ref (B + 196)), (1, .ref (B + x1)), (2, .int x2), (3, .int x3), (4, .ref (B + x4)), (5, .ref (B + a3))]) C dX3_weigh_106 rfl (congrArg (fun z => _ + z) ct_i_1) (by decide) rfl ?_
          refine v_goto (tgt := 16) C dX3_weigh_109 (by decide) ?_
          replace h := Option.some.inj h; subst h
          refine v_sub [1, 2, 3, 4, 5, 6, 0] rfl ?_
          exact hc16 (x6 + 1, z12) rfl
  replace h := bind_ex h; obtain ⟨z13, hz13, h⟩ := h
  refine v_sub [2, 3, 4, 5, 6, 1, 0] rfl ?_
  refine loopF_walk (Pσ := fun z => V p l e (rmd 3) s m args below meth c 0 0 D cA B 10 Q z.2 16 [(0, .ref (B + 196)), (1, .ref (B + x1)), (2, .int x2), (3, .int x3), (4, .ref (B + x4)), (5, rv B r2), (6, .int z.1)] []) (Pρ := fun y => V p l e (rmd 3) s m args below meth c 0 0 D cA B 10 Q y 112 [] []) ?_ FUEL (0, r1) z13 hz13 ?_
  · intro z o hb hc he
    exact LB16 z.2 r2 z.1 o hb hc he
  · replace h := Option.some.inj h; subst h
    subst hQ
    exact v_vret C hr hlk dX3_weigh_112
def m_X4_isMissing (M : Mem) (x0 : Nat) : Option Int32 :=
  if (M x0 2) = (-1) then (some 1) else (some 0)
set_option maxHeartbeats 4000000 in
set_option maxRecDepth 100000 in
theorem c_X4_isMissing (l : Launch) (D : va_G) (cA : cAt) (B : Nat) (aK aV : Nat → Nat) (M : Mem) (x0 : Nat) (k0 : kd x0 = 4) (R : Int32) (h : m_X4_isMissing M x0 = some R) : CI l D cA B aK aV yX4_isMissing cX4_isMissing 1 .boolean 0 [.ref (B + x0)] M R M := by
  refine CI_of (by decide +kernel) (Nat.le_of_ble_eq_true rfl) ?_
  intro p e s m args below meth c C hr hlk
  have C : Cx p (rmd 0) s m args c 0 0 D cA B aK aV cX4_isMissing 1 RX4 := C
  generalize hQ : MQ below _ args s 0 0 _ = Q
  refine v_eq (M' := M) (pc' := 0) (L' := [(0, .ref (B + x0))]) (st' := []) ?_
  unfold m_X4_isMissing at h
  refine v_aload_nR (j := 0) C dX4_isMissing_0 rfl rfl ?_
  refine gf_X4_15 C k0 dX4_isMissing_1 ?_
  refine v_iconst C dX4_isMissing_4 ct_i_m1 ?_
  refine v_icmp_ne (tgt := 12) C dX4_isMissing_5 (by decide) (fun g => ?_) (fun g => ?_)
  · replace h := ite_t g h
    refine v_iconst C dX4_isMissing_8 ct_i_1 ?_
    refine v_goto (tgt := 13) C dX4_isMissing_9 (by decide) ?_
    replace h := Option.some.inj h; subst h
    subst hQ
    exact v_zret C hr hlk (show narrow .boolean (.int 1) = .int 1 from rfl) dX4_isMissing_13
  · replace h := ite_f g h
    refine v_iconst C dX4_isMissing_12 ct_i_0 ?_
    replace h := Option.some.inj h; subst h
    subst hQ
    exact v_zret C hr hlk (show narrow .boolean (.int 0) = .int 0 from rfl) dX4_isMissing_13
def m_X4_begin (M : Mem) (x0 : Nat) (x1 : Int32) (x2 : Int32) : Option Mem :=
  nm (mset M x0 1 x1) fun M1 => nm (mset M1 x0 2 x2) fun M2 => (m_J7_fill_53178 M2 (x0 + 1) 0).bind fun r3 => some r3
set_option maxHeartbeats 4000000 in
set_option maxRecDepth 100000 in
theorem c_X4_begin (l : Launch) (D : va_G) (cA : cAt) (B : Nat) (aK aV : Nat → Nat) (M : Mem) (x0 : Nat) (x1 : Int32) (x2 : Int32) (k0 : kd x0 = 4) (R : Mem) (h : m_X4_begin M x0 x1 x2 = some R) : CV l D cA B aK aV yX4_begin cX4_begin 3 1 [.ref (B + x0), .int x1, .int x2] M R := by
  refine CV_of (by decide +kernel) (Nat.le_of_ble_eq_true rfl) ?_
  intro p e s m args below meth c C hr hlk
  have C : Cx p (rmd 1) s m args c 0 0 D cA B aK aV cX4_begin 3 RX4 := C
  generalize hQ : MQ below _ args s 0 0 _ = Q
  refine v_eq (M' := M) (pc' := 0) (L' := [(0, .ref (B + x0)), (1, .int x1), (2, .int x2)]) (st' := []) ?_
  unfold m_X4_begin at h
  refine v_aload_nR (j := 0) C dX4_begin_0 rfl rfl ?_
  refine v_iload_n (j := 1) C dX4_begin_1 rfl rfl ?_
  replace h := nm_ex h; obtain ⟨M1, eM1, h⟩ := h
  refine pf_X4_19 C k0 dX4_begin_2 ?_
  refine v_mem eM1 ?_
  refine v_aload_nR (j := 0) C dX4_begin_5 rfl rfl ?_
  refine v_iload_n (j := 2) C dX4_begin_6 rfl rfl ?_
  replace h := nm_ex h; obtain ⟨M2, eM2, h⟩ := h
  refine pf_X4_15 C k0 dX4_begin_7 ?_
  refine v_mem eM2 ?_
  refine v_pc (pc' := 10) rfl ?_
  refine v_aload_nR (j := 0) C dX4_begin_10 rfl rfl ?_
  refine gf_X4_9 C k0 dX4_begin_11 ?_
  refine v_iconst C dX4_begin_14 ct_i_0 ?_
  replace h := bind_ex h; obtain ⟨r3, hr3, h⟩ := h
  refine cs_V C tw_355 tw_112 tw_353 tw_354 pd_J7_fill_53178 (Nat.le_of_ble_eq_true rfl) (Nat.le_of_ble_eq_true rfl) (As := [.ref (B + (x0 + 1)), .int 0]) (rest := []) rfl rfl (Nat.le_of_ble_eq_true rfl) (c_J7_fill_53178 l D cA B aK aV M2 (x0 + 1) 0 (kdR k0) r3 hr3) dX4_begin_15 ?_
  replace h := Option.some.inj h; subst h
  subst hQ
  exact v_vret C hr hlk dX4_begin_18
