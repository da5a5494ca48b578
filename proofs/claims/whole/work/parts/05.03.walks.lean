def m_X6_kindNamed (M : Mem) : Option Int32 :=
  (m_X6_isName M 3).bind fun r1 => if r1 = 0 then ((m_X6_isName M 4).bind fun r2 => if r2 = 0 then ((m_X6_isName M 5).bind fun r3 => if r3 = 0 then ((m_X6_isName M 6).bind fun r4 => if r4 = 0 then ((m_X6_isName M 7).bind fun r5 => if r5 = 0 then (some (-1000000)) else (some 5)) else (some 4)) else (some 3)) else (some 2)) else (some 1)
set_option maxHeartbeats 4000000 in
set_option maxRecDepth 100000 in
theorem c_X6_kindNamed (l : Launch) (D : va_G) (cA : cAt) (B : Nat) (aK aV : Nat → Nat) (M : Mem) (R : Int32) (h : m_X6_kindNamed M = some R) : CI l D cA B aK aV yX6_kindNamed cX6_kindNamed 1 .int 5 [.ref (B + 2)] M R M := by
  refine CI_of (by decide +kernel) (Nat.le_of_ble_eq_true rfl) ?_
  intro p e s m args below meth c C hr hlk
  have C : Cx p (rmd 5) s m args c 0 0 D cA B aK aV cX6_kindNamed 1 RX6 := C
  generalize hQ : MQ below _ args s 0 0 _ = Q
  refine v_eq (M' := M) (pc' := 0) (L' := [(0, .ref (B + 2))]) (st' := []) ?_
  unfold m_X6_kindNamed at h
  refine v_aload_nR (j := 0) C dX6_kindNamed_0 rfl rfl ?_
  refine v_ldcS C rfl 3 (by decide) rfl dX6_kindNamed_1 ?_
  replace h := bind_ex h; obtain ⟨r1, hr1, h⟩ := h
  refine cv_I C tw_442 tw_104 tw_439 tw_441 tw_16 pd_X6_isName (Nat.le_of_ble_eq_true rfl) (Nat.le_of_ble_eq_true rfl) (q := 2) (kd_lt ks_2 (by decide)) (sh6 ks_2) rfl (As := [.ref (aK 3)]) (rest := []) rfl rfl (Nat.le_of_ble_eq_true rfl) (c_X6_isName l D cA B aK aV M 3 (by decide) r1 hr1) dX6_kindNamed_3 ?_
  refine v_if_eq (tgt := 11) C dX6_kindNamed_6 (by decide) (fun g => ?_) (fun g => ?_)
  · replace h := ite_t g h
    refine v_aload_nR (j := 0) C dX6_kindNamed_11 rfl rfl ?_
    refine v_ldcS C rfl 4 (by decide) rfl dX6_kindNamed_12 ?_
    replace h := bind_ex h; obtain ⟨r2, hr2, h⟩ := h
    refine cv_I C tw_442 tw_104 tw_439 tw_441 tw_16 pd_X6_isName (Nat.le_of_ble_eq_true rfl) (Nat.le_of_ble_eq_true rfl) (q := 2) (kd_lt ks_2 (by decide)) (sh6 ks_2) rfl (As := [.ref (aK 4)]) (rest := []) rfl rfl (Nat.le_of_ble_eq_true rfl) (c_X6_isName l D cA B aK aV M 4 (by decide) r2 hr2) dX6_kindNamed_14 ?_
    refine v_if_eq (tgt := 22) C dX6_kindNamed_17 (by decide) (fun g => ?_) (fun g => ?_)
    · replace h := ite_t g h
      refine v_aload_nR (j := 0) C dX6_kindNamed_22 rfl rfl ?_
      refine v_ldcS C rfl 5 (by decide) rfl dX6_kindNamed_23 ?_
      replace h := bind_ex h; obtain ⟨r3, hr3, h⟩ := h
      refine cv_I C tw_442 tw_104 tw_439 tw_441 tw_16 pd_X6_isName (Nat.le_of_ble_eq_true rfl) (Nat.le_of_ble_eq_true rfl) (q := 2) (kd_lt ks_2 (by decide)) (sh6 ks_2) rfl (As := [.ref (aK 5)]) (rest := []) rfl rfl (Nat.le_of_ble_eq_true rfl) (c_X6_isName l D cA B aK aV M 5 (by decide) r3 hr3) dX6_kindNamed_25 ?_
      refine v_if_eq (tgt := 33) C dX6_kindNamed_28 (by decide) (fun g => ?_) (fun g => ?_)
      · replace h := ite_t g h
        refine v_aload_nR (j := 0) C dX6_kindNamed_33 rfl rfl ?_
        refine v_ldcS C rfl 6 (by decide) rfl dX6_kindNamed_34 ?_
        replace h := bind_ex h; obtain ⟨r4, hr4, h⟩ := h
        refine cv_I C tw_442 tw_104 tw_439 tw_441 tw_16 pd_X6_isName (Nat.le_of_ble_eq_true rfl) (Nat.le_of_ble_eq_true rfl) (q := 2) (kd_lt ks_2 (by decide)) (sh6 ks_2) rfl (As := [.ref (aK 6)]) (rest := []) rfl rfl (Nat.le_of_ble_eq_true rfl) (c_X6_isName l D cA B aK aV M 6 (by decide) r4 hr4) dX6_kindNamed_36 ?_
        refine v_if_eq (tgt := 44) C dX6_kindNamed_39 (by decide) (fun g => ?_) (fun g => ?_)
        · replace h := ite_t g h
          refine v_aload_nR (j := 0) C dX6_kindNamed_44 rfl rfl ?_
          refine v_ldcS C rfl 7 (by decide) rfl dX6_kindNamed_45 ?_
          replace h := bind_ex h; obtain ⟨r5, hr5, h⟩ := h
          refine cv_I C tw_442 tw_104 tw_439 tw_441 tw_16 pd_X6_isName (Nat.le_of_ble_eq_true rfl) (Nat.le_of_ble_eq_true rfl) (q := 2) (kd_lt ks_2 (by decide)) (sh6 ks_2) rfl (As := [.ref (aK 7)]) (rest := []) rfl rfl (Nat.le_of_ble_eq_true rfl) (c_X6_isName l D cA B aK aV M 7 (by decide) r5 hr5) dX6_kindNamed_47 ?_
          refine v_if_eq (tgt := 57) C dX6_kindNamed_50 (by decide) (fun g => ?_) (fun g => ?_)
          · replace h := ite_t g h
            refine v_ldc C tw_526 dX6_kindNamed_57 ?_
            replace h := Option.some.inj h; subst h
            subst hQ
            exact v_iret C hr hlk dX6_kindNamed_59
          · replace h := ite_f g h
            refine v_iconst C dX6_kindNamed_53 ct_i_5 ?_
            refine v_goto (tgt := 59) C dX6_kindNamed_54 (by decide) ?_
            replace h := Option.some.inj h; subst h
            subst hQ
            exact v_iret C hr hlk dX6_kindNamed_59
        · replace h := ite_f g h
          refine v_iconst C dX6_kindNamed_42 ct_i_4 ?_
          replace h := Option.some.inj h; subst h
          subst hQ
          exact v_iret C hr hlk dX6_kindNamed_43
      · replace h := ite_f g h
        refine v_iconst C dX6_kindNamed_31 ct_i_3 ?_
        replace h := Option.some.inj h; subst h
        subst hQ
        exact v_iret C hr hlk dX6_kindNamed_32
    · replace h := ite_f g h
      refine v_iconst C dX6_kindNamed_20 ct_i_2 ?_
      replace h := Option.some.inj h; subst h
      subst hQ
      exact v_iret C hr hlk dX6_kindNamed_21
  · replace h := ite_f g h
    refine v_iconst C dX6_kindNamed_9 ct_i_1 ?_
    replace h := Option.some.inj h; subst h
    subst hQ
    exact v_iret C hr hlk dX6_kindNamed_10
def m_X6_readChild (M : Mem) (x1 : Nat) : Option (Int32 × Mem) :=
  (m_X6_step M).bind fun r1 => (m_X6_kindNamed r1).bind fun r2 => if r2 = (-1000000) then ((m_X6_refuse r1 1).bind fun r12 => chk (isZ r12.1) (some ((r12.1, r12.2)))) else ((m_X6_step r1).bind fun r3 => (m_X6_takeCell r3).bind fun r4 => if r4.1 = 0 then (some ((0, r4.2))) else (nm (r4.2 2 5) fun y5 => (m_X6_step r4.2).bind fun r6 => (m_X6_takeNumber r6 1 9).bind fun r7 => if r7.1 = 0 then (some ((0, r7.2))) else ((m_X5_addChild r7.2 x1 r2 y5 (r7.2 2 5)).bind fun r8 => (m_X6_step r8).bind fun r9 => (m_X6_takeEnd r9).bind fun r10 => chk (isZ r10.1) (some ((r10.1, r10.2))))))
set_option maxHeartbeats 4000000 in
set_option maxRecDepth 100000 in
theorem c_X6_readChild (l : Launch) (D : va_G) (cA : cAt) (B : Nat) (aK aV : Nat → Nat) (M : Mem) (x1 : Nat) (k1 : kd x1 = 5) (R : Int32 × Mem) (h : m_X6_readChild M x1 = some R) : CI l D cA B aK aV yX6_readChild cX6_readChild 4 .boolean 6 [.ref (B + 2), .ref (B + x1)] M R.1 R.2 := by
  refine CI_of (by decide +kernel) (Nat.le_of_ble_eq_true rfl) ?_
  intro p e s m args below meth c C hr hlk
  have C : Cx p (rmd 6) s m args c 0 0 D cA B aK aV cX6_readChild 4 RX6 := C
  generalize hQ : MQ below _ args s 0 0 _ = Q
  refine v_eq (M' := M) (pc' := 0) (L' := [(0, .ref (B + 2)), (1, .ref (B + x1))]) (st' := []) ?_
  unfold m_X6_readChild at h
  refine v_aload_nR (j := 0) C dX6_readChild_0 rfl rfl ?_
  replace h := bind_ex h; obtain ⟨r1, hr1, h⟩ := h
  refine cv_V C tw_415 tw_104 tw_412 tw_414 tw_11 pd_X6_step (Nat.le_of_ble_eq_true rfl) (Nat.le_of_ble_eq_true rfl) (q := 2) (kd_lt ks_2 (by decide)) (sh6 ks_2) rfl (As := []) (rest := []) rfl rfl (Nat.le_of_ble_eq_true rfl) (c_X6_step l D cA B aK aV M r1 hr1) dX6_readChild_1 ?_
  refine v_aload_nR (j := 0) C dX6_readChild_4 rfl rfl ?_
  replace h := bind_ex h; obtain ⟨r2, hr2, h⟩ := h
  refine cv_I C tw_520 tw_104 tw_517 tw_519 tw_23 pd_X6_kindNamed (Nat.le_of_ble_eq_true rfl) (Nat.le_of_ble_eq_true rfl) (q := 2) (kd_lt ks_2 (by decide)) (sh6 ks_2) rfl (As := []) (rest := []) rfl rfl (Nat.le_of_ble_eq_true rfl) (c_X6_kindNamed l D cA B aK aV r1 r2 hr2) dX6_readChild_5 ?_
  refine v_istore_n (L' := [(2, .int r2), (0, .ref (B + 2)), (1, .ref (B + x1))]) C dX6_readChild_8 rfl (by decide) rfl ?_
  refine v_iload_n (j := 0) C dX6_readChild_9 rfl rfl ?_
  refine v_pc (pc' := 10) rfl ?_
  refine v_ldc C tw_526 dX6_readChild_10 ?_
  refine v_icmp_ne (tgt := 21) C dX6_readChild_12 (by decide) (fun g => ?_) (fun g => ?_)
  · replace h := ite_t g h
    refine v_aload_nR (j := 1) C dX6_readChild_15 rfl rfl ?_
    refine v_iconst C dX6_readChild_16 ct_i_1 ?_
    replace h := bind_ex h; obtain ⟨r12, hr12, h⟩ := h
    refine cv_I C tw_494 tw_104 tw_491 tw_493 tw_17 pd_X6_refuse (Nat.le_of_ble_eq_true rfl) (Nat.le_of_ble_eq_true rfl) (q := 2) (kd_lt ks_2 (by decide)) (sh6 ks_2) rfl (As := [.int 1]) (rest := []) rfl rfl (Nat.le_of_ble_eq_true rfl) (c_X6_refuse l D cA B aK aV r1 1 r12 hr12) dX6_readChild_17 ?_
    replace h := chk_some h; obtain ⟨g13, h⟩ := h
    replace h := Option.some.inj h; subst h
    subst hQ
    exact v_zret C hr hlk (isZ_nar g13) dX6_readChild_20
  · replace h := ite_f g h
    refine v_aload_nR (j := 1) C dX6_readChild_21 rfl rfl ?_
    replace h := bind_ex h; obtain ⟨r3, hr3, h⟩ := h
    refine cv_V C tw_415 tw_104 tw_412 tw_414 tw_11 pd_X6_step (Nat.le_of_ble_eq_true rfl) (Nat.le_of_ble_eq_true rfl) (q := 2) (kd_lt ks_2 (by decide)) (sh6 ks_2) rfl (As := []) (rest := []) rfl rfl (Nat.le_of_ble_eq_true rfl) (c_X6_step l D cA B aK aV r1 r3 hr3) dX6_readChild_22 ?_
    refine v_aload_nR (j := 1) C dX6_readChild_25 rfl rfl ?_
    replace h := bind_ex h; obtain ⟨r4, hr4, h⟩ := h
    refine cv_I C tw_511 tw_104 tw_508 tw_510 tw_21 pd_X6_takeCell (Nat.le_of_ble_eq_true rfl) (Nat.le_of_ble_eq_true rfl) (q := 2) (kd_lt ks_2 (by decide)) (sh6 ks_2) rfl (As := []) (rest := []) rfl rfl (Nat.le_of_ble_eq_true rfl) (c_X6_takeCell l D cA B aK aV r3 r4 hr4) dX6_readChild_26 ?_
    refine v_if_ne (tgt := 34) C dX6_readChild_29 (by decide) (fun g => ?_) (fun g => ?_)
    · replace h := ite_t g h
      refine v_iconst C dX6_readChild_32 ct_i_0 ?_
      refine v_pc (pc' := 33) rfl ?_
      replace h := Option.some.inj h; subst h
      subst hQ
      exact v_zret C hr hlk (show narrow .boolean (.int 0) = .int 0 from rfl) dX6_readChild_33
    · replace h := ite_f g h
      refine v_aload_nR (j := 1) C dX6_readChild_34 rfl rfl ?_
      refine gf_X6_56 C ks_2 dX6_readChild_35 ?_
      replace h := nm_ex h; obtain ⟨y5, ey5, h⟩ := h
      refine v_topI ey5 ?_
      refine v_istore_n (L' := [(3, .int y5), (2, .int r2), (0, .ref (B + 2)), (1, .ref (B + x1))]) C dX6_readChild_38 rfl (by decide) rfl ?_
      refine v_aload_nR (j := 2) C dX6_readChild_39 rfl rfl ?_
      replace h := bind_ex h; obtain ⟨r6, hr6, h⟩ := h
      refine cv_V C tw_415 tw_104 tw_412 tw_414 tw_11 pd_X6_step (Nat.le_of_ble_eq_true rfl) (Nat.le_of_ble_eq_true rfl) (q := 2) (kd_lt ks_2 (by decide)) (sh6 ks_2) rfl (As := []) (rest := []) rfl rfl (Nat.le_of_ble_eq_true rfl) (c_X6_step l D cA B aK aV r4.2 r6 hr6) dX6_readChild_40 ?_
      refine v_aload_nR (j := 2) C dX6_readChild_43 rfl rfl ?_
      refine v_pc (pc' := 44) rfl ?_
      refine v_iconst C dX6_readChild_44 ct_i_1 ?_
      refine v_bipush C dX6_readChild_45 ct_b_9 ?_
      replace h := bind_ex h; obtain ⟨r7, hr7, h⟩ := h
      refine cv_I C tw_498 tw_104 tw_495 tw_497 tw_18 pd_X6_takeNumber (Nat.le_of_ble_eq_true rfl) (Nat.le_of_ble_eq_true rfl) (q := 2) (kd_lt ks_2 (by decide)) (sh6 ks_2) rfl (As := [.int 1, .int 9]) (rest := []) rfl rfl (Nat.le_of_ble_eq_true rfl) (c_X6_takeNumber l D cA B aK aV r6 1 9 r7 hr7) dX6_readChild_47 ?_
      refine v_if_ne (tgt := 55) C dX6_readChild_50 (by decide) (fun g => ?_) (fun g => ?_)
      · replace h := ite_t g h
        refine v_iconst C dX6_readChild_53 ct_i_0 ?_
        replace h := Option.some.inj h; subst h
        subst hQ
        exact v_zret C hr hlk (show narrow .boolean (.int 0) = .int 0 from rfl) dX6_readChild_54
      · replace h := ite_f g h
        refine v_aload_nR (j := 3) C dX6_readChild_55 rfl rfl ?_
        refine v_iload_n (j := 1) C dX6_readChild_56 rfl rfl ?_
        refine v_iload_n (j := 0) C dX6_readChild_57 rfl rfl ?_
        refine v_aload_nR (j := 2) C dX6_readChild_58 rfl rfl ?_
        refine gf_X6_56 C ks_2 dX6_readChild_59 ?_
        replace h := bind_ex h; obtain ⟨r8, hr8, h⟩ := h
        refine cvN_V C tw_530 tw_105 tw_527 tw_529 tw_24 pd_X5_addChild (Nat.le_of_ble_eq_true rfl) (Nat.le_of_ble_eq_true rfl) (q := x1) (kd_lt k1 (by decide)) (sh5 k1) rfl (As := [.int r2, .int y5, .int (r7.2 2 5)]) (rest := []) rfl rfl (Nat.le_of_ble_eq_true rfl) (c_X5_addChild l D cA B aK aV r7.2 x1 r2 y5 (r7.2 2 5) k1 r8 hr8) dX6_readChild_62 ?_
        refine v_pc (pc' := 65) rfl ?_
        refine v_aload_nR (j := 2) C dX6_readChild_65 rfl rfl ?_
        replace h := bind_ex h; obtain ⟨r9, hr9, h⟩ := h
        refine cv_V C tw_415 tw_104 tw_412 tw_414 tw_11 pd_X6_step (Nat.le_of_ble_eq_true rfl) (Nat.le_of_ble_eq_true rfl) (q := 2) (kd_lt ks_2 (by decide)) (sh6 ks_2) rfl (As := []) (rest := []) rfl rfl (Nat.le_of_ble_eq_true rfl) (c_X6_step l D cA B aK aV r8 r9 hr9) dX6_readChild_66 ?_
        refine v_aload_nR (j := 2) C dX6_readChild_69 rfl rfl ?_
        replace h := bind_ex h; obtain ⟨r10, hr10, h⟩ := h
        refine cv_I C tw_502 tw_104 tw_499 tw_501 tw_19 pd_X6_takeEnd (Nat.le_of_ble_eq_true rfl) (Nat.le_of_ble_eq_true rfl) (q := 2) (kd_lt ks_2 (by decide)) (sh6 ks_2) rfl (As := []) (rest := []) rfl rfl (Nat.le_of_ble_eq_true rfl) (c_X6_takeEnd l D cA B aK aV r9 r10 hr10) dX6_readChild_70 ?_
        replace h := chk_some h; obtain ⟨g11, h⟩ := h
        replace h := Option.some.inj h; subst h
        subst hQ
        exact v_zret C hr hlk (isZ_nar g11) dX6_readChild_73
def b_X6_read_21 (M : Mem) (x1 : Nat) (x2 : Int32) : Option ((Int32 × Mem) ⊕ (Mem ⊕ (Int32 × Mem))) :=
  (m_X6_isName M 1).bind fun r4 => if r4 = 0 then (some (.inr (.inl M))) else (if x2 < 6 then ((m_X6_readDrain M x1).bind fun r5 => if r5.1 = 0 then (some (.inr (.inr ((0, r5.2))))) else (some (.inl (x2 + 1, r5.2)))) else ((m_X6_refuse M 3).bind fun r6 => chk (isZ r6.1) (some (.inr (.inr ((r6.1, r6.2)))))))
def b_X6_read_60 (M : Mem) (x1 : Nat) (x2 : Int32) : Option ((Int32 × Mem) ⊕ (Mem ⊕ (Int32 × Mem))) :=
  (m_X6_isName M 2).bind fun r10 => if r10 = 0 then (some (.inr (.inl M))) else (if x2 < 5 then ((m_X6_readChild M x1).bind fun r11 => if r11.1 = 0 then (some (.inr (.inr ((0, r11.2))))) else (some (.inl (x2 + 1, r11.2)))) else ((m_X6_refuse M 3).bind fun r12 => chk (isZ r12.1) (some (.inr (.inr ((r12.1, r12.2)))))))
def m_X6_read (M : Mem) (x1 : Nat) : Option (Int32 × Mem) :=
  nm (mset M 2 3 0) fun M1 => (m_X6_step M1).bind fun r2 => (m_X6_readLaw r2 x1).bind fun r3 => if r3.1 = 0 then (some ((0, r3.2))) else ((loopF (fun z => b_X6_read_21 z.2 x1 z.1) FUEL (0, r3.2)).bind fun z8 => sumC z8 (fun z9 => (loopF (fun z => b_X6_read_60 z.2 x1 z.1) FUEL (0, z9)).bind fun z14 => sumC z14 (fun z15 => if (z15 2 4) = 0 then (some ((1, z15))) else ((m_X6_refuse z15 1).bind fun r16 => if r16.1 = 0 then (some ((0, r16.2))) else (some ((1, r16.2))))) (fun z => some z)) (fun z => some z))
set_option maxHeartbeats 4000000 in
set_option maxRecDepth 100000 in
theorem c_X6_read (l : Launch) (D : va_G) (cA : cAt) (B : Nat) (aK aV : Nat → Nat) (M : Mem) (x1 : Nat) (k1 : kd x1 = 5) (R : Int32 × Mem) (h : m_X6_read M x1 = some R) : CI l D cA B aK aV yX6_read cX6_read 3 .boolean 7 [.ref (B + 2), .ref (B + x1)] M R.1 R.2 := by
  refine CI_of (by decide +kernel) (Nat.le_of_ble_eq_true rfl) ?_
  intro p e s m args below meth c C hr hlk
  have C : Cx p (rmd 7) s m args c 0 0 D cA B aK aV cX6_read 3 RX6 := C
  generalize hQ : MQ below _ args s 0 0 _ = Q
  refine v_eq (M' := M) (pc' := 0) (L' := [(0, .ref (B + 2)), (1, .ref (B + x1))]) (st' := []) ?_
  unfold m_X6_read at h
  refine v_aload_nR (j := 0) C dX6_read_0 rfl rfl ?_
  refine v_iconst C dX6_read_1 ct_i_0 ?_
  replace h := nm_ex h; obtain ⟨M1, eM1, h⟩ := h
  refine pf_X6_19 C ks_2 dX6_read_2 ?_
  refine v_mem eM1 ?_
  refine v_aload_nR (j := 0) C dX6_read_5 rfl rfl ?_
  replace h := bind_ex h; obtain ⟨r2, hr2, h⟩ := h
  refine cv_V C tw_415 tw_104 tw_412 tw_414 tw_11 pd_X6_step (Nat.le_of_ble_eq_true rfl) (Nat.le_of_ble_eq_true rfl) (q := 2) (kd_lt ks_2 (by decide)) (sh6 ks_2) rfl (As := []) (rest := []) rfl rfl (Nat.le_of_ble_eq_true rfl) (c_X6_step l D cA B aK aV M1 r2 hr2) dX6_read_6 ?_
  refine v_aload_nR (j := 0) C dX6_read_9 rfl rfl ?_
  refine v_pc (pc' := 10) rfl ?_
  refine v_aload_nR (j := 1) C dX6_read_10 rfl rfl ?_
  replace h := bind_ex h; obtain ⟨r3, hr3, h⟩ := h
  refine cv_I C tw_437 tw_104 tw_434 tw_436 tw_15 pd_X6_readLaw (Nat.le_of_ble_eq_true rfl) (Nat.le_of_ble_eq_true rfl) (q := 2) (kd_lt ks_2 (by decide)) (sh6 ks_2) rfl (As := [.ref (B + x1)]) (rest := []) rfl rfl (Nat.le_of_ble_eq_true rfl) (c_X6_readLaw l D cA B aK aV r2 x1 k1 r3 hr3) dX6_read_11 ?_
  refine v_if_ne (tgt := 19) C dX6_read_14 (by decide) (fun g => ?_) (fun g => ?_)
  · replace h := ite_t g h
    refine v_iconst C dX6_read_17 ct_i_0 ?_
    replace h := Option.some.inj h; subst h
    subst hQ
    exact v_zret C hr hlk (show narrow .boolean (.int 0) = .int 0 from rfl) dX6_read_18
  · replace h := ite_f g h
    refine v_iconst C dX6_read_19 ct_i_0 ?_
    refine v_istore_n (L' := [(2, .int 0), (0, .ref (B + 2)), (1, .ref (B + x1))]) C dX6_read_20 rfl (by decide) rfl ?_
    have LB21 : ∀ (M : Mem) (x2 : Int32) (o21 : (Int32 × Mem) ⊕ (Mem ⊕ (Int32 × Mem))) (h : b_X6_read_21 M x1 x2 = some o21) (hc21 : ∀ z : Int32 × Mem, o21 = .inl z → V p l e (rmd 7) s m args below meth c 0 0 D cA B 3 Q z.2 21 [(0, .ref (B + 2)), (1, .ref (B + x1)), (2, .int z.1)] []) (he21 : ∀ z : Mem, o21 = .inr (.inl z) → V p l e (rmd 7) s m args below meth c 0 0 D cA B 3 Q z 58 [(0, .ref (B + 2)), (1, .ref (B + x1))] []) (hr21 : ∀ z : Int32 × Mem, o21 = .inr (.inr z) → z = R), V p l e (rmd 7) s m args below meth c 0 0 D cA B 3 Q M 21 [(0, .ref (B + 2)), (1, .ref (B + x1)), (2, .int x2)] [] := by
      intro M x2 o21 h hc21 he21 hr21
      unfold b_X6_read_21 at h
      refine v_aload_nR (j := 0) C dX6_read_21 rfl rfl ?_
      refine v_ldcS C rfl 1 (by decide) rfl dX6_read_22 ?_
      replace h := bind_ex h; obtain ⟨r4, hr4, h⟩ := h
      refine cv_I C tw_442 tw_104 tw_439 tw_441 tw_16 pd_X6_isName (Nat.le_of_ble_eq_true rfl) (Nat.le_of_ble_eq_true rfl) (q := 2) (kd_lt ks_2 (by decide)) (sh6 ks_2) rfl (As := [.ref (aK 1)]) (rest := []) rfl rfl (Nat.le_of_ble_eq_true rfl) (c_X6_isName l D cA B aK aV M 1 (by decide) r4 hr4) dX6_read_24 ?_
      refine v_if_eq (tgt := 58) C dX6_read_27 (by decide) (fun g => ?_) (fun g => ?_)
      · replace h := ite_t g h
        replace h := Option.some.inj h; subst h
        refine v_sub [0, 1] rfl ?_
        exact he21 M rfl
      · replace h := ite_f g h
        refine v_iload_n (j := 2) C dX6_read_30 rfl rfl ?_
        refine v_bipush C dX6_read_31 ct_b_6 ?_
        refine v_pc (pc' := 33) rfl ?_
        refine v_icmp_lt (tgt := 42) C dX6_read_33 (by decide) (fun g => ?_) (fun g => ?_)
        · replace h := ite_t g h
          refine v_aload_nR (j := 0) C dX6_read_42 rfl rfl ?_
          refine v_aload_nR (j := 1) C dX6_read_43 rfl rfl ?_
          replace h := bind_ex h; obtain ⟨r5, hr5, h⟩ := h
          refine cv_I C tw_507 tw_104 tw_504 tw_506 tw_20 pd_X6_readDrain (Nat.le_of_ble_eq_true rfl) (Nat.le_of_ble_eq_true rfl) (q := 2) (kd_lt ks_2 (by decide)) (sh6 ks_2) rfl (As := [.ref (B + x1)]) (rest := []) rfl rfl (Nat.le_of_ble_eq_true rfl) (c_X6_readDrain l D cA B aK aV M x1 k1 r5 hr5) dX6_read_44 ?_
          refine v_if_ne (tgt := 52) C dX6_read_47 (by decide) (fun g => ?_) (fun g => ?_)
          · replace h := ite_t g h
            refine v_iconst C dX6_read_50 ct_i_0 ?_
            replace h := Option.some.inj h; subst h
            have hR := hr21 _ rfl
            subst hR
            subst hQ
            exact v_zret C hr hlk (show narrow .boolean (.int 0) = .int 0 from rfl) dX6_read_51
          · replace h := ite_f g h
            refine v_iinc (j := 2) (L' := [(2, .int (x2 + 1)), (0, .ref (B + 2)), (1, .ref (B + x1))]) C dX6_read_52 rfl (congrArg (fun z => _ + z) ct_i_1) (by decide) rfl ?_
            refine v_goto (tgt := 21) C dX6_read_55 (by decide) ?_
            replace h := Option.some.inj h; subst h
            refine v_sub [1, 2, 0] rfl ?_
            exact hc21 (x2 + 1, r5.2) rfl
        · replace h := ite_f g h
          refine v_aload_nR (j := 0) C dX6_read_36 rfl rfl ?_
          refine v_iconst C dX6_read_37 ct_i_3 ?_
          replace h := bind_ex h; obtain ⟨r6, hr6, h⟩ := h
          refine cv_I C tw_494 tw_104 tw_491 tw_493 tw_17 pd_X6_refuse (Nat.le_of_ble_eq_true rfl) (Nat.le_of_ble_eq_true rfl) (q := 2) (kd_lt ks_2 (by decide)) (sh6 ks_2) rfl (As := [.int 3]) (rest := []) rfl rfl (Nat.le_of_ble_eq_true rfl) (c_X6_refuse l D cA B aK aV M 3 r6 hr6) dX6_read_38 ?_
          replace h := chk_some h; obtain ⟨g7, h⟩ := h
          replace h := Option.some.inj h; subst h
          have hR := hr21 _ rfl
          subst hR
          subst hQ
          exact v_zret C hr hlk (isZ_nar g7) dX6_read_41
    replace h := bind_ex h; obtain ⟨z8, hz8, h⟩ := h
    refine v_sub [1, 2, 0] rfl ?_
    refine loopF_walk (Pσ := fun z => V p l e (rmd 7) s m args below meth c 0 0 D cA B 3 Q z.2 21 [(0, .ref (B + 2)), (1, .ref (B + x1)), (2, .int z.1)] []) (Pρ := fun r => (∀ y : Mem, r = .inl y → V p l e (rmd 7) s m args below meth c 0 0 D cA B 3 Q y 58 [(0, .ref (B + 2)), (1, .ref (B + x1))] []) ∧ (∀ y : Int32 × Mem, r = .inr y → y = R)) ?_ FUEL (0, r3.2) z8 hz8 ?_
    · intro z o hb hc he
      exact LB21 z.2 z.1 o hb hc (fun y e => (he _ e).1 y rfl) (fun y e => (he _ e).2 y rfl)
    · refine ⟨fun z9 e => ?_, fun y e => ?_⟩
      · subst e
        replace h := sumC_l h
        refine v_iconst C dX6_read_58 ct_i_0 ?_
        refine v_istore_n (L' := [(2, .int 0), (0, .ref (B + 2)), (1, .ref (B + x1))]) C dX6_read_59 rfl (by decide) rfl ?_
        have LB60 : ∀ (M : Mem) (x2 : Int32) (o60 : (Int32 × Mem) ⊕ (Mem ⊕ (Int32 × Mem))) (h : b_X6_read_60 M x1 x2 = some o60) (hc60 : ∀ z : Int32 × Mem, o60 = .inl z → V p l e (rmd 7) s m args below meth c 0 0 D cA B 3 Q z.2 60 [(0, .ref (B + 2)), (1, .ref (B + x1)), (2, .int z.1)] []) (he60 : ∀ z : Mem, o60 = .inr (.inl z) → V p l e (rmd 7) s m args below meth c 0 0 D cA B 3 Q z 96 [(0, .ref (B + 2))] []) (hr60 : ∀ z : Int32 × Mem, o60 = .inr (.inr z) → z = R), V p l e (rmd 7) s m args below meth c 0 0 D cA B 3 Q M 60 [(0, .ref (B + 2)), (1, .ref (B + x1)), (2, .int x2)] [] := by
          intro M x2 o60 h hc60 he60 hr60
          unfold b_X6_read_60 at h
          refine v_aload_nR (j := 0) C dX6_read_60 rfl rfl ?_
          refine v_ldcS C rfl 2 (by decide) rfl dX6_read_61 ?_
          replace h := bind_ex h; obtain ⟨r10, hr10, h⟩ := h
          refine cv_I C tw_442 tw_104 tw_439 tw_441 tw_16 pd_X6_isName (Nat.le_of_ble_eq_true rfl) (Nat.le_of_ble_eq_true rfl) (q := 2) (kd_lt ks_2 (by decide)) (sh6 ks_2) rfl (As := [.ref (aK 2)]) (rest := []) rfl rfl (Nat.le_of_ble_eq_true rfl) (c_X6_isName l D cA B aK aV M 2 (by decide) r10 hr10) dX6_read_63 ?_
          refine v_if_eq (tgt := 96) C dX6_read_66 (by decide) (fun g => ?_) (fun g => ?_)
          · replace h := ite_t g h
            replace h := Option.some.inj h; subst h
            refine v_sub [0] rfl ?_
            exact he60 M rfl
          · replace h := ite_f g h
            refine v_iload_n (j := 2) C dX6_read_69 rfl rfl ?_
            refine v_iconst C dX6_read_70 ct_i_5 ?_
            refine v_pc (pc' := 71) rfl ?_
            refine v_icmp_lt (tgt := 80) C dX6_read_71 (by decide) (fun g => ?_) (fun g => ?_)
            · replace h := ite_t g h
              refine v_aload_nR (j := 0) C dX6_read_80 rfl rfl ?_
              refine v_aload_nR (j := 1) C dX6_read_81 rfl rfl ?_
              replace h := bind_ex h; obtain ⟨r11, hr11, h⟩ := h
              refine cv_I C tw_516 tw_104 tw_513 tw_515 tw_22 pd_X6_readChild (Nat.le_of_ble_eq_true rfl) (Nat.le_of_ble_eq_true rfl) (q := 2) (kd_lt ks_2 (by decide)) (sh6 ks_2) rfl (As := [.ref (B + x1)]) (rest := []) rfl rfl (Nat.le_of_ble_eq_true rfl) (c_X6_readChild l D cA B aK aV M x1 k1 r11 hr11) dX6_read_82 ?_
              refine v_if_ne (tgt := 90) C dX6_read_85 (by decide) (fun g => ?_) (fun g => ?_)
              · replace h := ite_t g h
                refine v_iconst C dX6_read_88 ct_i_0 ?_
                replace h := Option.some.inj h; subst h
                have hR := hr60 _ rfl
                subst hR
                subst hQ
                exact v_zret C hr hlk (show narrow .boolean (.int 0) = .int 0 from rfl) dX6_read_89
              · replace h := ite_f g h
                refine v_iinc (j := 2) (L' := [(2, .int (x2 + 1)), (0, .ref (B + 2)), (1, .ref (B + x1))]) C dX6_read_90 rfl (congrArg (fun z => _ + z) ct_i_1) (by decide) rfl ?_
                refine v_goto (tgt := 60) C dX6_read_93 (by decide) ?_
                replace h := Option.some.inj h; subst h
                refine v_sub [1, 2, 0] rfl ?_
                exact hc60 (x2 + 1, r11.2) rfl
            · replace h := ite_f g h
              refine v_aload_nR (j := 0) C dX6_read_74 rfl rfl ?_
              refine v_iconst C dX6_read_75 ct_i_3 ?_
              replace h := bind_ex h; obtain ⟨r12, hr12, h⟩ := h
              refine cv_I C tw_494 tw_104 tw_491 tw_493 tw_17 pd_X6_refuse (Nat.le_of_ble_eq_true rfl) (Nat.le_of_ble_eq_true rfl) (q := 2) (kd_lt ks_2 (by decide)) (sh6 ks_2) rfl (As := [.int 3]) (rest := []) rfl rfl (Nat.le_of_ble_eq_true rfl) (c_X6_refuse l D cA B aK aV M 3 r12 hr12) dX6_read_76 ?_
              replace h := chk_some h; obtain ⟨g13, h⟩ := h
              replace h := Option.some.inj h; subst h
              have hR := hr60 _ rfl
              subst hR
              subst hQ
              exact v_zret C hr hlk (isZ_nar g13) dX6_read_79
        replace h := bind_ex h; obtain ⟨z14, hz14, h⟩ := h
        refine v_sub [1, 2, 0] rfl ?_
        refine loopF_walk (Pσ := fun z => V p l e (rmd 7) s m args below meth c 0 0 D cA B 3 Q z.2 60 [(0, .ref (B + 2)), (1, .ref (B + x1)), (2, .int z.1)] []) (Pρ := fun r => (∀ y : Mem, r = .inl y → V p l e (rmd 7) s m args below meth c 0 0 D cA B 3 Q y 96 [(0, .ref (B + 2))] []) ∧ (∀ y : Int32 × Mem, r = .inr y → y = R)) ?_ FUEL (0, z9) z14 hz14 ?_
        · intro z o hb hc he
          exact LB60 z.2 z.1 o hb hc (fun y e => (he _ e).1 y rfl) (fun y e => (he _ e).2 y rfl)
        · refine ⟨fun z15 e => ?_, fun y e => ?_⟩
          · subst e
            replace h := sumC_l h
            refine v_aload_nR (j := 0) C dX6_read_96 rfl rfl ?_
            refine gf_X6_47 C ks_2 dX6_read_97 ?_
            refine v_if_eq (tgt := 111) C dX6_read_100 (by decide) (fun g => ?_) (fun g => ?_)
            · replace h := ite_t g h
              refine v_iconst C dX6_read_111 ct_i_1 ?_
              refine v_goto (tgt := 116) C dX6_read_112 (by decide) ?_
              replace h := Option.some.inj h; subst h
              subst hQ
              exact v_zret C hr hlk (show narrow .boolean (.int 1) = .int 1 from rfl) dX6_read_116
            · replace h := ite_f g h
              refine v_aload_nR (j := 0) C dX6_read_103 rfl rfl ?_
              refine v_iconst C dX6_read_104 ct_i_1 ?_
              replace h := bind_ex h; obtain ⟨r16, hr16, h⟩ := h
              refine cv_I C tw_494 tw_104 tw_491 tw_493 tw_17 pd_X6_refuse (Nat.le_of_ble_eq_true rfl) (Nat.le_of_ble_eq_true rfl) (q := 2) (kd_lt ks_2 (by decide)) (sh6 ks_2) rfl (As := [.int 1]) (rest := []) rfl rfl (Nat.le_of_ble_eq_true rfl) (c_X6_refuse l D cA B aK aV z15 1 r16 hr16) dX6_read_105 ?_
              refine v_pc (pc' := 108) rfl ?_
              refine v_if_eq (tgt := 115) C dX6_read_108 (by decide) (fun g => ?_) (fun g => ?_)
              · replace h := ite_t g h
                refine v_iconst C dX6_read_115 ct_i_0 ?_
                replace h := Option.some.inj h; subst h
                subst hQ
                exact v_zret C hr hlk (show narrow .boolean (.int 0) = .int 0 from rfl) dX6_read_116
              · replace h := ite_f g h
                refine v_iconst C dX6_read_111 ct_i_1 ?_
                refine v_goto (tgt := 116) C dX6_read_112 (by decide) ?_
                replace h := Option.some.inj h; subst h
                subst hQ
                exact v_zret C hr hlk (show narrow .boolean (.int 1) = .int 1 from rfl) dX6_read_116
          · subst e
            replace h := sumC_r h
            exact Option.some.inj h
      · subst e
        replace h := sumC_r h
        exact Option.some.inj h
def m_X7_rowAt (M : Mem) (x1 : Int32) : Option (Option Nat) :=
  if x1 < 0 then (some none) else (if 8 ≤ x1 then (some none) else (chk (inB x1 8) (some (some (204 + 2 * x1.toNatClampNeg)))))
set_option maxHeartbeats 4000000 in
set_option maxRecDepth 100000 in
theorem c_X7_rowAt (l : Launch) (D : va_G) (cA : cAt) (B : Nat) (aK aV : Nat → Nat) (M : Mem) (x1 : Int32) (R : Option Nat) (h : m_X7_rowAt M x1 = some R) : CQ l D cA B aK aV yX7_rowAt cX7_rowAt 2 (.object "HotPennies$Row") 0 [.ref (B + 0), .int x1] M R M := by
  refine CQ_of (by decide +kernel) (Nat.le_of_ble_eq_true rfl) ?_
  intro p e s m args below meth c C hr hlk
  have C : Cx p (rmd 0) s m args c 0 0 D cA B aK aV cX7_rowAt 2 RX7 := C
  generalize hQ : MQ below _ args s 0 0 _ = Q
  refine v_eq (M' := M) (pc' := 0) (L' := [(0, .ref (B + 0)), (1, .int x1)]) (st' := []) ?_
  unfold m_X7_rowAt at h
  refine v_iload_n (j := 1) C dX7_rowAt_0 rfl rfl ?_
  refine v_if_lt (tgt := 22) C dX7_rowAt_1 (by decide) (fun g => ?_) (fun g => ?_)
  · replace h := ite_t g h
    refine v_null C dX7_rowAt_22 ?_
    replace h := Option.some.inj h; subst h
    subst hQ
    exact v_aret C hr hlk (Or.inl ⟨_, rfl⟩) dX7_rowAt_23
  · replace h := ite_f g h
    refine v_iload_n (j := 1) C dX7_rowAt_4 rfl rfl ?_
    refine v_aload_nR (j := 0) C dX7_rowAt_5 rfl rfl ?_
    refine gf_X7_11 C ks_0 dX7_rowAt_6 ?_
    refine v_alenQ12 C ks_1 dX7_rowAt_9 ?_
    refine v_pc (pc' := 10) rfl ?_
    refine v_icmp_ge (tgt := 22) C dX7_rowAt_10 (by decide) (fun g => ?_) (fun g => ?_)
    · replace h := ite_t g h
      refine v_null C dX7_rowAt_22 ?_
      replace h := Option.some.inj h; subst h
      subst hQ
      exact v_aret C hr hlk (Or.inl ⟨_, rfl⟩) dX7_rowAt_23
    · replace h := ite_f g h
      refine v_aload_nR (j := 0) C dX7_rowAt_13 rfl rfl ?_
      refine gf_X7_11 C ks_0 dX7_rowAt_14 ?_
      refine v_iload_n (j := 1) C dX7_rowAt_17 rfl rfl ?_
      replace h := chk_some h; obtain ⟨g1, h⟩ := h
      refine v_aldR C (inB_vp g1) dX7_rowAt_18 ?_
      refine v_goto (tgt := 23) C dX7_rowAt_19 (by decide) ?_
      replace h := Option.some.inj h; subst h
      subst hQ
      exact v_aret C hr hlk (Or.inl ⟨_, rfl⟩) dX7_rowAt_23
def m_X7_found (M : Mem) (x1 : Int32) : Option (Int32 × Mem) :=
  nm (mset M 0 14 x1) fun M1 => some (((-1000010) - x1, M1))
set_option maxHeartbeats 4000000 in
set_option maxRecDepth 100000 in
theorem c_X7_found (l : Launch) (D : va_G) (cA : cAt) (B : Nat) (aK aV : Nat → Nat) (M : Mem) (x1 : Int32) (R : Int32 × Mem) (h : m_X7_found M x1 = some R) : CI l D cA B aK aV yX7_found cX7_found 2 .int 0 [.ref (B + 0), .int x1] M R.1 R.2 := by
  refine CI_of (by decide +kernel) (Nat.le_of_ble_eq_true rfl) ?_
  intro p e s m args below meth c C hr hlk
  have C : Cx p (rmd 0) s m args c 0 0 D cA B aK aV cX7_found 2 RX7 := C
  generalize hQ : MQ below _ args s 0 0 _ = Q
  refine v_eq (M' := M) (pc' := 0) (L' := [(0, .ref (B + 0)), (1, .int x1)]) (st' := []) ?_
  unfold m_X7_found at h
  refine v_aload_nR (j := 0) C dX7_found_0 rfl rfl ?_
  refine v_iload_n (j := 1) C dX7_found_1 rfl rfl ?_
  replace h := nm_ex h; obtain ⟨M1, eM1, h⟩ := h
  refine pf_X7_302 C ks_0 dX7_found_2 ?_
  refine v_mem eM1 ?_
  refine v_ldcw C tw_348 dX7_found_5 ?_
  refine v_iload_n (j := 1) C dX7_found_8 rfl rfl ?_
  refine v_isub C dX7_found_9 ?_
  refine v_pc (pc' := 10) rfl ?_
  replace h := Option.some.inj h; subst h
  subst hQ
  exact v_iret C hr hlk dX7_found_10
def m_X7_nothingFound (M : Mem) (x1 : Int32) : Option (Int32 × Mem) :=
  nm (mset M 0 14 0) fun M1 => some ((x1, M1))
set_option maxHeartbeats 4000000 in
set_option maxRecDepth 100000 in
theorem c_X7_nothingFound (l : Launch) (D : va_G) (cA : cAt) (B : Nat) (aK aV : Nat → Nat) (M : Mem) (x1 : Int32) (R : Int32 × Mem) (h : m_X7_nothingFound M x1 = some R) : CI l D cA B aK aV yX7_nothingFound cX7_nothingFound 2 .int 0 [.ref (B + 0), .int x1] M R.1 R.2 := by
  refine CI_of (by decide +kernel) (Nat.le_of_ble_eq_true rfl) ?_
  intro p e s m args below meth c C hr hlk
  have C : Cx p (rmd 0) s m args c 0 0 D cA B aK aV cX7_nothingFound 2 RX7 := C
  generalize hQ : MQ below _ args s 0 0 _ = Q
  refine v_eq (M' := M) (pc' := 0) (L' := [(0, .ref (B + 0)), (1, .int x1)]) (st' := []) ?_
  unfold m_X7_nothingFound at h
  refine v_aload_nR (j := 0) C dX7_nothingFound_0 rfl rfl ?_
  refine v_iconst C dX7_nothingFound_1 ct_i_0 ?_
  replace h := nm_ex h; obtain ⟨M1, eM1, h⟩ := h
  refine pf_X7_302 C ks_0 dX7_nothingFound_2 ?_
  refine v_mem eM1 ?_
  refine v_iload_n (j := 1) C dX7_nothingFound_5 rfl rfl ?_
  replace h := Option.some.inj h; subst h
  subst hQ
  exact v_iret C hr hlk dX7_nothingFound_6
def m_X7_row (M : Mem) (x1 : Int32) (x2 : Int32) (x3 : Int32) : Option (Int32 × Mem) :=
  (m_X7_rowAt M x1).bind fun r1 => optC r1 (some (((-1000001), M))) (fun a2 => chk (kdB a2 4) (if x2 < 0 then (some (((-1000001), M))) else (if 2 < x2 then (some (((-1000001), M))) else (if x3 ≤ 40 then (if 0 ≤ x3 then ((m_X4_begin M a2 x2 x3).bind fun r4 => (m_X7_nothingFound r4 x3).bind fun r5 => some ((r5.1, r5.2))) else ((m_X7_found M 4).bind fun r6 => some ((r6.1, r6.2)))) else (some (((-1000001), M)))))))
set_option maxHeartbeats 4000000 in
set_option maxRecDepth 100000 in
theorem c_X7_row (l : Launch) (D : va_G) (cA : cAt) (B : Nat) (aK aV : Nat → Nat) (M : Mem) (x1 : Int32) (x2 : Int32) (x3 : Int32) (R : Int32 × Mem) (h : m_X7_row M x1 x2 x3 = some R) : CI l D cA B aK aV yX7_row cX7_row 5 .int 2 [.ref (B + 0), .int x1, .int x2, .int x3] M R.1 R.2 := by
  refine CI_of (by decide +kernel) (Nat.le_of_ble_eq_true rfl) ?_
  intro p e s m args below meth c C hr hlk
  have C : Cx p (rmd 2) s m args c 0 0 D cA B aK aV cX7_row 5 RX7 := C
  generalize hQ : MQ below _ args s 0 0 _ = Q
  refine v_eq (M' := M) (pc' := 0) (L' := [(0, .ref (B + 0)), (1, .int x1), (2, .int x2), (3, .int x3)]) (st' := []) ?_
  unfold m_X7_row at h
  refine v_aload_nR (j := 0) C dX7_row_0 rfl rfl ?_
  refine v_iload_n (j := 1) C dX7_row_1 rfl rfl ?_
  replace h := bind_ex h; obtain ⟨r1, hr1, h⟩ := h
  refine cv_Q C tw_342 tw_103 tw_339 tw_341 tw_0 pd_X7_rowAt (Nat.le_of_ble_eq_true rfl) (Nat.le_of_ble_eq_true rfl) (q := 0) (kd_lt ks_0 (by decide)) (sh7 ks_0) rfl (As := [.int x1]) (rest := []) rfl rfl (Nat.le_of_ble_eq_true rfl) (c_X7_rowAt l D cA B aK aV M x1 r1 hr1) dX7_row_2 ?_
  refine v_astoreO (L' := [(4, rv B r1), (0, .ref (B + 0)), (1, .int x1), (2, .int x2), (3, .int x3)]) C dX7_row_5 (by decide) rfl ?_
  refine v_aloadO (j := 0) C dX7_row_7 rfl ?_
  replace h := optC_ex h
  rcases h with ⟨rfl, h⟩ | ⟨a2, rfl, h⟩
  · refine v_eq (M' := M) (pc' := 9) (L' := [(4, .null), (0, .ref (B + 0)), (1, .int x1), (2, .int x2), (3, .int x3)]) (st' := [.null]) ?_
    refine v_ifnullN (tgt := 27) C dX7_row_9 (by decide) ?_
    refine v_ldc C tw_343 dX7_row_27 ?_
    replace h := Option.some.inj h; subst h
    subst hQ
    exact v_iret C hr hlk dX7_row_29
  · replace h := chk_some h; obtain ⟨g3, h⟩ := h
    replace g3 := kdB_eq g3
    refine v_eq (M' := M) (pc' := 9) (L' := [(4, .ref (B + a2)), (0, .ref (B + 0)), (1, .int x1), (2, .int x2), (3, .int x3)]) (st' := [.ref (B + a2)]) ?_
    refine v_ifnullS C dX7_row_9 ?_
    refine v_iload_n (j := 3) C dX7_row_12 rfl rfl ?_
    refine v_if_lt (tgt := 27) C dX7_row_13 (by decide) (fun g => ?_) (fun g => ?_)
    · replace h := ite_t g h
      refine v_ldc C tw_343 dX7_row_27 ?_
      replace h := Option.some.inj h; subst h
      subst hQ
      exact v_iret C hr hlk dX7_row_29
    · replace h := ite_f g h
      refine v_iload_n (j := 3) C dX7_row_16 rfl rfl ?_
      refine v_iconst C dX7_row_17 ct_i_2 ?_
      refine v_icmp_gt (tgt := 27) C dX7_row_18 (by decide) (fun g => ?_) (fun g => ?_)
      · replace h := ite_t g h
        refine v_ldc C tw_343 dX7_row_27 ?_
        replace h := Option.some.inj h; subst h
        subst hQ
        exact v_iret C hr hlk dX7_row_29
      · replace h := ite_f g h
        refine v_iload_n (j := 4) C dX7_row_21 rfl rfl ?_
        refine v_pc (pc' := 22) rfl ?_
        refine v_bipush C dX7_row_22 ct_b_40 ?_
        refine v_icmp_le (tgt := 30) C dX7_row_24 (by decide) (fun g => ?_) (fun g => ?_)
        · replace h := ite_t g h
          refine v_iload_n (j := 4) C dX7_row_30 rfl rfl ?_
          refine v_if_ge (tgt := 40) C dX7_row_31 (by decide) (fun g => ?_) (fun g => ?_)
          · replace h := ite_t g h
            refine v_aloadR (j := 0) C dX7_row_40 rfl ?_
            refine v_iload_n (j := 3) C dX7_row_42 rfl rfl ?_
            refine v_iload_n (j := 4) C dX7_row_43 rfl rfl ?_
            replace h := bind_ex h; obtain ⟨r4, hr4, h⟩ := h
            refine cvN_V C tw_352 tw_110 tw_349 tw_351 tw_2 pd_X4_begin (Nat.le_of_ble_eq_true rfl) (Nat.le_of_ble_eq_true rfl) (q := a2) (kd_lt g3 (by decide)) (sh4 g3) rfl (As := [.int x2, .int x3]) (rest := []) rfl rfl (Nat.le_of_ble_eq_true rfl) (c_X4_begin l D cA B aK aV M a2 x2 x3 g3 r4 hr4) dX7_row_44 ?_
            refine v_aload_nR (j := 1) C dX7_row_47 rfl rfl ?_
            refine v_iload_n (j := 4) C dX7_row_48 rfl rfl ?_
            refine v_pc (pc' := 49) rfl ?_
            replace h := bind_ex h; obtain ⟨r5, hr5, h⟩ := h
            refine cv_I C tw_359 tw_103 tw_356 tw_358 tw_3 pd_X7_nothingFound (Nat.le_of_ble_eq_true rfl) (Nat.le_of_ble_eq_true rfl) (q := 0) (kd_lt ks_0 (by decide)) (sh7 ks_0) rfl (As := [.int x3]) (rest := []) rfl rfl (Nat.le_of_ble_eq_true rfl) (c_X7_nothingFound l D cA B aK aV r4 x3 r5 hr5) dX7_row_49 ?_
            replace h := Option.some.inj h; subst h
            subst hQ
            exact v_iret C hr hlk dX7_row_52
          · replace h := ite_f g h
            refine v_aload_nR (j := 1) C dX7_row_34 rfl rfl ?_
            refine v_iconst C dX7_row_35 ct_i_4 ?_
            replace h := bind_ex h; obtain ⟨r6, hr6, h⟩ := h
            refine cv_I C tw_347 tw_103 tw_344 tw_346 tw_1 pd_X7_found (Nat.le_of_ble_eq_true rfl) (Nat.le_of_ble_eq_true rfl) (q := 0) (kd_lt ks_0 (by decide)) (sh7 ks_0) rfl (As := [.int 4]) (rest := []) rfl rfl (Nat.le_of_ble_eq_true rfl) (c_X7_found l D cA B aK aV M 4 r6 hr6) dX7_row_36 ?_
            replace h := Option.some.inj h; subst h
            subst hQ
            exact v_iret C hr hlk dX7_row_39
        · replace h := ite_f g h
          refine v_ldc C tw_343 dX7_row_27 ?_
          replace h := Option.some.inj h; subst h
          subst hQ
          exact v_iret C hr hlk dX7_row_29
def m_X7_set (M : Mem) (x1 : Int32) (x2 : Int32) (x3 : Int32) : Option (Int32 × Mem) :=
  (m_X7_rowAt M x1).bind fun r1 => optC r1 (some (((-1000001), M))) (fun a2 => chk (kdB a2 4) ((m_X4_isMissing M a2).bind fun r4 => if r4 = 0 then ((m_X4_holds M a2 x2 1).bind fun r5 => if r5 = 0 then ((m_X7_found M 2).bind fun r8 => some ((r8.1, r8.2))) else ((m_X4_put M a2 x2 x3).bind fun r6 => (m_X7_nothingFound r6.2 r6.1).bind fun r7 => some ((r7.1, r7.2)))) else ((m_X7_found M 1).bind fun r9 => some ((r9.1, r9.2)))))
set_option maxHeartbeats 4000000 in
set_option maxRecDepth 100000 in
theorem c_X7_set (l : Launch) (D : va_G) (cA : cAt) (B : Nat) (aK aV : Nat → Nat) (M : Mem) (x1 : Int32) (x2 : Int32) (x3 : Int32) (R : Int32 × Mem) (h : m_X7_set M x1 x2 x3 = some R) : CI l D cA B aK aV yX7_set cX7_set 5 .int 1 [.ref (B + 0), .int x1, .int x2, .int x3] M R.1 R.2 := by
  refine CI_of (by decide +kernel) (Nat.le_of_ble_eq_true rfl) ?_
  intro p e s m args below meth c C hr hlk
  have C : Cx p (rmd 1) s m args c 0 0 D cA B aK aV cX7_set 5 RX7 := C
  generalize hQ : MQ below _ args s 0 0 _ = Q
  refine v_eq (M' := M) (pc' := 0) (L' := [(0, .ref (B + 0)), (1, .int x1), (2, .int x2), (3, .int x3)]) (st' := []) ?_
  unfold m_X7_set at h
  refine v_aload_nR (j := 0) C dX7_set_0 rfl rfl ?_
  refine v_iload_n (j := 1) C dX7_set_1 rfl rfl ?_
  replace h := bind_ex h; obtain ⟨r1, hr1, h⟩ := h
  refine cv_Q C tw_342 tw_103 tw_339 tw_341 tw_0 pd_X7_rowAt (Nat.le_of_ble_eq_true rfl) (Nat.le_of_ble_eq_true rfl) (q := 0) (kd_lt ks_0 (by decide)) (sh7 ks_0) rfl (As := [.int x1]) (rest := []) rfl rfl (Nat.le_of_ble_eq_true rfl) (c_X7_rowAt l D cA B aK aV M x1 r1 hr1) dX7_set_2 ?_
  refine v_astoreO (L' := [(4, rv B r1), (0, .ref (B + 0)), (1, .int x1), (2, .int x2), (3, .int x3)]) C dX7_set_5 (by decide) rfl ?_
  refine v_aloadO (j := 0) C dX7_set_7 rfl ?_
  replace h := optC_ex h
  rcases h with ⟨rfl, h⟩ | ⟨a2, rfl, h⟩
  · refine v_eq (M' := M) (pc' := 9) (L' := [(4, .null), (0, .ref (B + 0)), (1, .int x1), (2, .int x2), (3, .int x3)]) (st' := [.null]) ?_
    refine v_ifnonnullN C dX7_set_9 ?_
    refine v_ldc C tw_343 dX7_set_12 ?_
    replace h := Option.some.inj h; subst h
    subst hQ
    exact v_iret C hr hlk dX7_set_14
  · replace h := chk_some h; obtain ⟨g3, h⟩ := h
    replace g3 := kdB_eq g3
    refine v_eq (M' := M) (pc' := 9) (L' := [(4, .ref (B + a2)), (0, .ref (B + 0)), (1, .int x1), (2, .int x2), (3, .int x3)]) (st' := [.ref (B + a2)]) ?_
    refine v_ifnonnullS (tgt := 15) C dX7_set_9 (by decide) ?_
    refine v_aloadR (j := 0) C dX7_set_15 rfl ?_
    replace h := bind_ex h; obtain ⟨r4, hr4, h⟩ := h
    refine cvN_I C tw_367 tw_110 tw_364 tw_366 tw_4 pd_X4_isMissing (Nat.le_of_ble_eq_true rfl) (Nat.le_of_ble_eq_true rfl) (q := a2) (kd_lt g3 (by decide)) (sh4 g3) rfl (As := []) (rest := []) rfl rfl (Nat.le_of_ble_eq_true rfl) (c_X4_isMissing l D cA B aK aV M a2 g3 r4 hr4) dX7_set_17 ?_
    refine v_if_eq (tgt := 29) C dX7_set_20 (by decide) (fun g => ?_) (fun g => ?_)
    · replace h := ite_t g h
      refine v_aloadR (j := 0) C dX7_set_29 rfl ?_
      refine v_iload_n (j := 3) C dX7_set_31 rfl rfl ?_
      refine v_iconst C dX7_set_32 ct_i_1 ?_
      replace h := bind_ex h; obtain ⟨r5, hr5, h⟩ := h
      refine cvN_I C tw_371 tw_110 tw_368 tw_370 tw_5 pd_X4_holds (Nat.le_of_ble_eq_true rfl) (Nat.le_of_ble_eq_true rfl) (q := a2) (kd_lt g3 (by decide)) (sh4 g3) rfl (As := [.int x2, .int 1]) (rest := []) rfl rfl (Nat.le_of_ble_eq_true rfl) (c_X4_holds l D cA B aK aV M a2 x2 1 g3 r5 hr5) dX7_set_33 ?_
      refine v_if_ne (tgt := 45) C dX7_set_36 (by decide) (fun g => ?_) (fun g => ?_)
      · replace h := ite_t g h
        refine v_aload_nR (j := 1) C dX7_set_39 rfl rfl ?_
        refine v_pc (pc' := 40) rfl ?_
        refine v_iconst C dX7_set_40 ct_i_2 ?_
        replace h := bind_ex h; obtain ⟨r8, hr8, h⟩ := h
        refine cv_I C tw_347 tw_103 tw_344 tw_346 tw_1 pd_X7_found (Nat.le_of_ble_eq_true rfl) (Nat.le_of_ble_eq_true rfl) (q := 0) (kd_lt ks_0 (by decide)) (sh7 ks_0) rfl (As := [.int 2]) (rest := []) rfl rfl (Nat.le_of_ble_eq_true rfl) (c_X7_found l D cA B aK aV M 2 r8 hr8) dX7_set_41 ?_
        replace h := Option.some.inj h; subst h
        subst hQ
        exact v_iret C hr hlk dX7_set_44
      · replace h := ite_f g h
        refine v_aload_nR (j := 1) C dX7_set_45 rfl rfl ?_
        refine v_aloadR (j := 0) C dX7_set_46 rfl ?_
        refine v_iload_n (j := 3) C dX7_set_48 rfl rfl ?_
        refine v_iload_n (j := 4) C dX7_set_49 rfl rfl ?_
        replace h := bind_ex h; obtain ⟨r6, hr6, h⟩ := h
        refine cvN_I C tw_375 tw_110 tw_372 tw_374 tw_6 pd_X4_put (Nat.le_of_ble_eq_true rfl) (Nat.le_of_ble_eq_true rfl) (q := a2) (kd_lt g3 (by decide)) (sh4 g3) rfl (As := [.int x2, .int x3]) (rest := [.ref (B + 0)]) rfl rfl (Nat.le_of_ble_eq_true rfl) (c_X4_put l D cA B aK aV M a2 x2 x3 g3 r6 hr6) dX7_set_50 ?_
        replace h := bind_ex h; obtain ⟨r7, hr7, h⟩ := h
        refine cv_I C tw_359 tw_103 tw_356 tw_358 tw_3 pd_X7_nothingFound (Nat.le_of_ble_eq_true rfl) (Nat.le_of_ble_eq_true rfl) (q := 0) (kd_lt ks_0 (by decide)) (sh7 ks_0) rfl (As := [.int r6.1]) (rest := []) rfl rfl (Nat.le_of_ble_eq_true rfl) (c_X7_nothingFound l D cA B aK aV r6.2 r6.1 r7 hr7) dX7_set_53 ?_
        refine v_pc (pc' := 56) rfl ?_
        replace h := Option.some.inj h; subst h
        subst hQ
        exact v_iret C hr hlk dX7_set_56
    · replace h := ite_f g h
      refine v_aload_nR (j := 1) C dX7_set_23 rfl rfl ?_
      refine v_iconst C dX7_set_24 ct_i_1 ?_
      replace h := bind_ex h; obtain ⟨r9, hr9, h⟩ := h
      refine cv_I C tw_347 tw_103 tw_344 tw_346 tw_1 pd_X7_found (Nat.le_of_ble_eq_true rfl) (Nat.le_of_ble_eq_true rfl) (q := 0) (kd_lt ks_0 (by decide)) (sh7 ks_0) rfl (As := [.int 1]) (rest := []) rfl rfl (Nat.le_of_ble_eq_true rfl) (c_X7_found l D cA B aK aV M 1 r9 hr9) dX7_set_25 ?_
      refine v_pc (pc' := 28) rfl ?_
      replace h := Option.some.inj h; subst h
      subst hQ
      exact v_iret C hr hlk dX7_set_28
def m_X7_copy (M : Mem) (x1 : Int32) (x2 : Int32) (x3 : Int32) (x4 : Int32) (x5 : Int32) : Option (Int32 × Mem) :=
  (m_X7_rowAt M x1).bind fun r1 => (m_X7_rowAt M x3).bind fun r2 => optC r1 (some (((-1000001), M))) (fun a3 => chk (kdB a3 4) (optC r2 (some (((-1000001), M))) (fun a5 => chk (kdB a5 4) ((m_X4_isMissing M a3).bind fun r7 => if r7 = 0 then ((m_X4_isMissing M a5).bind fun r9 => if r9 = 0 then (if (M a3 1) = (M a5 1) then ((m_X4_holds M a3 x2 x5).bind fun r10 => if r10 = 0 then ((m_X7_found M 2).bind fun r11 => some ((r11.1, r11.2))) else ((m_X4_holds M a5 x4 x5).bind fun r12 => if r12 = 0 then ((m_X7_found M 2).bind fun r16 => some ((r16.1, r16.2))) else (chk (cpB x2 x4 x5 40 40) (nm (mrow M (a5 + 1) (va_cpy (M (a3 + 1)) (M (a5 + 1)) x2.toNatClampNeg x4.toNatClampNeg x5.toNatClampNeg)) fun M13 => (m_X7_nothingFound M13 x5).bind fun r15 => some ((r15.1, r15.2)))))) else ((m_X7_found M 5).bind fun r17 => some ((r17.1, r17.2)))) else ((m_X7_found M 1).bind fun r18 => some ((r18.1, r18.2)))) else ((m_X7_found M 1).bind fun r8 => some ((r8.1, r8.2)))))))
set_option maxHeartbeats 4000000 in
set_option maxRecDepth 100000 in
theorem c_X7_copy (l : Launch) (D : va_G) (cA : cAt) (B : Nat) (aK aV : Nat → Nat) (M : Mem) (x1 : Int32) (x2 : Int32) (x3 : Int32) (x4 : Int32) (x5 : Int32) (R : Int32 × Mem) (h : m_X7_copy M x1 x2 x3 x4 x5 = some R) : CI l D cA B aK aV yX7_copy cX7_copy 8 .int 1 [.ref (B + 0), .int x1, .int x2, .int x3, .int x4, .int x5] M R.1 R.2 := by
  refine CI_of (by decide +kernel) (Nat.le_of_ble_eq_true rfl) ?_
  intro p e s m args below meth c C hr hlk
  have C : Cx p (rmd 1) s m args c 0 0 D cA B aK aV cX7_copy 8 RX7 := C
  generalize hQ : MQ below _ args s 0 0 _ = Q
  refine v_eq (M' := M) (pc' := 0) (L' := [(0, .ref (B + 0)), (1, .int x1), (2, .int x2), (3, .int x3), (4, .int x4), (5, .int x5)]) (st' := []) ?_
  unfold m_X7_copy at h
  refine v_aload_nR (j := 0) C dX7_copy_0 rfl rfl ?_
  refine v_iload_n (j := 1) C dX7_copy_1 rfl rfl ?_
  replace h := bind_ex h; obtain ⟨r1, hr1, h⟩ := h
  refine cv_Q C tw_342 tw_103 tw_339 tw_341 tw_0 pd_X7_rowAt (Nat.le_of_ble_eq_true rfl) (Nat.le_of_ble_eq_true rfl) (q := 0) (kd_lt ks_0 (by decide)) (sh7 ks_0) rfl (As := [.int x1]) (rest := []) rfl rfl (Nat.le_of_ble_eq_true rfl) (c_X7_rowAt l D cA B aK aV M x1 r1 hr1) dX7_copy_2 ?_
  refine v_astoreO (L' := [(6, rv B r1), (0, .ref (B + 0)), (1, .int x1), (2, .int x2), (3, .int x3), (4, .int x4), (5, .int x5)]) C dX7_copy_5 (by decide) rfl ?_
  refine v_aload_nR (j := 1) C dX7_copy_7 rfl rfl ?_
  refine v_iload_n (j := 4) C dX7_copy_8 rfl rfl ?_
  refine v_pc (pc' := 9) rfl ?_
  replace h := bind_ex h; obtain ⟨r2, hr2, h⟩ := h
  refine cv_Q C tw_342 tw_103 tw_339 tw_341 tw_0 pd_X7_rowAt (Nat.le_of_ble_eq_true rfl) (Nat.le_of_ble_eq_true rfl) (q := 0) (kd_lt ks_0 (by decide)) (sh7 ks_0) rfl (As := [.int x3]) (rest := []) rfl rfl (Nat.le_of_ble_eq_true rfl) (c_X7_rowAt l D cA B aK aV M x3 r2 hr2) dX7_copy_9 ?_
  refine v_astoreO (L' := [(7, rv B r2), (6, rv B r1), (0, .ref (B + 0)), (1, .int x1), (2, .int x2), (3, .int x3), (4, .int x4), (5, .int x5)]) C dX7_copy_12 (by decide) (by cases r1 <;> rfl) ?_
  refine v_aloadO (j := 1) C dX7_copy_14 rfl ?_
  replace h := optC_ex h
  rcases h with ⟨rfl, h⟩ | ⟨a3, rfl, h⟩
  · refine v_eq (M' := M) (pc' := 16) (L' := [(7, rv B r2), (6, .null), (0, .ref (B + 0)), (1, .int x1), (2, .int x2), (3, .int x3), (4, .int x4), (5, .int x5)]) (st' := [.null]) ?_
    refine v_ifnullN (tgt := 24) C dX7_copy_16 (by decide) ?_
    refine v_ldc C tw_343 dX7_copy_24 ?_
    replace h := Option.some.inj h; subst h
    subst hQ
    exact v_iret C hr hlk dX7_copy_26
  · replace h := chk_some h; obtain ⟨g4, h⟩ := h
    replace g4 := kdB_eq g4
    refine v_eq (M' := M) (pc' := 16) (L' := [(7, rv B r2), (6, .ref (B + a3)), (0, .ref (B + 0)), (1, .int x1), (2, .int x2), (3, .int x3), (4, .int x4), (5, .int x5)]) (st' := [.ref (B + a3)]) ?_
    refine v_ifnullS C dX7_copy_16 ?_
    refine v_aloadO (j := 0) C dX7_copy_19 rfl ?_
    replace h := optC_ex h
    rcases h with ⟨rfl, h⟩ | ⟨a5, rfl, h⟩
    · refine v_eq (M' := M) (pc' := 21) (L' := [(7, .null), (6, .ref (B + a3)), (0, .ref (B + 0)), (1, .int x1), (2, .int x2), (3, .int x3), (4, .int x4), (5, .int x5)]) (st' := [.null]) ?_
      refine v_ifnonnullN C dX7_copy_21 ?_
      refine v_ldc C tw_343 dX7_copy_24 ?_
      replace h := Option.some.inj h; subst h
      subst hQ
      exact v_iret C hr hlk dX7_copy_26
    · replace h := chk_some h; obtain ⟨g6, h⟩ := h
      replace g6 := kdB_eq g6
      refine v_eq (M' := M) (pc' := 21) (L' := [(7, .ref (B + a5)), (6, .ref (B + a3)), (0, .ref (B + 0)), (1, .int x1), (2, .int x2), (3, .int x3), (4, .int x4), (5, .int x5)]) (st' := [.ref (B + a5)]) ?_
      refine v_ifnonnullS (tgt := 27) C dX7_copy_21 (by decide) ?_
      refine v_aloadR (j := 1) C dX7_copy_27 rfl ?_
      replace h := bind_ex h; obtain ⟨r7, hr7, h⟩ := h
      refine cvN_I C tw_367 tw_110 tw_364 tw_366 tw_4 pd_X4_isMissing (Nat.le_of_ble_eq_true rfl) (Nat.le_of_ble_eq_true rfl) (q := a3) (kd_lt g4 (by decide)) (sh4 g4) rfl (As := []) (rest := []) rfl rfl (Nat.le_of_ble_eq_true rfl) (c_X4_isMissing l D cA B aK aV M a3 g4 r7 hr7) dX7_copy_29 ?_
      refine v_if_ne (tgt := 43) C dX7_copy_32 (by decide) (fun g => ?_) (fun g => ?_)
      · replace h := ite_t g h
        refine v_aloadR (j := 0) C dX7_copy_35 rfl ?_
        replace h := bind_ex h; obtain ⟨r9, hr9, h⟩ := h
        refine cvN_I C tw_367 tw_110 tw_364 tw_366 tw_4 pd_X4_isMissing (Nat.le_of_ble_eq_true rfl) (Nat.le_of_ble_eq_true rfl) (q := a5) (kd_lt g6 (by decide)) (sh4 g6) rfl (As := []) (rest := []) rfl rfl (Nat.le_of_ble_eq_true rfl) (c_X4_isMissing l D cA B aK aV M a5 g6 r9 hr9) dX7_copy_37 ?_
        refine v_if_eq (tgt := 49) C dX7_copy_40 (by decide) (fun g => ?_) (fun g => ?_)
        · replace h := ite_t g h
          refine v_aloadR (j := 1) C dX7_copy_49 rfl ?_
          refine gf_X7_102 C g4 dX7_copy_51 ?_
          refine v_aloadR (j := 0) C dX7_copy_54 rfl ?_
          refine gf_X7_102 C g6 dX7_copy_56 ?_
          refine v_icmp_eq (tgt := 68) C dX7_copy_59 (by decide) (fun g => ?_) (fun g => ?_)
          · replace h := ite_t g h
            refine v_aloadR (j := 1) C dX7_copy_68 rfl ?_
            refine v_iload_n (j := 4) C dX7_copy_70 rfl rfl ?_
            refine v_iload (j := 7) C dX7_copy_71 rfl ?_
            replace h := bind_ex h; obtain ⟨r10, hr10, h⟩ := h
            refine cvN_I C tw_371 tw_110 tw_368 tw_370 tw_5 pd_X4_holds (Nat.le_of_ble_eq_true rfl) (Nat.le_of_ble_eq_true rfl) (q := a3) (kd_lt g4 (by decide)) (sh4 g4) rfl (As := [.int x2, .int x5]) (rest := []) rfl rfl (Nat.le_of_ble_eq_true rfl) (c_X4_holds l D cA B aK aV M a3 x2 x5 g4 r10 hr10) dX7_copy_73 ?_
            refine v_if_eq (tgt := 91) C dX7_copy_76 (by decide) (fun g => ?_) (fun g => ?_)
            · replace h := ite_t g h
              refine v_aload_nR (j := 2) C dX7_copy_91 rfl rfl ?_
              refine v_iconst C dX7_copy_92 ct_i_2 ?_
              replace h := bind_ex h; obtain ⟨r11, hr11, h⟩ := h
              refine cv_I C tw_347 tw_103 tw_344 tw_346 tw_1 pd_X7_found (Nat.le_of_ble_eq_true rfl) (Nat.le_of_ble_eq_true rfl) (q := 0) (kd_lt ks_0 (by decide)) (sh7 ks_0) rfl (As := [.int 2]) (rest := []) rfl rfl (Nat.le_of_ble_eq_true rfl) (c_X7_found l D cA B aK aV M 2 r11 hr11) dX7_copy_93 ?_
              replace h := Option.some.inj h; subst h
              subst hQ
              exact v_iret C hr hlk dX7_copy_96
            · replace h := ite_f g h
              refine v_aloadR (j := 0) C dX7_copy_79 rfl ?_
              refine v_pc (pc' := 81) rfl ?_
              refine v_iload (j := 6) C dX7_copy_81 rfl ?_
              refine v_iload (j := 7) C dX7_copy_83 rfl ?_
              replace h := bind_ex h; obtain ⟨r12, hr12, h⟩ := h
              refine cvN_I C tw_371 tw_110 tw_368 tw_370 tw_5 pd_X4_holds (Nat.le_of_ble_eq_true rfl) (Nat.le_of_ble_eq_true rfl) (q := a5) (kd_lt g6 (by decide)) (sh4 g6) rfl (As := [.int x4, .int x5]) (rest := []) rfl rfl (Nat.le_of_ble_eq_true rfl) (c_X4_holds l D cA B aK aV M a5 x4 x5 g6 r12 hr12) dX7_copy_85 ?_
              refine v_if_ne (tgt := 97) C dX7_copy_88 (by decide) (fun g => ?_) (fun g => ?_)
              · replace h := ite_t g h
                refine v_aload_nR (j := 2) C dX7_copy_91 rfl rfl ?_
                refine v_iconst C dX7_copy_92 ct_i_2 ?_
                replace h := bind_ex h; obtain ⟨r16, hr16, h⟩ := h
                refine cv_I C tw_347 tw_103 tw_344 tw_346 tw_1 pd_X7_found (Nat.le_of_ble_eq_true rfl) (Nat.le_of_ble_eq_true rfl) (q := 0) (kd_lt ks_0 (by decide)) (sh7 ks_0) rfl (As := [.int 2]) (rest := []) rfl rfl (Nat.le_of_ble_eq_true rfl) (c_X7_found l D cA B aK aV M 2 r16 hr16) dX7_copy_93 ?_
                refine v_pc (pc' := 96) rfl ?_
                replace h := Option.some.inj h; subst h
                subst hQ
                exact v_iret C hr hlk dX7_copy_96
              · replace h := ite_f g h
                refine v_aloadR (j := 1) C dX7_copy_97 rfl ?_
                refine gf_X7_106 C g4 dX7_copy_99 ?_
                refine v_iload_n (j := 4) C dX7_copy_102 rfl rfl ?_
                refine v_aloadR (j := 0) C dX7_copy_103 rfl ?_
                refine gf_X7_106 C g6 dX7_copy_105 ?_
                refine v_iload (j := 6) C dX7_copy_108 rfl ?_
                refine v_pc (pc' := 110) rfl ?_
                refine v_iload (j := 7) C dX7_copy_110 rfl ?_
                replace h := chk_some h; obtain ⟨g14, h⟩ := h
                obtain ⟨q1, q2, q3, q4, q5⟩ := cpB_ex g14
                replace h := nm_ex h; obtain ⟨M13, eM13, h⟩ := h
                refine v_copy C tw_380 tw_382 tw_381 tw_113 (kdR g4) (kdR g6) q1 q2 q3 (by rw [alenR g4]; exact q4) (by rw [alenR g6]; exact q5) (Nat.le_of_ble_eq_true rfl) (Nat.le_of_ble_eq_true rfl) dX7_copy_112 ?_
                refine v_mem eM13 ?_
                refine v_aload_nR (j := 2) C dX7_copy_115 rfl rfl ?_
                refine v_iload (j := 7) C dX7_copy_116 rfl ?_
                replace h := bind_ex h; obtain ⟨r15, hr15, h⟩ := h
                refine cv_I C tw_359 tw_103 tw_356 tw_358 tw_3 pd_X7_nothingFound (Nat.le_of_ble_eq_true rfl) (Nat.le_of_ble_eq_true rfl) (q := 0) (kd_lt ks_0 (by decide)) (sh7 ks_0) rfl (As := [.int x5]) (rest := []) rfl rfl (Nat.le_of_ble_eq_true rfl) (c_X7_nothingFound l D cA B aK aV M13 x5 r15 hr15) dX7_copy_118 ?_
                replace h := Option.some.inj h; subst h
                subst hQ
                exact v_iret C hr hlk dX7_copy_121
          · replace h := ite_f g h
            refine v_aload_nR (j := 2) C dX7_copy_62 rfl rfl ?_
            refine v_pc (pc' := 63) rfl ?_
            refine v_iconst C dX7_copy_63 ct_i_5 ?_
            replace h := bind_ex h; obtain ⟨r17, hr17, h⟩ := h
            refine cv_I C tw_347 tw_103 tw_344 tw_346 tw_1 pd_X7_found (Nat.le_of_ble_eq_true rfl) (Nat.le_of_ble_eq_true rfl) (q := 0) (kd_lt ks_0 (by decide)) (sh7 ks_0) rfl (As := [.int 5]) (rest := []) rfl rfl (Nat.le_of_ble_eq_true rfl) (c_X7_found l D cA B aK aV M 5 r17 hr17) dX7_copy_64 ?_
            replace h := Option.some.inj h; subst h
            subst hQ
            exact v_iret C hr hlk dX7_copy_67
        · replace h := ite_f g h
          refine v_pc (pc' := 43) rfl ?_
          refine v_aload_nR (j := 2) C dX7_copy_43 rfl rfl ?_
          refine v_iconst C dX7_copy_44 ct_i_1 ?_
          replace h := bind_ex h; obtain ⟨r18, hr18, h⟩ := h
          refine cv_I C tw_347 tw_103 tw_344 tw_346 tw_1 pd_X7_found (Nat.le_of_ble_eq_true rfl) (Nat.le_of_ble_eq_true rfl) (q := 0) (kd_lt ks_0 (by decide)) (sh7 ks_0) rfl (As := [.int 1]) (rest := []) rfl rfl (Nat.le_of_ble_eq_true rfl) (c_X7_found l D cA B aK aV M 1 r18 hr18) dX7_copy_45 ?_
          replace h := Option.some.inj h; subst h
          subst hQ
          exact v_iret C hr hlk dX7_copy_48
      · replace h := ite_f g h
        refine v_aload_nR (j := 2) C dX7_copy_43 rfl rfl ?_
        refine v_iconst C dX7_copy_44 ct_i_1 ?_
        replace h := bind_ex h; obtain ⟨r8, hr8, h⟩ := h
        refine cv_I C tw_347 tw_103 tw_344 tw_346 tw_1 pd_X7_found (Nat.le_of_ble_eq_true rfl) (Nat.le_of_ble_eq_true rfl) (q := 0) (kd_lt ks_0 (by decide)) (sh7 ks_0) rfl (As := [.int 1]) (rest := []) rfl rfl (Nat.le_of_ble_eq_true rfl) (c_X7_found l D cA B aK aV M 1 r8 hr8) dX7_copy_45 ?_
        replace h := Option.some.inj h; subst h
        subst hQ
        exact v_iret C hr hlk dX7_copy_48
def m_X7_drop (M : Mem) (x1 : Int32) : Option (Int32 × Mem) :=
  (m_X7_rowAt M x1).bind fun r1 => optC r1 (some (((-1000001), M))) (fun a2 => chk (kdB a2 4) ((m_X4_isMissing M a2).bind fun r4 => if r4 = 0 then (nm (M a2 2) fun y5 => nm (mset M a2 2 (-1)) fun M6 => (m_X7_nothingFound M6 y5).bind fun r7 => some ((r7.1, r7.2))) else ((m_X7_found M 1).bind fun r8 => some ((r8.1, r8.2)))))
set_option maxHeartbeats 4000000 in
set_option maxRecDepth 100000 in
theorem c_X7_drop (l : Launch) (D : va_G) (cA : cAt) (B : Nat) (aK aV : Nat → Nat) (M : Mem) (x1 : Int32) (R : Int32 × Mem) (h : m_X7_drop M x1 = some R) : CI l D cA B aK aV yX7_drop cX7_drop 4 .int 1 [.ref (B + 0), .int x1] M R.1 R.2 := by
  refine CI_of (by decide +kernel) (Nat.le_of_ble_eq_true rfl) ?_
  intro p e s m args below meth c C hr hlk
  have C : Cx p (rmd 1) s m args c 0 0 D cA B aK aV cX7_drop 4 RX7 := C
  generalize hQ : MQ below _ args s 0 0 _ = Q
  refine v_eq (M' := M) (pc' := 0) (L' := [(0, .ref (B + 0)), (1, .int x1)]) (st' := []) ?_
  unfold m_X7_drop at h
  refine v_aload_nR (j := 0) C dX7_drop_0 rfl rfl ?_
  refine v_iload_n (j := 1) C dX7_drop_1 rfl rfl ?_
  replace h := bind_ex h; obtain ⟨r1, hr1, h⟩ := h
  refine cv_Q C tw_342 tw_103 tw_339 tw_341 tw_0 pd_X7_rowAt (Nat.le_of_ble_eq_true rfl) (Nat.le_of_ble_eq_true rfl) (q := 0) (kd_lt ks_0 (by decide)) (sh7 ks_0) rfl (As := [.int x1]) (rest := []) rfl rfl (Nat.le_of_ble_eq_true rfl) (c_X7_rowAt l D cA B aK aV M x1 r1 hr1) dX7_drop_2 ?_
  refine v_astore_nO (L' := [(2, rv B r1), (0, .ref (B + 0)), (1, .int x1)]) C dX7_drop_5 rfl (by decide) rfl ?_
  refine v_aload_nO (j := 0) C dX7_drop_6 rfl rfl ?_
  replace h := optC_ex h
  rcases h with ⟨rfl, h⟩ | ⟨a2, rfl, h⟩
  · refine v_eq (M' := M) (pc' := 7) (L' := [(2, .null), (0, .ref (B + 0)), (1, .int x1)]) (st' := [.null]) ?_
    refine v_ifnonnullN C dX7_drop_7 ?_
    refine v_ldc C tw_343 dX7_drop_10 ?_
    replace h := Option.some.inj h; subst h
    subst hQ
    exact v_iret C hr hlk dX7_drop_12
  · replace h := chk_some h; obtain ⟨g3, h⟩ := h
    replace g3 := kdB_eq g3
    refine v_eq (M' := M) (pc' := 7) (L' := [(2, .ref (B + a2)), (0, .ref (B + 0)), (1, .int x1)]) (st' := [.ref (B + a2)]) ?_
    refine v_ifnonnullS (tgt := 13) C dX7_drop_7 (by decide) ?_
    refine v_aload_nR (j := 0) C dX7_drop_13 rfl rfl ?_
    replace h := bind_ex h; obtain ⟨r4, hr4, h⟩ := h
    refine cvN_I C tw_367 tw_110 tw_364 tw_366 tw_4 pd_X4_isMissing (Nat.le_of_ble_eq_true rfl) (Nat.le_of_ble_eq_true rfl) (q := a2) (kd_lt g3 (by decide)) (sh4 g3) rfl (As := []) (rest := []) rfl rfl (Nat.le_of_ble_eq_true rfl) (c_X4_isMissing l D cA B aK aV M a2 g3 r4 hr4) dX7_drop_14 ?_
    refine v_if_eq (tgt := 26) C dX7_drop_17 (by decide) (fun g => ?_) (fun g => ?_)
    · replace h := ite_t g h
      refine v_aload_nR (j := 0) C dX7_drop_26 rfl rfl ?_
      refine gf_X7_115 C g3 dX7_drop_27 ?_
      replace h := nm_ex h; obtain ⟨y5, ey5, h⟩ := h
      refine v_topI ey5 ?_
      refine v_istore_n (L' := [(3, .int y5), (2, .ref (B + a2)), (0, .ref (B + 0)), (1, .int x1)]) C dX7_drop_30 rfl (by decide) rfl ?_
      refine v_aload_nR (j := 1) C dX7_drop_31 rfl rfl ?_
      refine v_iconst C dX7_drop_32 ct_i_m1 ?_
      replace h := nm_ex h; obtain ⟨M6, eM6, h⟩ := h
      refine pf_X7_115 C g3 dX7_drop_33 ?_
      refine v_mem eM6 ?_
      refine v_pc (pc' := 36) rfl ?_
      refine v_aload_nR (j := 2) C dX7_drop_36 rfl rfl ?_
      refine v_iload_n (j := 0) C dX7_drop_37 rfl rfl ?_
      replace h := bind_ex h; obtain ⟨r7, hr7, h⟩ := h
      refine cv_I C tw_359 tw_103 tw_356 tw_358 tw_3 pd_X7_nothingFound (Nat.le_of_ble_eq_true rfl) (Nat.le_of_ble_eq_true rfl) (q := 0) (kd_lt ks_0 (by decide)) (sh7 ks_0) rfl (As := [.int y5]) (rest := []) rfl rfl (Nat.le_of_ble_eq_true rfl) (c_X7_nothingFound l D cA B aK aV M6 y5 r7 hr7) dX7_drop_38 ?_
      replace h := Option.some.inj h; subst h
      subst hQ
      exact v_iret C hr hlk dX7_drop_41
    · replace h := ite_f g h
      refine v_aload_nR (j := 1) C dX7_drop_20 rfl rfl ?_
      refine v_iconst C dX7_drop_21 ct_i_1 ?_
      replace h := bind_ex h; obtain ⟨r8, hr8, h⟩ := h
      refine cv_I C tw_347 tw_103 tw_344 tw_346 tw_1 pd_X7_found (Nat.le_of_ble_eq_true rfl) (Nat.le_of_ble_eq_true rfl) (q := 0) (kd_lt ks_0 (by decide)) (sh7 ks_0) rfl (As := [.int 1]) (rest := []) rfl rfl (Nat.le_of_ble_eq_true rfl) (c_X7_found l D cA B aK aV M 1 r8 hr8) dX7_drop_22 ?_
      refine v_pc (pc' := 25) rfl ?_
      replace h := Option.some.inj h; subst h
      subst hQ
      exact v_iret C hr hlk dX7_drop_25
def b_X7_feed_33 (M : Mem) (x1 : Int64) (x4 : Int32) : Option ((Int32 × Mem) ⊕ Mem) :=
  if x4 < 0 then (some (.inr M)) else ((m_X6_add M ((((x1.toUInt64 >>> ((8 * x4).toInt64.toUInt64 &&& Int64.toUInt64 63)).toInt64).toInt32) &&& 255)).bind fun r3 => some (.inl (x4 + (-1), r3)))
def m_X7_feed (M : Mem) (x1 : Int64) (x3 : Int32) : Option (Int32 × Mem) :=
  if x3 < 1 then (some (((-1000001), M))) else (if x3 ≤ 8 then ((m_X6_hasRoomFor M x3).bind fun r1 => if r1 = 0 then (some (((-1000003), M))) else (nm (x3 - 1) fun y2 => (loopF (fun z => b_X7_feed_33 z.2 x1 z.1) FUEL (y2, M)).bind fun z4 => some ((z4 2 1, z4)))) else (some (((-1000001), M))))
set_option maxHeartbeats 4000000 in
set_option maxRecDepth 100000 in
theorem c_X7_feed (l : Launch) (D : va_G) (cA : cAt) (B : Nat) (aK aV : Nat → Nat) (M : Mem) (x1 : Int64) (x3 : Int32) (R : Int32 × Mem) (h : m_X7_feed M x1 x3 = some R) : CI l D cA B aK aV yX7_feed cX7_feed 5 .int 1 [.ref (B + 0), .long x1, .int x3] M R.1 R.2 := by
  refine CI_of (by decide +kernel) (Nat.le_of_ble_eq_true rfl) ?_
  intro p e s m args below meth c C hr hlk
  have C : Cx p (rmd 1) s m args c 0 0 D cA B aK aV cX7_feed 5 RX7 := C
  generalize hQ : MQ below _ args s 0 0 _ = Q
  refine v_eq (M' := M) (pc' := 0) (L' := [(0, .ref (B + 0)), (1, .long x1), (3, .int x3)]) (st' := []) ?_
  unfold m_X7_feed at h
  refine v_iload_n (j := 2) C dX7_feed_0 rfl rfl ?_
  refine v_iconst C dX7_feed_1 ct_i_1 ?_
  refine v_icmp_lt (tgt := 11) C dX7_feed_2 (by decide) (fun g => ?_) (fun g => ?_)
  · replace h := ite_t g h
    refine v_ldc C tw_343 dX7_feed_11 ?_
    replace h := Option.some.inj h; subst h
    subst hQ
    exact v_iret C hr hlk dX7_feed_13
  · replace h := ite_f g h
    refine v_iload_n (j := 2) C dX7_feed_5 rfl rfl ?_
    refine v_bipush C dX7_feed_6 ct_b_8 ?_
    refine v_icmp_le (tgt := 14) C dX7_feed_8 (by decide) (fun g => ?_) (fun g => ?_)
    · replace h := ite_t g h
      refine v_aload_nR (j := 0) C dX7_feed_14 rfl rfl ?_
      refine gf_X7_18 C ks_0 dX7_feed_15 ?_
      refine v_iload_n (j := 2) C dX7_feed_18 rfl rfl ?_
      replace h := bind_ex h; obtain ⟨r1, hr1, h⟩ := h
      refine cvN_I C tw_394 tw_104 tw_391 tw_393 tw_7 pd_X6_hasRoomFor (Nat.le_of_ble_eq_true rfl) (Nat.le_of_ble_eq_true rfl) (q := 2) (kd_lt ks_2 (by decide)) (sh6 ks_2) rfl (As := [.int x3]) (rest := []) rfl rfl (Nat.le_of_ble_eq_true rfl) (c_X6_hasRoomFor l D cA B aK aV M x3 r1 hr1) dX7_feed_19 ?_
      refine v_if_ne (tgt := 28) C dX7_feed_22 (by decide) (fun g => ?_) (fun g => ?_)
      · replace h := ite_t g h
        refine v_ldc C tw_395 dX7_feed_25 ?_
        refine v_pc (pc' := 27) rfl ?_
        replace h := Option.some.inj h; subst h
        subst hQ
        exact v_iret C hr hlk dX7_feed_27
      · replace h := ite_f g h
        refine v_iload_n (j := 2) C dX7_feed_28 rfl rfl ?_
        refine v_iconst C dX7_feed_29 ct_i_1 ?_
        refine v_isub C dX7_feed_30 ?_
        replace h := nm_ex h; obtain ⟨y2, ey2, h⟩ := h
        refine v_topI ey2 ?_
        refine v_istore (L' := [(4, .int y2), (0, .ref (B + 0)), (1, .long x1), (3, .int x3)]) C dX7_feed_31 (by decide) rfl ?_
        have LB33 : ∀ (M : Mem) (x4 : Int32) (o33 : (Int32 × Mem) ⊕ Mem) (h : b_X7_feed_33 M x1 x4 = some o33) (hc33 : ∀ z : Int32 × Mem, o33 = .inl z → V p l e (rmd 1) s m args below meth c 0 0 D cA B 5 Q z.2 33 [(0, .ref (B + 0)), (1, .long x1), (4, .int z.1)] []) (he33 : ∀ z : Mem, o33 = .inr z → V p l e (rmd 1) s m args below meth c 0 0 D cA B 5 Q z 63 [(0, .ref (B + 0))] []), V p l e (rmd 1) s m args below meth c 0 0 D cA B 5 Q M 33 [(0, .ref (B + 0)), (1, .long x1), (4, .int x4)] [] := by
          intro M x4 o33 h hc33 he33
          unfold b_X7_feed_33 at h
          refine v_iload (j := 2) C dX7_feed_33 rfl ?_
          refine v_if_lt (tgt := 63) C dX7_feed_35 (by decide) (fun g => ?_) (fun g => ?_)
          · replace h := ite_t g h
            replace h := Option.some.inj h; subst h
            refine v_sub [0] rfl ?_
            exact he33 M rfl
          · replace h := ite_f g h
            refine v_aload_nR (j := 0) C dX7_feed_38 rfl rfl ?_
            refine gf_X7_18 C ks_0 dX7_feed_39 ?_
            refine v_lload_n (j := 1) C dX7_feed_42 rfl rfl ?_
            refine v_bipush C dX7_feed_43 ct_b_8 ?_
            refine v_pc (pc' := 45) rfl ?_
            refine v_iload (j := 2) C dX7_feed_45 rfl ?_
            refine v_imul C dX7_feed_47 ?_
            refine v_lushr C dX7_feed_48 ?_
            refine v_l2i C dX7_feed_49 ?_
            refine v_sipush C dX7_feed_50 ct_s_255 ?_
            refine v_iand C dX7_feed_53 ?_
            replace h := bind_ex h; obtain ⟨r3, hr3, h⟩ := h
            refine cvN_V C tw_399 tw_104 tw_396 tw_398 tw_8 pd_X6_add (Nat.le_of_ble_eq_true rfl) (Nat.le_of_ble_eq_true rfl) (q := 2) (kd_lt ks_2 (by decide)) (sh6 ks_2) rfl (As := [.int ((((x1.toUInt64 >>> ((8 * x4).toInt64.toUInt64 &&& Int64.toUInt64 63)).toInt64).toInt32) &&& 255)]) (rest := []) rfl rfl (Nat.le_of_ble_eq_true rfl) (c_X6_add l D cA B aK aV M ((((x1.toUInt64 >>> ((8 * x4).toInt64.toUInt64 &&& Int64.toUInt64 63)).toInt64).toInt32) &&& 255) r3 hr3) dX7_feed_54 ?_
            refine v_pc (pc' := 57) rfl ?_
            refine v_iinc (j := 2) (L' := [(4, .int (x4 + (-1))), (0, .ref (B + 0)), (1, .long x1)]) C dX7_feed_57 rfl (congrArg (fun z => _ + z) ct_i_m1) (by decide) rfl ?_
            refine v_goto (tgt := 33) C dX7_feed_60 (by decide) ?_
            replace h := Option.some.inj h; subst h
            refine v_sub [1, 2, 0] rfl ?_
            exact hc33 (x4 + (-1), r3) rfl
        replace h := bind_ex h; obtain ⟨z4, hz4, h⟩ := h
        refine v_sub [1, 2, 0] rfl ?_
        refine loopF_walk (Pσ := fun z => V p l e (rmd 1) s m args below meth c 0 0 D cA B 5 Q z.2 33 [(0, .ref (B + 0)), (1, .long x1), (4, .int z.1)] []) (Pρ := fun y => V p l e (rmd 1) s m args below meth c 0 0 D cA B 5 Q y 63 [(0, .ref (B + 0))] []) ?_ FUEL (y2, M) z4 hz4 ?_
        · intro z o hb hc he
          exact LB33 z.2 z.1 o hb hc he
        · refine v_aload_nR (j := 0) C dX7_feed_63 rfl rfl ?_
          refine gf_X7_18 C ks_0 dX7_feed_64 ?_
          refine gf_X7_127 C ks_2 dX7_feed_67 ?_
          replace h := Option.some.inj h; subst h
          subst hQ
          exact v_iret C hr hlk dX7_feed_70
    · replace h := ite_f g h
      refine v_pc (pc' := 11) rfl ?_
      refine v_ldc C tw_343 dX7_feed_11 ?_
      replace h := Option.some.inj h; subst h
      subst hQ
      exact v_iret C hr hlk dX7_feed_13
def m_X7_square (M : Mem) : Option (Int32 × Mem) :=
  (m_X5_clear M 11).bind fun r1 => (m_X6_read r1 11).bind fun r2 => nm r2.1 fun y3 => nm (mset r2.2 2 1 0) fun M4 => if y3 = 0 then (nm (mset M4 0 13 (M4 2 6)) fun M8 => some (((-1000100) - (M8 2 2), M8))) else (nm (mset M4 11 1 1) fun M5 => (m_X5_takeFrom M5 4 11).bind fun r6 => nm (mset r6 26 1 0) fun M7 => some ((M7 4 4, M7)))
set_option maxHeartbeats 4000000 in
set_option maxRecDepth 100000 in
theorem c_X7_square (l : Launch) (D : va_G) (cA : cAt) (B : Nat) (aK aV : Nat → Nat) (M : Mem) (R : Int32 × Mem) (h : m_X7_square M = some R) : CI l D cA B aK aV yX7_square cX7_square 2 .int 8 [.ref (B + 0)] M R.1 R.2 := by
  refine CI_of (by decide +kernel) (Nat.le_of_ble_eq_true rfl) ?_
  intro p e s m args below meth c C hr hlk
  have C : Cx p (rmd 8) s m args c 0 0 D cA B aK aV cX7_square 2 RX7 := C
  generalize hQ : MQ below _ args s 0 0 _ = Q
  refine v_eq (M' := M) (pc' := 0) (L' := [(0, .ref (B + 0))]) (st' := []) ?_
  unfold m_X7_square at h
  refine v_aload_nR (j := 0) C dX7_square_0 rfl rfl ?_
  refine gf_X7_29 C ks_0 dX7_square_1 ?_
  replace h := bind_ex h; obtain ⟨r1, hr1, h⟩ := h
  refine cvN_V C tw_407 tw_105 tw_404 tw_406 tw_9 pd_X5_clear (Nat.le_of_ble_eq_true rfl) (Nat.le_of_ble_eq_true rfl) (q := 11) (kd_lt ks_11 (by decide)) (sh5 ks_11) rfl (As := []) (rest := []) rfl rfl (Nat.le_of_ble_eq_true rfl) (c_X5_clear l D cA B aK aV M 11 ks_11 r1 hr1) dX7_square_4 ?_
  refine v_aload_nR (j := 0) C dX7_square_7 rfl rfl ?_
  refine gf_X7_18 C ks_0 dX7_square_8 ?_
  refine v_aload_nR (j := 0) C dX7_square_11 rfl rfl ?_
  refine v_pc (pc' := 12) rfl ?_
  refine gf_X7_29 C ks_0 dX7_square_12 ?_
  replace h := bind_ex h; obtain ⟨r2, hr2, h⟩ := h
  refine cvN_I C tw_411 tw_104 tw_408 tw_410 tw_10 pd_X6_read (Nat.le_of_ble_eq_true rfl) (Nat.le_of_ble_eq_true rfl) (q := 2) (kd_lt ks_2 (by decide)) (sh6 ks_2) rfl (As := [.ref (B + 11)]) (rest := []) rfl rfl (Nat.le_of_ble_eq_true rfl) (c_X6_read l D cA B aK aV r1 11 ks_11 r2 hr2) dX7_square_15 ?_
  replace h := nm_ex h; obtain ⟨y3, ey3, h⟩ := h
  refine v_topI ey3 ?_
  refine v_istore_n (L' := [(1, .int y3), (0, .ref (B + 0))]) C dX7_square_18 rfl (by decide) rfl ?_
  refine v_aload_nR (j := 1) C dX7_square_19 rfl rfl ?_
  refine gf_X7_18 C ks_0 dX7_square_20 ?_
  refine v_iconst C dX7_square_23 ct_i_0 ?_
  replace h := nm_ex h; obtain ⟨M4, eM4, h⟩ := h
  refine pf_X7_127 C ks_2 dX7_square_24 ?_
  refine v_mem eM4 ?_
  refine v_pc (pc' := 27) rfl ?_
  refine v_iload_n (j := 0) C dX7_square_27 rfl rfl ?_
  refine v_if_ne (tgt := 53) C dX7_square_28 (by decide) (fun g => ?_) (fun g => ?_)
  · replace h := ite_t g h
    refine v_aload_nR (j := 1) C dX7_square_31 rfl rfl ?_
    refine v_aload_nR (j := 1) C dX7_square_32 rfl rfl ?_
    refine gf_X7_18 C ks_0 dX7_square_33 ?_
    refine gf_X7_137 C ks_2 dX7_square_36 ?_
    replace h := nm_ex h; obtain ⟨M8, eM8, h⟩ := h
    refine pf_X7_140 C ks_0 dX7_square_39 ?_
    refine v_mem eM8 ?_
    refine v_pc (pc' := 42) rfl ?_
    refine v_ldc C tw_535 dX7_square_42 ?_
    refine v_aload_nR (j := 1) C dX7_square_44 rfl rfl ?_
    refine gf_X7_18 C ks_0 dX7_square_45 ?_
    refine gf_X7_144 C ks_2 dX7_square_48 ?_
    refine v_isub C dX7_square_51 ?_
    replace h := Option.some.inj h; subst h
    subst hQ
    exact v_iret C hr hlk dX7_square_52
  · replace h := ite_f g h
    refine v_aload_nR (j := 1) C dX7_square_53 rfl rfl ?_
    refine gf_X7_29 C ks_0 dX7_square_54 ?_
    refine v_iconst C dX7_square_57 ct_i_1 ?_
    replace h := nm_ex h; obtain ⟨M5, eM5, h⟩ := h
    refine pf_X7_147 C ks_11 (by decide) dX7_square_58 ?_
    refine v_mem eM5 ?_
    refine v_aload_nR (j := 1) C dX7_square_61 rfl rfl ?_
    refine gf_X7_25 C ks_0 dX7_square_62 ?_
    refine v_pc (pc' := 65) rfl ?_
    refine v_aload_nR (j := 1) C dX7_square_65 rfl rfl ?_
    refine gf_X7_29 C ks_0 dX7_square_66 ?_
    replace h := bind_ex h; obtain ⟨r6, hr6, h⟩ := h
    refine cvN_V C tw_539 tw_105 tw_536 tw_538 tw_26 pd_X5_takeFrom (Nat.le_of_ble_eq_true rfl) (Nat.le_of_ble_eq_true rfl) (q := 4) (kd_lt ks_4 (by decide)) (sh5 ks_4) rfl (As := [.ref (B + 11)]) (rest := []) rfl rfl (Nat.le_of_ble_eq_true rfl) (c_X5_takeFrom l D cA B aK aV M5 4 11 ks_4 ks_11 r6 hr6) dX7_square_69 ?_
    refine v_aload_nR (j := 1) C dX7_square_72 rfl rfl ?_
    refine gf_X7_42 C ks_0 dX7_square_73 ?_
    refine v_iconst C dX7_square_76 ct_i_0 ?_
    replace h := nm_ex h; obtain ⟨M7, eM7, h⟩ := h
    refine pf_X7_155 C ks_26 dX7_square_77 ?_
    refine v_mem eM7 ?_
    refine v_pc (pc' := 80) rfl ?_
    refine v_aload_nR (j := 1) C dX7_square_80 rfl rfl ?_
    refine gf_X7_25 C ks_0 dX7_square_81 ?_
    refine gf_X7_158 C ks_4 dX7_square_84 ?_
    replace h := Option.some.inj h; subst h
    subst hQ
    exact v_iret C hr hlk dX7_square_87
def m_X7_fault (M : Mem) : Option Int32 :=
  some (M 0 13)
set_option maxHeartbeats 4000000 in
set_option maxRecDepth 100000 in
theorem c_X7_fault (l : Launch) (D : va_G) (cA : cAt) (B : Nat) (aK aV : Nat → Nat) (M : Mem) (R : Int32) (h : m_X7_fault M = some R) : CI l D cA B aK aV yX7_fault cX7_fault 1 .int 0 [.ref (B + 0)] M R M := by
  refine CI_of (by decide +kernel) (Nat.le_of_ble_eq_true rfl) ?_
  intro p e s m args below meth c C hr hlk
  have C : Cx p (rmd 0) s m args c 0 0 D cA B aK aV cX7_fault 1 RX7 := C
  generalize hQ : MQ below _ args s 0 0 _ = Q
  refine v_eq (M' := M) (pc' := 0) (L' := [(0, .ref (B + 0))]) (st' := []) ?_
  unfold m_X7_fault at h
  refine v_aload_nR (j := 0) C dX7_fault_0 rfl rfl ?_
  refine gf_X7_140 C ks_0 dX7_fault_1 ?_
  replace h := Option.some.inj h; subst h
  subst hQ
  exact v_iret C hr hlk dX7_fault_4
def m_X7_isSpread (M : Mem) (x0 : Int32) : Option Int32 :=
  if x0 < 0 then (some 0) else (if 2 < x0 then (some 0) else (some 1))
set_option maxHeartbeats 4000000 in
set_option maxRecDepth 100000 in
theorem c_X7_isSpread (l : Launch) (D : va_G) (cA : cAt) (B : Nat) (aK aV : Nat → Nat) (M : Mem) (x0 : Int32) (R : Int32) (h : m_X7_isSpread M x0 = some R) : CI l D cA B aK aV yX7_isSpread cX7_isSpread 1 .boolean 0 [.int x0] M R M := by
  refine CI_of (by decide +kernel) (Nat.le_of_ble_eq_true rfl) ?_
  intro p e s m args below meth c C hr hlk
  have C : Cx p (rmd 0) s m args c 0 0 D cA B aK aV cX7_isSpread 1 RX7 := C
  generalize hQ : MQ below _ args s 0 0 _ = Q
  refine v_eq (M' := M) (pc' := 0) (L' := [(0, .int x0)]) (st' := []) ?_
  unfold m_X7_isSpread at h
  refine v_iload_n (j := 0) C dX7_isSpread_0 rfl rfl ?_
  refine v_if_lt (tgt := 13) C dX7_isSpread_1 (by decide) (fun g => ?_) (fun g => ?_)
  · replace h := ite_t g h
    refine v_iconst C dX7_isSpread_13 ct_i_0 ?_
    replace h := Option.some.inj h; subst h
    subst hQ
    exact v_zret C hr hlk (show narrow .boolean (.int 0) = .int 0 from rfl) dX7_isSpread_14
  · replace h := ite_f g h
    refine v_iload_n (j := 0) C dX7_isSpread_4 rfl rfl ?_
    refine v_iconst C dX7_isSpread_5 ct_i_2 ?_
    refine v_icmp_gt (tgt := 13) C dX7_isSpread_6 (by decide) (fun g => ?_) (fun g => ?_)
    · replace h := ite_t g h
      refine v_iconst C dX7_isSpread_13 ct_i_0 ?_
      replace h := Option.some.inj h; subst h
      subst hQ
      exact v_zret C hr hlk (show narrow .boolean (.int 0) = .int 0 from rfl) dX7_isSpread_14
    · replace h := ite_f g h
      refine v_iconst C dX7_isSpread_9 ct_i_1 ?_
      refine v_pc (pc' := 10) rfl ?_
      refine v_goto (tgt := 14) C dX7_isSpread_10 (by decide) ?_
      replace h := Option.some.inj h; subst h
      subst hQ
      exact v_zret C hr hlk (show narrow .boolean (.int 1) = .int 1 from rfl) dX7_isSpread_14
def b_X7_throwPennies_9 (M : Mem) (x1 : Int32) (x3 : Int64) (x5 : Int32) (x6 : Int32) : Option ((Int64 × Int32 × Int32 × Mem) ⊕ (Int32 × Mem)) :=
  if x1 ≤ x6 then (some (.inr (x5, M))) else (nm ((x3 * 16807) % 2147483647) fun y2 => (m_X3_landBy M y2).bind fun r3 => (m_X5_pickerAt M 4 r3).bind fun r4 => (m_X5_at M 4 r4).bind fun r5 => optC r5 (some (.inl (y2, x5, x6 + 1, M))) (fun a6 => chk (kdB a6 2) (nm (mset M a6 4 ((M a6 4) + 1)) fun M8 => some (.inl (y2, x5 + 1, x6 + 1, M8)))))
def m_X7_throwPennies (M : Mem) (x1 : Int32) (x2 : Int32) : Option (Int32 × Mem) :=
  nm x2.toInt64 fun y1 => (loopF (fun z => b_X7_throwPennies_9 z.2.2.2 x1 z.1 z.2.1 z.2.2.1) FUEL (y1, 0, 0, M)).bind fun z9 => some ((z9.1, z9.2))
set_option maxHeartbeats 4000000 in
set_option maxRecDepth 100000 in
theorem c_X7_throwPennies (l : Launch) (D : va_G) (cA : cAt) (B : Nat) (aK aV : Nat → Nat) (M : Mem) (x1 : Int32) (x2 : Int32) (R : Int32 × Mem) (h : m_X7_throwPennies M x1 x2 = some R) : CI l D cA B aK aV yX7_throwPennies cX7_throwPennies 8 .int 3 [.ref (B + 0), .int x1, .int x2] M R.1 R.2 := by
  refine CI_of (by decide +kernel) (Nat.le_of_ble_eq_true rfl) ?_
  intro p e s m args below meth c C hr hlk
  have C : Cx p (rmd 3) s m args c 0 0 D cA B aK aV cX7_throwPennies 8 RX7 := C
  generalize hQ : MQ below _ args s 0 0 _ = Q
  refine v_eq (M' := M) (pc' := 0) (L' := [(0, .ref (B + 0)), (1, .int x1), (2, .int x2)]) (st' := []) ?_
  unfold m_X7_throwPennies at h
  refine v_iload_n (j := 2) C dX7_throwPennies_0 rfl rfl ?_
  refine v_i2l C dX7_throwPennies_1 ?_
  replace h := nm_ex h; obtain ⟨y1, ey1, h⟩ := h
  refine v_topJ ey1 ?_
  refine v_lstore_n (L' := [(3, .long y1), (0, .ref (B + 0)), (1, .int x1), (2, .int x2)]) C dX7_throwPennies_2 rfl (by decide) rfl ?_
  refine v_iconst C dX7_throwPennies_3 ct_i_0 ?_
  refine v_istore (L' := [(5, .int 0), (3, .long y1), (0, .ref (B + 0)), (1, .int x1), (2, .int x2)]) C dX7_throwPennies_4 (by decide) rfl ?_
  refine v_iconst C dX7_throwPennies_6 ct_i_0 ?_
  refine v_pc (pc' := 7) rfl ?_
  refine v_istore (L' := [(6, .int 0), (5, .int 0), (3, .long y1), (0, .ref (B + 0)), (1, .int x1), (2, .int x2)]) C dX7_throwPennies_7 (by decide) rfl ?_
  have LB9 : ∀ (M : Mem) (x3 : Int64) (x5 : Int32) (x6 : Int32) (o9 : (Int64 × Int32 × Int32 × Mem) ⊕ (Int32 × Mem)) (h : b_X7_throwPennies_9 M x1 x3 x5 x6 = some o9) (hc9 : ∀ z : Int64 × Int32 × Int32 × Mem, o9 = .inl z → V p l e (rmd 3) s m args below meth c 0 0 D cA B 8 Q z.2.2.2 9 [(0, .ref (B + 0)), (1, .int x1), (3, .long z.1), (5, .int z.2.1), (6, .int z.2.2.1)] []) (he9 : ∀ z : Int32 × Mem, o9 = .inr z → V p l e (rmd 3) s m args below meth c 0 0 D cA B 8 Q z.2 74 [(5, .int z.1)] []), V p l e (rmd 3) s m args below meth c 0 0 D cA B 8 Q M 9 [(0, .ref (B + 0)), (1, .int x1), (3, .long x3), (5, .int x5), (6, .int x6)] [] := by
    intro M x3 x5 x6 o9 h hc9 he9
    unfold b_X7_throwPennies_9 at h
    refine v_iload (j := 4) C dX7_throwPennies_9 rfl ?_
    refine v_iload_n (j := 1) C dX7_throwPennies_11 rfl rfl ?_
    refine v_icmp_ge (tgt := 74) C dX7_throwPennies_12 (by decide) (fun g => ?_) (fun g => ?_)
    · replace h := ite_t g h
      replace h := Option.some.inj h; subst h
      refine v_sub [3] rfl ?_
      exact he9 (x5, M) rfl
    · replace h := ite_f g h
      refine v_lload_n (j := 2) C dX7_throwPennies_15 rfl rfl ?_
      refine v_ldc2 C tw_602 dX7_throwPennies_16 ?_
      refine v_lmul C dX7_throwPennies_19 ?_
      refine v_pc (pc' := 20) rfl ?_
      refine v_ldc2 C tw_603 dX7_throwPennies_20 ?_
      refine v_lrem C dX7_throwPennies_23 (by decide) ?_
      replace h := nm_ex h; obtain ⟨y2, ey2, h⟩ := h
      refine v_topJ ey2 ?_
      refine v_lstore_n (L' := [(3, .long y2), (0, .ref (B + 0)), (1, .int x1), (5, .int x5), (6, .int x6)]) C dX7_throwPennies_24 rfl (by decide) rfl ?_
      refine v_aload_nR (j := 1) C dX7_throwPennies_25 rfl rfl ?_
      refine gf_X7_25 C ks_0 dX7_throwPennies_26 ?_
      refine v_aload_nR (j := 1) C dX7_throwPennies_29 rfl rfl ?_
      refine gf_X7_25 C ks_0 dX7_throwPennies_30 ?_
      refine v_pc (pc' := 33) rfl ?_
      refine v_aload_nR (j := 1) C dX7_throwPennies_33 rfl rfl ?_
      refine gf_X7_49 C ks_0 dX7_throwPennies_34 ?_
      refine v_lload_n (j := 0) C dX7_throwPennies_37 rfl rfl ?_
      replace h := bind_ex h; obtain ⟨r3, hr3, h⟩ := h
      refine cvN_I C tw_607 tw_108 tw_604 tw_606 tw_35 pd_X3_landBy (Nat.le_of_ble_eq_true rfl) (Nat.le_of_ble_eq_true rfl) (q := 196) (kd_lt ks_196 (by decide)) (sh3 ks_196) rfl (As := [.long y2]) (rest := [.ref (B + 4), .ref (B + 4)]) rfl rfl (Nat.le_of_ble_eq_true rfl) (c_X3_landBy l D cA B aK aV M y2 r3 hr3) dX7_throwPennies_38 ?_
      replace h := bind_ex h; obtain ⟨r4, hr4, h⟩ := h
      refine cvN_I C tw_615 tw_105 tw_612 tw_614 tw_37 pd_X5_pickerAt (Nat.le_of_ble_eq_true rfl) (Nat.le_of_ble_eq_true rfl) (q := 4) (kd_lt ks_4 (by decide)) (sh5 ks_4) rfl (As := [.int r3]) (rest := [.ref (B + 4)]) rfl rfl (Nat.le_of_ble_eq_true rfl) (c_X5_pickerAt l D cA B aK aV M 4 r3 ks_4 r4 hr4) dX7_throwPennies_41 ?_
      replace h := bind_ex h; obtain ⟨r5, hr5, h⟩ := h
      refine cvN_Q C tw_534 tw_105 tw_634 tw_533 tw_25 pd_X5_at (Nat.le_of_ble_eq_true rfl) (Nat.le_of_ble_eq_true rfl) (q := 4) (kd_lt ks_4 (by decide)) (sh5 ks_4) rfl (As := [.int r4]) (rest := []) rfl rfl (Nat.le_of_ble_eq_true rfl) (c_X5_at l D cA B aK aV M 4 r4 ks_4 r5 hr5) dX7_throwPennies_44 ?_
      refine v_astoreO (L' := [(7, rv B r5), (3, .long y2), (0, .ref (B + 0)), (1, .int x1), (5, .int x5), (6, .int x6)]) C dX7_throwPennies_47 (by decide) rfl ?_
      refine v_pc (pc' := 49) rfl ?_
      refine v_aloadO (j := 0) C dX7_throwPennies_49 rfl ?_
      replace h := optC_ex h
      rcases h with ⟨rfl, h⟩ | ⟨a6, rfl, h⟩
      · refine v_eq (M' := M) (pc' := 51) (L' := [(7, .null), (3, .long y2), (0, .ref (B + 0)), (1, .int x1), (5, .int x5), (6, .int x6)]) (st' := [.null]) ?_
        refine v_ifnullN (tgt := 68) C dX7_throwPennies_51 (by decide) ?_
        refine v_iinc (j := 5) (L' := [(6, .int (x6 + 1)), (7, .null), (3, .long y2), (0, .ref (B + 0)), (1, .int x1), (5, .int x5)]) C dX7_throwPennies_68 rfl (congrArg (fun z => _ + z) ct_i_1) (by decide) rfl ?_
        refine v_goto (tgt := 9) C dX7_throwPennies_71 (by decide) ?_
        replace h := Option.some.inj h; subst h
        refine v_sub [3, 4, 2, 5, 0] rfl ?_
        exact hc9 (y2, x5, x6 + 1, M) rfl
      · replace h := chk_some h; obtain ⟨g7, h⟩ := h
        replace g7 := kdB_eq g7
        refine v_eq (M' := M) (pc' := 51) (L' := [(7, .ref (B + a6)), (3, .long y2), (0, .ref (B + 0)), (1, .int x1), (5, .int x5), (6, .int x6)]) (st' := [.ref (B + a6)]) ?_
        refine v_ifnullS C dX7_throwPennies_51 ?_
        refine v_aloadR (j := 0) C dX7_throwPennies_54 rfl ?_
        refine v_dup C dX7_throwPennies_56 rfl ?_
        refine gf_X7_197 C g7 dX7_throwPennies_57 ?_
        refine v_iconst C dX7_throwPennies_60 ct_i_1 ?_
        refine v_iadd C dX7_throwPennies_61 ?_
        replace h := nm_ex h; obtain ⟨M8, eM8, h⟩ := h
        refine pf_X7_197 C g7 dX7_throwPennies_62 ?_
        refine v_mem eM8 ?_
        refine v_pc (pc' := 65) rfl ?_
        refine v_iinc (j := 4) (L' := [(5, .int (x5 + 1)), (7, .ref (B + a6)), (3, .long y2), (0, .ref (B + 0)), (1, .int x1), (6, .int x6)]) C dX7_throwPennies_65 rfl (congrArg (fun z => _ + z) ct_i_1) (by decide) rfl ?_
        refine v_iinc (j := 5) (L' := [(6, .int (x6 + 1)), (5, .int (x5 + 1)), (7, .ref (B + a6)), (3, .long y2), (0, .ref (B + 0)), (1, .int x1)]) C dX7_throwPennies_68 rfl (congrArg (fun z => _ + z) ct_i_1) (by decide) rfl ?_
        refine v_goto (tgt := 9) C dX7_throwPennies_71 (by decide) ?_
        replace h := Option.some.inj h; subst h
        refine v_sub [4, 5, 3, 1, 0] rfl ?_
        exact hc9 (y2, x5 + 1, x6 + 1, M8) rfl
  replace h := bind_ex h; obtain ⟨z9, hz9, h⟩ := h
  refine v_sub [3, 4, 2, 1, 0] rfl ?_
  refine loopF_walk (Pσ := fun z => V p l e (rmd 3) s m args below meth c 0 0 D cA B 8 Q z.2.2.2 9 [(0, .ref (B + 0)), (1, .int x1), (3, .long z.1), (5, .int z.2.1), (6, .int z.2.2.1)] []) (Pρ := fun y => V p l e (rmd 3) s m args below meth c 0 0 D cA B 8 Q y.2 74 [(5, .int y.1)] []) ?_ FUEL (y1, 0, 0, M) z9 hz9 ?_
  · intro z o hb hc he
    exact LB9 z.2.2.2 z.1 z.2.1 z.2.2.1 o hb hc he
  · refine v_iload (j := 0) C dX7_throwPennies_74 rfl ?_
    replace h := Option.some.inj h; subst h
    subst hQ
    exact v_iret C hr hlk dX7_throwPennies_76
