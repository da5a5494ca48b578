def m_X7_toss (M : Mem) (x1 : Int32) (x2 : Int32) (x3 : Int32) (x4 : Int32) : Option (Int32 × Mem) :=
  if (M 4 1) = 0 then (some (((-1000002), M))) else ((m_X7_isCell M x1).bind fun r1 => if r1 = 0 then (some (((-1000001), M))) else ((m_X7_isSpread M x2).bind fun r2 => if r2 = 0 then (some (((-1000001), M))) else (if x3 < 1 then (some (((-1000001), M))) else (if 20 < x3 then (some (((-1000001), M))) else (if x4 < 1 then (some (((-1000001), M))) else (if x4 ≤ 999999 then ((m_X5_mostPennies M 4).bind fun r3 => if (r3 + x3) ≤ 9999 then ((m_X0_keep M 4).bind fun r4 => (m_X3_throwAt r4 x1 x2).bind fun r5 => (m_X7_throwPennies r5 x3 x4).bind fun r6 => some ((r6.1, r6.2))) else (some (((-1000003), M)))) else (some (((-1000001), M)))))))))
set_option maxHeartbeats 4000000 in
set_option maxRecDepth 100000 in
theorem c_X7_toss (l : Launch) (D : va_G) (cA : cAt) (B : Nat) (aK aV : Nat → Nat) (M : Mem) (x1 : Int32) (x2 : Int32) (x3 : Int32) (x4 : Int32) (R : Int32 × Mem) (h : m_X7_toss M x1 x2 x3 x4 = some R) : CI l D cA B aK aV yX7_toss cX7_toss 5 .int 4 [.ref (B + 0), .int x1, .int x2, .int x3, .int x4] M R.1 R.2 := by
  refine CI_of (by decide +kernel) (Nat.le_of_ble_eq_true rfl) ?_
  intro p e s m args below meth c C hr hlk
  have C : Cx p (rmd 4) s m args c 0 0 D cA B aK aV cX7_toss 5 RX7 := C
  generalize hQ : MQ below _ args s 0 0 _ = Q
  refine v_eq (M' := M) (pc' := 0) (L' := [(0, .ref (B + 0)), (1, .int x1), (2, .int x2), (3, .int x3), (4, .int x4)]) (st' := []) ?_
  unfold m_X7_toss at h
  refine v_aload_nR (j := 0) C dX7_toss_0 rfl rfl ?_
  refine gf_X7_25 C ks_0 dX7_toss_1 ?_
  refine gf_X7_147 C ks_4 dX7_toss_4 ?_
  refine v_if_ne (tgt := 13) C dX7_toss_7 (by decide) (fun g => ?_) (fun g => ?_)
  · replace h := ite_t g h
    refine v_ldc C tw_553 dX7_toss_10 ?_
    replace h := Option.some.inj h; subst h
    subst hQ
    exact v_iret C hr hlk dX7_toss_12
  · replace h := ite_f g h
    refine v_iload_n (j := 1) C dX7_toss_13 rfl rfl ?_
    replace h := bind_ex h; obtain ⟨r1, hr1, h⟩ := h
    refine cs_I C tw_556 tw_103 tw_554 tw_555 pd_X7_isCell (Nat.le_of_ble_eq_true rfl) (Nat.le_of_ble_eq_true rfl) (As := [.int x1]) (rest := []) rfl rfl (Nat.le_of_ble_eq_true rfl) (c_X7_isCell l D cA B aK aV M x1 r1 hr1) dX7_toss_14 ?_
    refine v_if_eq (tgt := 51) C dX7_toss_17 (by decide) (fun g => ?_) (fun g => ?_)
    · replace h := ite_t g h
      refine v_ldc C tw_343 dX7_toss_51 ?_
      replace h := Option.some.inj h; subst h
      subst hQ
      exact v_iret C hr hlk dX7_toss_53
    · replace h := ite_f g h
      refine v_iload_n (j := 2) C dX7_toss_20 rfl rfl ?_
      replace h := bind_ex h; obtain ⟨r2, hr2, h⟩ := h
      refine cs_I C tw_559 tw_103 tw_557 tw_558 pd_X7_isSpread (Nat.le_of_ble_eq_true rfl) (Nat.le_of_ble_eq_true rfl) (As := [.int x2]) (rest := []) rfl rfl (Nat.le_of_ble_eq_true rfl) (c_X7_isSpread l D cA B aK aV M x2 r2 hr2) dX7_toss_21 ?_
      refine v_if_eq (tgt := 51) C dX7_toss_24 (by decide) (fun g => ?_) (fun g => ?_)
      · replace h := ite_t g h
        refine v_ldc C tw_343 dX7_toss_51 ?_
        replace h := Option.some.inj h; subst h
        subst hQ
        exact v_iret C hr hlk dX7_toss_53
      · replace h := ite_f g h
        refine v_pc (pc' := 27) rfl ?_
        refine v_iload_n (j := 3) C dX7_toss_27 rfl rfl ?_
        refine v_iconst C dX7_toss_28 ct_i_1 ?_
        refine v_icmp_lt (tgt := 51) C dX7_toss_29 (by decide) (fun g => ?_) (fun g => ?_)
        · replace h := ite_t g h
          refine v_ldc C tw_343 dX7_toss_51 ?_
          replace h := Option.some.inj h; subst h
          subst hQ
          exact v_iret C hr hlk dX7_toss_53
        · replace h := ite_f g h
          refine v_iload_n (j := 3) C dX7_toss_32 rfl rfl ?_
          refine v_bipush C dX7_toss_33 ct_b_20 ?_
          refine v_icmp_gt (tgt := 51) C dX7_toss_35 (by decide) (fun g => ?_) (fun g => ?_)
          · replace h := ite_t g h
            refine v_ldc C tw_343 dX7_toss_51 ?_
            replace h := Option.some.inj h; subst h
            subst hQ
            exact v_iret C hr hlk dX7_toss_53
          · replace h := ite_f g h
            refine v_iload (j := 4) C dX7_toss_38 rfl ?_
            refine v_pc (pc' := 40) rfl ?_
            refine v_iconst C dX7_toss_40 ct_i_1 ?_
            refine v_icmp_lt (tgt := 51) C dX7_toss_41 (by decide) (fun g => ?_) (fun g => ?_)
            · replace h := ite_t g h
              refine v_ldc C tw_343 dX7_toss_51 ?_
              replace h := Option.some.inj h; subst h
              subst hQ
              exact v_iret C hr hlk dX7_toss_53
            · replace h := ite_f g h
              refine v_iload (j := 4) C dX7_toss_44 rfl ?_
              refine v_ldc C tw_560 dX7_toss_46 ?_
              refine v_icmp_le (tgt := 54) C dX7_toss_48 (by decide) (fun g => ?_) (fun g => ?_)
              · replace h := ite_t g h
                refine v_aload_nR (j := 0) C dX7_toss_54 rfl rfl ?_
                refine gf_X7_25 C ks_0 dX7_toss_55 ?_
                replace h := bind_ex h; obtain ⟨r3, hr3, h⟩ := h
                refine cvN_I C tw_564 tw_105 tw_561 tw_563 tw_28 pd_X5_mostPennies (Nat.le_of_ble_eq_true rfl) (Nat.le_of_ble_eq_true rfl) (q := 4) (kd_lt ks_4 (by decide)) (sh5 ks_4) rfl (As := []) (rest := []) rfl rfl (Nat.le_of_ble_eq_true rfl) (c_X5_mostPennies l D cA B aK aV M 4 ks_4 r3 hr3) dX7_toss_58 ?_
                refine v_iload_n (j := 3) C dX7_toss_61 rfl rfl ?_
                refine v_iadd C dX7_toss_62 ?_
                refine v_sipush C dX7_toss_63 ct_s_9999 ?_
                refine v_pc (pc' := 66) rfl ?_
                refine v_icmp_le (tgt := 72) C dX7_toss_66 (by decide) (fun g => ?_) (fun g => ?_)
                · replace h := ite_t g h
                  refine v_aload_nR (j := 0) C dX7_toss_72 rfl rfl ?_
                  refine gf_X7_42 C ks_0 dX7_toss_73 ?_
                  refine v_aload_nR (j := 0) C dX7_toss_76 rfl rfl ?_
                  refine gf_X7_25 C ks_0 dX7_toss_77 ?_
                  replace h := bind_ex h; obtain ⟨r4, hr4, h⟩ := h
                  refine cvN_V C tw_571 tw_107 tw_568 tw_570 tw_29 pd_X0_keep (Nat.le_of_ble_eq_true rfl) (Nat.le_of_ble_eq_true rfl) (q := 26) (kd_lt ks_26 (by decide)) (sh0 ks_26) rfl (As := [.ref (B + 4)]) (rest := []) rfl rfl (Nat.le_of_ble_eq_true rfl) (c_X0_keep l D cA B aK aV M 4 ks_4 r4 hr4) dX7_toss_80 ?_
                  refine v_aload_nR (j := 0) C dX7_toss_83 rfl rfl ?_
                  refine v_pc (pc' := 84) rfl ?_
                  refine gf_X7_49 C ks_0 dX7_toss_84 ?_
                  refine v_iload_n (j := 1) C dX7_toss_87 rfl rfl ?_
                  refine v_iload_n (j := 2) C dX7_toss_88 rfl rfl ?_
                  replace h := bind_ex h; obtain ⟨r5, hr5, h⟩ := h
                  refine cvN_V C tw_584 tw_108 tw_581 tw_583 tw_32 pd_X3_throwAt (Nat.le_of_ble_eq_true rfl) (Nat.le_of_ble_eq_true rfl) (q := 196) (kd_lt ks_196 (by decide)) (sh3 ks_196) rfl (As := [.int x1, .int x2]) (rest := []) rfl rfl (Nat.le_of_ble_eq_true rfl) (c_X3_throwAt l D cA B aK aV r4 x1 x2 r5 hr5) dX7_toss_89 ?_
                  refine v_aload_nR (j := 0) C dX7_toss_92 rfl rfl ?_
                  refine v_iload_n (j := 3) C dX7_toss_93 rfl rfl ?_
                  refine v_iload (j := 4) C dX7_toss_94 rfl ?_
                  refine v_pc (pc' := 96) rfl ?_
                  replace h := bind_ex h; obtain ⟨r6, hr6, h⟩ := h
                  refine cv_I C tw_601 tw_103 tw_598 tw_600 tw_34 pd_X7_throwPennies (Nat.le_of_ble_eq_true rfl) (Nat.le_of_ble_eq_true rfl) (q := 0) (kd_lt ks_0 (by decide)) (sh7 ks_0) rfl (As := [.int x3, .int x4]) (rest := []) rfl rfl (Nat.le_of_ble_eq_true rfl) (c_X7_throwPennies l D cA B aK aV r5 x3 x4 r6 hr6) dX7_toss_96 ?_
                  replace h := Option.some.inj h; subst h
                  subst hQ
                  exact v_iret C hr hlk dX7_toss_99
                · replace h := ite_f g h
                  refine v_ldc C tw_395 dX7_toss_69 ?_
                  replace h := Option.some.inj h; subst h
                  subst hQ
                  exact v_iret C hr hlk dX7_toss_71
              · replace h := ite_f g h
                refine v_ldc C tw_343 dX7_toss_51 ?_
                replace h := Option.some.inj h; subst h
                subst hQ
                exact v_iret C hr hlk dX7_toss_53
def m_X7_run (M : Mem) (x1 : Int32) (x2 : Int32) : Option (Int32 × Mem) :=
  (m_X5_at M 4 x1).bind fun r1 => optC r1 (some (((-1000001), M))) (fun a2 => chk (kdB a2 2) ((m_X7_isCell M x2).bind fun r4 => if r4 = 0 then (some (((-1000001), M))) else ((m_X0_keep M 4).bind fun r5 => (m_X7_far r5 (r5 a2 3) x2).bind fun r6 => nm (mset r5 a2 3 x2) fun M7 => some ((r6, M7)))))
set_option maxHeartbeats 4000000 in
set_option maxRecDepth 100000 in
theorem c_X7_run (l : Launch) (D : va_G) (cA : cAt) (B : Nat) (aK aV : Nat → Nat) (M : Mem) (x1 : Int32) (x2 : Int32) (R : Int32 × Mem) (h : m_X7_run M x1 x2 = some R) : CI l D cA B aK aV yX7_run cX7_run 5 .int 3 [.ref (B + 0), .int x1, .int x2] M R.1 R.2 := by
  refine CI_of (by decide +kernel) (Nat.le_of_ble_eq_true rfl) ?_
  intro p e s m args below meth c C hr hlk
  have C : Cx p (rmd 3) s m args c 0 0 D cA B aK aV cX7_run 5 RX7 := C
  generalize hQ : MQ below _ args s 0 0 _ = Q
  refine v_eq (M' := M) (pc' := 0) (L' := [(0, .ref (B + 0)), (1, .int x1), (2, .int x2)]) (st' := []) ?_
  unfold m_X7_run at h
  refine v_aload_nR (j := 0) C dX7_run_0 rfl rfl ?_
  refine gf_X7_25 C ks_0 dX7_run_1 ?_
  refine v_iload_n (j := 1) C dX7_run_4 rfl rfl ?_
  replace h := bind_ex h; obtain ⟨r1, hr1, h⟩ := h
  refine cvN_Q C tw_534 tw_105 tw_634 tw_533 tw_25 pd_X5_at (Nat.le_of_ble_eq_true rfl) (Nat.le_of_ble_eq_true rfl) (q := 4) (kd_lt ks_4 (by decide)) (sh5 ks_4) rfl (As := [.int x1]) (rest := []) rfl rfl (Nat.le_of_ble_eq_true rfl) (c_X5_at l D cA B aK aV M 4 x1 ks_4 r1 hr1) dX7_run_5 ?_
  refine v_astore_nO (L' := [(3, rv B r1), (0, .ref (B + 0)), (1, .int x1), (2, .int x2)]) C dX7_run_8 rfl (by decide) rfl ?_
  refine v_aload_nO (j := 0) C dX7_run_9 rfl rfl ?_
  refine v_pc (pc' := 10) rfl ?_
  replace h := optC_ex h
  rcases h with ⟨rfl, h⟩ | ⟨a2, rfl, h⟩
  · refine v_eq (M' := M) (pc' := 10) (L' := [(3, .null), (0, .ref (B + 0)), (1, .int x1), (2, .int x2)]) (st' := [.null]) ?_
    refine v_ifnullN (tgt := 20) C dX7_run_10 (by decide) ?_
    refine v_ldc C tw_343 dX7_run_20 ?_
    replace h := Option.some.inj h; subst h
    subst hQ
    exact v_iret C hr hlk dX7_run_22
  · replace h := chk_some h; obtain ⟨g3, h⟩ := h
    replace g3 := kdB_eq g3
    refine v_eq (M' := M) (pc' := 10) (L' := [(3, .ref (B + a2)), (0, .ref (B + 0)), (1, .int x1), (2, .int x2)]) (st' := [.ref (B + a2)]) ?_
    refine v_ifnullS C dX7_run_10 ?_
    refine v_iload_n (j := 3) C dX7_run_13 rfl rfl ?_
    replace h := bind_ex h; obtain ⟨r4, hr4, h⟩ := h
    refine cs_I C tw_556 tw_103 tw_554 tw_555 pd_X7_isCell (Nat.le_of_ble_eq_true rfl) (Nat.le_of_ble_eq_true rfl) (As := [.int x2]) (rest := []) rfl rfl (Nat.le_of_ble_eq_true rfl) (c_X7_isCell l D cA B aK aV M x2 r4 hr4) dX7_run_14 ?_
    refine v_if_ne (tgt := 23) C dX7_run_17 (by decide) (fun g => ?_) (fun g => ?_)
    · replace h := ite_t g h
      refine v_ldc C tw_343 dX7_run_20 ?_
      replace h := Option.some.inj h; subst h
      subst hQ
      exact v_iret C hr hlk dX7_run_22
    · replace h := ite_f g h
      refine v_aload_nR (j := 1) C dX7_run_23 rfl rfl ?_
      refine gf_X7_42 C ks_0 dX7_run_24 ?_
      refine v_aload_nR (j := 1) C dX7_run_27 rfl rfl ?_
      refine gf_X7_25 C ks_0 dX7_run_28 ?_
      replace h := bind_ex h; obtain ⟨r5, hr5, h⟩ := h
      refine cvN_V C tw_571 tw_107 tw_568 tw_570 tw_29 pd_X0_keep (Nat.le_of_ble_eq_true rfl) (Nat.le_of_ble_eq_true rfl) (q := 26) (kd_lt ks_26 (by decide)) (sh0 ks_26) rfl (As := [.ref (B + 4)]) (rest := []) rfl rfl (Nat.le_of_ble_eq_true rfl) (c_X0_keep l D cA B aK aV M 4 ks_4 r5 hr5) dX7_run_31 ?_
      refine v_aload_nR (j := 0) C dX7_run_34 rfl rfl ?_
      refine v_pc (pc' := 35) rfl ?_
      refine gf_X7_186 C g3 dX7_run_35 ?_
      refine v_iload_n (j := 3) C dX7_run_38 rfl rfl ?_
      replace h := bind_ex h; obtain ⟨r6, hr6, h⟩ := h
      refine cs_I C tw_623 tw_103 tw_639 tw_622 pd_X7_far (Nat.le_of_ble_eq_true rfl) (Nat.le_of_ble_eq_true rfl) (As := [.int (r5 a2 3), .int x2]) (rest := []) rfl rfl (Nat.le_of_ble_eq_true rfl) (c_X7_far l D cA B aK aV r5 (r5 a2 3) x2 r6 hr6) dX7_run_39 ?_
      refine v_istore (L' := [(4, .int r6), (3, .ref (B + a2)), (0, .ref (B + 0)), (1, .int x1), (2, .int x2)]) C dX7_run_42 (by decide) rfl ?_
      refine v_aload_nR (j := 1) C dX7_run_44 rfl rfl ?_
      refine v_iload_n (j := 4) C dX7_run_45 rfl rfl ?_
      replace h := nm_ex h; obtain ⟨M7, eM7, h⟩ := h
      refine pf_X7_186 C g3 dX7_run_46 ?_
      refine v_mem eM7 ?_
      refine v_pc (pc' := 49) rfl ?_
      refine v_iload (j := 0) C dX7_run_49 rfl ?_
      replace h := Option.some.inj h; subst h
      subst hQ
      exact v_iret C hr hlk dX7_run_51
def m_X7_corner (M : Mem) (x1 : Int32) (x2 : Int32) : Option (Int32 × Mem) :=
  (m_X5_at M 4 x1).bind fun r1 => (m_X5_at M 4 x2).bind fun r2 => optC r1 (some (((-1000001), M))) (fun a3 => chk (kdB a3 2) (optC r2 (some (((-1000001), M))) (fun a5 => chk (kdB a5 2) (if x1 = x2 then (some (((-1000001), M))) else ((m_X2_might M a5).bind fun r7 => (m_X2_might M a3).bind fun r8 => if r7 < r8 then (nm ((M a5 4) / 2) fun y9 => if ((M a3 4) + y9) ≤ 9999 then ((m_X0_keep M 4).bind fun r10 => nm (mset r10 a5 4 ((r10 a5 4) - y9)) fun M11 => nm (mset M11 a3 4 ((M11 a3 4) + y9)) fun M12 => some ((y9, M12))) else (some (((-1000003), M)))) else (some (((-1000002), M))))))))
set_option maxHeartbeats 4000000 in
set_option maxRecDepth 100000 in
theorem c_X7_corner (l : Launch) (D : va_G) (cA : cAt) (B : Nat) (aK aV : Nat → Nat) (M : Mem) (x1 : Int32) (x2 : Int32) (R : Int32 × Mem) (h : m_X7_corner M x1 x2 = some R) : CI l D cA B aK aV yX7_corner cX7_corner 6 .int 3 [.ref (B + 0), .int x1, .int x2] M R.1 R.2 := by
  refine CI_of (by decide +kernel) (Nat.le_of_ble_eq_true rfl) ?_
  intro p e s m args below meth c C hr hlk
  have C : Cx p (rmd 3) s m args c 0 0 D cA B aK aV cX7_corner 6 RX7 := C
  generalize hQ : MQ below _ args s 0 0 _ = Q
  refine v_eq (M' := M) (pc' := 0) (L' := [(0, .ref (B + 0)), (1, .int x1), (2, .int x2)]) (st' := []) ?_
  unfold m_X7_corner at h
  refine v_aload_nR (j := 0) C dX7_corner_0 rfl rfl ?_
  refine gf_X7_25 C ks_0 dX7_corner_1 ?_
  refine v_iload_n (j := 1) C dX7_corner_4 rfl rfl ?_
  replace h := bind_ex h; obtain ⟨r1, hr1, h⟩ := h
  refine cvN_Q C tw_534 tw_105 tw_634 tw_533 tw_25 pd_X5_at (Nat.le_of_ble_eq_true rfl) (Nat.le_of_ble_eq_true rfl) (q := 4) (kd_lt ks_4 (by decide)) (sh5 ks_4) rfl (As := [.int x1]) (rest := []) rfl rfl (Nat.le_of_ble_eq_true rfl) (c_X5_at l D cA B aK aV M 4 x1 ks_4 r1 hr1) dX7_corner_5 ?_
  refine v_astore_nO (L' := [(3, rv B r1), (0, .ref (B + 0)), (1, .int x1), (2, .int x2)]) C dX7_corner_8 rfl (by decide) rfl ?_
  refine v_aload_nR (j := 1) C dX7_corner_9 rfl rfl ?_
  refine v_pc (pc' := 10) rfl ?_
  refine gf_X7_25 C ks_0 dX7_corner_10 ?_
  refine v_iload_n (j := 3) C dX7_corner_13 rfl rfl ?_
  replace h := bind_ex h; obtain ⟨r2, hr2, h⟩ := h
  refine cvN_Q C tw_534 tw_105 tw_634 tw_533 tw_25 pd_X5_at (Nat.le_of_ble_eq_true rfl) (Nat.le_of_ble_eq_true rfl) (q := 4) (kd_lt ks_4 (by decide)) (sh5 ks_4) rfl (As := [.int x2]) (rest := []) rfl rfl (Nat.le_of_ble_eq_true rfl) (c_X5_at l D cA B aK aV M 4 x2 ks_4 r2 hr2) dX7_corner_14 ?_
  refine v_astoreO (L' := [(4, rv B r2), (3, rv B r1), (0, .ref (B + 0)), (1, .int x1), (2, .int x2)]) C dX7_corner_17 (by decide) (by cases r1 <;> rfl) ?_
  refine v_aload_nO (j := 1) C dX7_corner_19 rfl rfl ?_
  replace h := optC_ex h
  rcases h with ⟨rfl, h⟩ | ⟨a3, rfl, h⟩
  · refine v_eq (M' := M) (pc' := 20) (L' := [(4, rv B r2), (3, .null), (0, .ref (B + 0)), (1, .int x1), (2, .int x2)]) (st' := [.null]) ?_
    refine v_ifnullN (tgt := 33) C dX7_corner_20 (by decide) ?_
    refine v_ldc C tw_343 dX7_corner_33 ?_
    replace h := Option.some.inj h; subst h
    subst hQ
    exact v_iret C hr hlk dX7_corner_35
  · replace h := chk_some h; obtain ⟨g4, h⟩ := h
    replace g4 := kdB_eq g4
    refine v_eq (M' := M) (pc' := 20) (L' := [(4, rv B r2), (3, .ref (B + a3)), (0, .ref (B + 0)), (1, .int x1), (2, .int x2)]) (st' := [.ref (B + a3)]) ?_
    refine v_ifnullS C dX7_corner_20 ?_
    refine v_aloadO (j := 0) C dX7_corner_23 rfl ?_
    replace h := optC_ex h
    rcases h with ⟨rfl, h⟩ | ⟨a5, rfl, h⟩
    · refine v_eq (M' := M) (pc' := 25) (L' := [(4, .null), (3, .ref (B + a3)), (0, .ref (B + 0)), (1, .int x1), (2, .int x2)]) (st' := [.null]) ?_
      refine v_ifnullN (tgt := 33) C dX7_corner_25 (by decide) ?_
      refine v_ldc C tw_343 dX7_corner_33 ?_
      replace h := Option.some.inj h; subst h
      subst hQ
      exact v_iret C hr hlk dX7_corner_35
    · replace h := chk_some h; obtain ⟨g6, h⟩ := h
      replace g6 := kdB_eq g6
      refine v_eq (M' := M) (pc' := 25) (L' := [(4, .ref (B + a5)), (3, .ref (B + a3)), (0, .ref (B + 0)), (1, .int x1), (2, .int x2)]) (st' := [.ref (B + a5)]) ?_
      refine v_ifnullS C dX7_corner_25 ?_
      refine v_iload_n (j := 3) C dX7_corner_28 rfl rfl ?_
      refine v_iload_n (j := 4) C dX7_corner_29 rfl rfl ?_
      refine v_icmp_ne (tgt := 36) C dX7_corner_30 (by decide) (fun g => ?_) (fun g => ?_)
      · replace h := ite_t g h
        refine v_ldc C tw_343 dX7_corner_33 ?_
        replace h := Option.some.inj h; subst h
        subst hQ
        exact v_iret C hr hlk dX7_corner_35
      · replace h := ite_f g h
        refine v_aloadR (j := 0) C dX7_corner_36 rfl ?_
        replace h := bind_ex h; obtain ⟨r7, hr7, h⟩ := h
        refine cvN_I C tw_633 tw_106 tw_644 tw_632 tw_40 pd_X2_might (Nat.le_of_ble_eq_true rfl) (Nat.le_of_ble_eq_true rfl) (q := a5) (kd_lt g6 (by decide)) (sh2 g6) rfl (As := []) (rest := []) rfl rfl (Nat.le_of_ble_eq_true rfl) (c_X2_might l D cA B aK aV M a5 g6 r7 hr7) dX7_corner_38 ?_
        refine v_aload_nR (j := 1) C dX7_corner_41 rfl rfl ?_
        replace h := bind_ex h; obtain ⟨r8, hr8, h⟩ := h
        refine cvN_I C tw_633 tw_106 tw_644 tw_632 tw_40 pd_X2_might (Nat.le_of_ble_eq_true rfl) (Nat.le_of_ble_eq_true rfl) (q := a3) (kd_lt g4 (by decide)) (sh2 g4) rfl (As := []) (rest := [.int r7]) rfl rfl (Nat.le_of_ble_eq_true rfl) (c_X2_might l D cA B aK aV M a3 g4 r8 hr8) dX7_corner_42 ?_
        refine v_icmp_lt (tgt := 51) C dX7_corner_45 (by decide) (fun g => ?_) (fun g => ?_)
        · replace h := ite_t g h
          refine v_aloadR (j := 0) C dX7_corner_51 rfl ?_
          refine gf_X7_197 C g6 dX7_corner_53 ?_
          refine v_iconst C dX7_corner_56 ct_i_2 ?_
          refine v_idiv C dX7_corner_57 (by decide) ?_
          replace h := nm_ex h; obtain ⟨y9, ey9, h⟩ := h
          refine v_topI ey9 ?_
          refine v_istore (L' := [(5, .int y9), (4, .ref (B + a5)), (3, .ref (B + a3)), (0, .ref (B + 0)), (1, .int x1), (2, .int x2)]) C dX7_corner_58 (by decide) rfl ?_
          refine v_aload_nR (j := 2) C dX7_corner_60 rfl rfl ?_
          refine v_pc (pc' := 61) rfl ?_
          refine gf_X7_197 C g4 dX7_corner_61 ?_
          refine v_iload (j := 0) C dX7_corner_64 rfl ?_
          refine v_iadd C dX7_corner_66 ?_
          refine v_sipush C dX7_corner_67 ct_s_9999 ?_
          refine v_icmp_le (tgt := 76) C dX7_corner_70 (by decide) (fun g => ?_) (fun g => ?_)
          · replace h := ite_t g h
            refine v_aload_nR (j := 3) C dX7_corner_76 rfl rfl ?_
            refine gf_X7_42 C ks_0 dX7_corner_77 ?_
            refine v_aload_nR (j := 3) C dX7_corner_80 rfl rfl ?_
            refine gf_X7_25 C ks_0 dX7_corner_81 ?_
            replace h := bind_ex h; obtain ⟨r10, hr10, h⟩ := h
            refine cvN_V C tw_571 tw_107 tw_568 tw_570 tw_29 pd_X0_keep (Nat.le_of_ble_eq_true rfl) (Nat.le_of_ble_eq_true rfl) (q := 26) (kd_lt ks_26 (by decide)) (sh0 ks_26) rfl (As := [.ref (B + 4)]) (rest := []) rfl rfl (Nat.le_of_ble_eq_true rfl) (c_X0_keep l D cA B aK aV M 4 ks_4 r10 hr10) dX7_corner_84 ?_
            refine v_aloadR (j := 1) C dX7_corner_87 rfl ?_
            refine v_pc (pc' := 89) rfl ?_
            refine v_dup C dX7_corner_89 rfl ?_
            refine gf_X7_197 C g6 dX7_corner_90 ?_
            refine v_iload (j := 0) C dX7_corner_93 rfl ?_
            refine v_isub C dX7_corner_95 ?_
            replace h := nm_ex h; obtain ⟨M11, eM11, h⟩ := h
            refine pf_X7_197 C g6 dX7_corner_96 ?_
            refine v_mem eM11 ?_
            refine v_aload_nR (j := 2) C dX7_corner_99 rfl rfl ?_
            refine v_dup C dX7_corner_100 rfl ?_
            refine v_pc (pc' := 101) rfl ?_
            refine gf_X7_197 C g4 dX7_corner_101 ?_
            refine v_iload (j := 0) C dX7_corner_104 rfl ?_
            refine v_iadd C dX7_corner_106 ?_
            replace h := nm_ex h; obtain ⟨M12, eM12, h⟩ := h
            refine pf_X7_197 C g4 dX7_corner_107 ?_
            refine v_mem eM12 ?_
            refine v_iload (j := 0) C dX7_corner_110 rfl ?_
            replace h := Option.some.inj h; subst h
            subst hQ
            exact v_iret C hr hlk dX7_corner_112
          · replace h := ite_f g h
            refine v_ldc C tw_395 dX7_corner_73 ?_
            replace h := Option.some.inj h; subst h
            subst hQ
            exact v_iret C hr hlk dX7_corner_75
        · replace h := ite_f g h
          refine v_ldc C tw_553 dX7_corner_48 ?_
          refine v_pc (pc' := 50) rfl ?_
          replace h := Option.some.inj h; subst h
          subst hQ
          exact v_iret C hr hlk dX7_corner_50
def m_X7_undo (M : Mem) : Option (Int32 × Mem) :=
  (m_X0_takeBack M 4).bind fun r1 => if r1.1 = 0 then (some (((-1000002), r1.2))) else (some ((r1.2 26 1, r1.2)))
set_option maxHeartbeats 4000000 in
set_option maxRecDepth 100000 in
theorem c_X7_undo (l : Launch) (D : va_G) (cA : cAt) (B : Nat) (aK aV : Nat → Nat) (M : Mem) (R : Int32 × Mem) (h : m_X7_undo M = some R) : CI l D cA B aK aV yX7_undo cX7_undo 1 .int 3 [.ref (B + 0)] M R.1 R.2 := by
  refine CI_of (by decide +kernel) (Nat.le_of_ble_eq_true rfl) ?_
  intro p e s m args below meth c C hr hlk
  have C : Cx p (rmd 3) s m args c 0 0 D cA B aK aV cX7_undo 1 RX7 := C
  generalize hQ : MQ below _ args s 0 0 _ = Q
  refine v_eq (M' := M) (pc' := 0) (L' := [(0, .ref (B + 0))]) (st' := []) ?_
  unfold m_X7_undo at h
  refine v_aload_nR (j := 0) C dX7_undo_0 rfl rfl ?_
  refine gf_X7_42 C ks_0 dX7_undo_1 ?_
  refine v_aload_nR (j := 0) C dX7_undo_4 rfl rfl ?_
  refine gf_X7_25 C ks_0 dX7_undo_5 ?_
  replace h := bind_ex h; obtain ⟨r1, hr1, h⟩ := h
  refine cvN_I C tw_652 tw_107 tw_649 tw_651 tw_41 pd_X0_takeBack (Nat.le_of_ble_eq_true rfl) (Nat.le_of_ble_eq_true rfl) (q := 26) (kd_lt ks_26 (by decide)) (sh0 ks_26) rfl (As := [.ref (B + 4)]) (rest := []) rfl rfl (Nat.le_of_ble_eq_true rfl) (c_X0_takeBack l D cA B aK aV M 4 ks_4 r1 hr1) dX7_undo_8 ?_
  refine v_if_eq (tgt := 24) C dX7_undo_11 (by decide) (fun g => ?_) (fun g => ?_)
  · replace h := ite_t g h
    refine v_ldc C tw_553 dX7_undo_24 ?_
    replace h := Option.some.inj h; subst h
    subst hQ
    exact v_iret C hr hlk dX7_undo_26
  · replace h := ite_f g h
    refine v_pc (pc' := 14) rfl ?_
    refine v_aload_nR (j := 0) C dX7_undo_14 rfl rfl ?_
    refine gf_X7_42 C ks_0 dX7_undo_15 ?_
    refine gf_X7_155 C ks_26 dX7_undo_18 ?_
    refine v_goto (tgt := 26) C dX7_undo_21 (by decide) ?_
    replace h := Option.some.inj h; subst h
    subst hQ
    exact v_iret C hr hlk dX7_undo_26
def m_X7_child (M : Mem) (x1 : Int32) (x2 : Int32) : Option Int32 :=
  (m_X5_at M 4 x1).bind fun r1 => optC r1 (some (-1000001)) (fun a2 => chk (kdB a2 2) (if x2 = 0 then (some (M a2 3)) else (if x2 = 1 then (some (M a2 2)) else (if x2 = 2 then (some (M a2 4)) else (some (-1000001))))))
set_option maxHeartbeats 4000000 in
set_option maxRecDepth 100000 in
theorem c_X7_child (l : Launch) (D : va_G) (cA : cAt) (B : Nat) (aK aV : Nat → Nat) (M : Mem) (x1 : Int32) (x2 : Int32) (R : Int32) (h : m_X7_child M x1 x2 = some R) : CI l D cA B aK aV yX7_child cX7_child 4 .int 1 [.ref (B + 0), .int x1, .int x2] M R M := by
  refine CI_of (by decide +kernel) (Nat.le_of_ble_eq_true rfl) ?_
  intro p e s m args below meth c C hr hlk
  have C : Cx p (rmd 1) s m args c 0 0 D cA B aK aV cX7_child 4 RX7 := C
  generalize hQ : MQ below _ args s 0 0 _ = Q
  refine v_eq (M' := M) (pc' := 0) (L' := [(0, .ref (B + 0)), (1, .int x1), (2, .int x2)]) (st' := []) ?_
  unfold m_X7_child at h
  refine v_aload_nR (j := 0) C dX7_child_0 rfl rfl ?_
  refine gf_X7_25 C ks_0 dX7_child_1 ?_
  refine v_iload_n (j := 1) C dX7_child_4 rfl rfl ?_
  replace h := bind_ex h; obtain ⟨r1, hr1, h⟩ := h
  refine cvN_Q C tw_534 tw_105 tw_634 tw_533 tw_25 pd_X5_at (Nat.le_of_ble_eq_true rfl) (Nat.le_of_ble_eq_true rfl) (q := 4) (kd_lt ks_4 (by decide)) (sh5 ks_4) rfl (As := [.int x1]) (rest := []) rfl rfl (Nat.le_of_ble_eq_true rfl) (c_X5_at l D cA B aK aV M 4 x1 ks_4 r1 hr1) dX7_child_5 ?_
  refine v_astore_nO (L' := [(3, rv B r1), (0, .ref (B + 0)), (1, .int x1), (2, .int x2)]) C dX7_child_8 rfl (by decide) rfl ?_
  refine v_aload_nO (j := 0) C dX7_child_9 rfl rfl ?_
  refine v_pc (pc' := 10) rfl ?_
  replace h := optC_ex h
  rcases h with ⟨rfl, h⟩ | ⟨a2, rfl, h⟩
  · refine v_eq (M' := M) (pc' := 10) (L' := [(3, .null), (0, .ref (B + 0)), (1, .int x1), (2, .int x2)]) (st' := [.null]) ?_
    refine v_ifnonnullN C dX7_child_10 ?_
    refine v_ldc C tw_343 dX7_child_13 ?_
    replace h := Option.some.inj h; subst h
    subst hQ
    exact v_iret C hr hlk dX7_child_15
  · replace h := chk_some h; obtain ⟨g3, h⟩ := h
    replace g3 := kdB_eq g3
    refine v_eq (M' := M) (pc' := 10) (L' := [(3, .ref (B + a2)), (0, .ref (B + 0)), (1, .int x1), (2, .int x2)]) (st' := [.ref (B + a2)]) ?_
    refine v_ifnonnullS (tgt := 16) C dX7_child_10 (by decide) ?_
    refine v_iload_n (j := 3) C dX7_child_16 rfl rfl ?_
    by_cases g4 : x2 = 0
    · replace h := ite_t g4 h
      refine v_tableIn (off := 27) (tgt := 44) C dX7_child_17 (by rw [g4]; decide) (by rw [g4]; decide) (by rw [g4] <;> rfl) (by decide) ?_
      refine v_aload_nR (j := 0) C dX7_child_44 rfl rfl ?_
      refine gf_X7_186 C g3 dX7_child_45 ?_
      replace h := Option.some.inj h; subst h
      subst hQ
      exact v_iret C hr hlk dX7_child_48
    · replace h := ite_f g4 h
      by_cases g5 : x2 = 1
      · replace h := ite_t g5 h
        refine v_tableIn (off := 32) (tgt := 49) C dX7_child_17 (by rw [g5]; decide) (by rw [g5]; decide) (by rw [g5] <;> rfl) (by decide) ?_
        refine v_aload_nR (j := 0) C dX7_child_49 rfl rfl ?_
        refine gf_X7_203 C g3 dX7_child_50 ?_
        replace h := Option.some.inj h; subst h
        subst hQ
        exact v_iret C hr hlk dX7_child_53
      · replace h := ite_f g5 h
        by_cases g6 : x2 = 2
        · replace h := ite_t g6 h
          refine v_tableIn (off := 37) (tgt := 54) C dX7_child_17 (by rw [g6]; decide) (by rw [g6]; decide) (by rw [g6] <;> rfl) (by decide) ?_
          refine v_aload_nR (j := 0) C dX7_child_54 rfl rfl ?_
          refine gf_X7_197 C g3 dX7_child_55 ?_
          replace h := Option.some.inj h; subst h
          subst hQ
          exact v_iret C hr hlk dX7_child_58
        · replace h := ite_f g6 h
          refine v_tableOut (tgt := 59) C dX7_child_17 (by have t0 := sw_ne (k := 0) g4; have t1 := sw_ne (k := 1) g5; have t2 := sw_ne (k := 2) g6; have u0 : (0 : Int32).toInt = 0 := (by decide); have u1 : (1 : Int32).toInt = 1 := (by decide); have u2 : (2 : Int32).toInt = 2 := (by decide); omega) (by decide) ?_
          refine v_ldc C tw_343 dX7_child_59 ?_
          replace h := Option.some.inj h; subst h
          subst hQ
          exact v_iret C hr hlk dX7_child_61
def m_X7_isEither (M : Mem) (x0 : Int32) : Option Int32 :=
  if x0 = 0 then (some 1) else (if x0 = 1 then (some 1) else (some 0))
set_option maxHeartbeats 4000000 in
set_option maxRecDepth 100000 in
theorem c_X7_isEither (l : Launch) (D : va_G) (cA : cAt) (B : Nat) (aK aV : Nat → Nat) (M : Mem) (x0 : Int32) (R : Int32) (h : m_X7_isEither M x0 = some R) : CI l D cA B aK aV yX7_isEither cX7_isEither 1 .boolean 0 [.int x0] M R M := by
  refine CI_of (by decide +kernel) (Nat.le_of_ble_eq_true rfl) ?_
  intro p e s m args below meth c C hr hlk
  have C : Cx p (rmd 0) s m args c 0 0 D cA B aK aV cX7_isEither 1 RX7 := C
  generalize hQ : MQ below _ args s 0 0 _ = Q
  refine v_eq (M' := M) (pc' := 0) (L' := [(0, .int x0)]) (st' := []) ?_
  unfold m_X7_isEither at h
  refine v_iload_n (j := 0) C dX7_isEither_0 rfl rfl ?_
  refine v_if_eq (tgt := 9) C dX7_isEither_1 (by decide) (fun g => ?_) (fun g => ?_)
  · replace h := ite_t g h
    refine v_iconst C dX7_isEither_9 ct_i_1 ?_
    refine v_goto (tgt := 14) C dX7_isEither_10 (by decide) ?_
    replace h := Option.some.inj h; subst h
    subst hQ
    exact v_zret C hr hlk (show narrow .boolean (.int 1) = .int 1 from rfl) dX7_isEither_14
  · replace h := ite_f g h
    refine v_iload_n (j := 0) C dX7_isEither_4 rfl rfl ?_
    refine v_iconst C dX7_isEither_5 ct_i_1 ?_
    refine v_icmp_ne (tgt := 13) C dX7_isEither_6 (by decide) (fun g => ?_) (fun g => ?_)
    · replace h := ite_t g h
      refine v_iconst C dX7_isEither_9 ct_i_1 ?_
      refine v_pc (pc' := 10) rfl ?_
      refine v_goto (tgt := 14) C dX7_isEither_10 (by decide) ?_
      replace h := Option.some.inj h; subst h
      subst hQ
      exact v_zret C hr hlk (show narrow .boolean (.int 1) = .int 1 from rfl) dX7_isEither_14
    · replace h := ite_f g h
      refine v_iconst C dX7_isEither_13 ct_i_0 ?_
      replace h := Option.some.inj h; subst h
      subst hQ
      exact v_zret C hr hlk (show narrow .boolean (.int 0) = .int 0 from rfl) dX7_isEither_14
def m_X7_cell (M : Mem) (x1 : Int32) (x2 : Int32) : Option Int32 :=
  if (M 4 1) = 0 then (some (-1000002)) else ((m_X7_isCell M x1).bind fun r1 => if r1 = 0 then (some (-1000001)) else ((m_X7_isEither M x2).bind fun r2 => if r2 = 0 then (some (-1000001)) else (if x2 = 1 then ((m_X5_isDry M 4 x1).bind fun r4 => if r4 = 0 then (some 1) else (some 0)) else ((m_X5_pickerAt M 4 x1).bind fun r3 => if r3 = (-1) then (some (-1000000)) else (some r3)))))
set_option maxHeartbeats 4000000 in
set_option maxRecDepth 100000 in
theorem c_X7_cell (l : Launch) (D : va_G) (cA : cAt) (B : Nat) (aK aV : Nat → Nat) (M : Mem) (x1 : Int32) (x2 : Int32) (R : Int32) (h : m_X7_cell M x1 x2 = some R) : CI l D cA B aK aV yX7_cell cX7_cell 4 .int 3 [.ref (B + 0), .int x1, .int x2] M R M := by
  refine CI_of (by decide +kernel) (Nat.le_of_ble_eq_true rfl) ?_
  intro p e s m args below meth c C hr hlk
  have C : Cx p (rmd 3) s m args c 0 0 D cA B aK aV cX7_cell 4 RX7 := C
  generalize hQ : MQ below _ args s 0 0 _ = Q
  refine v_eq (M' := M) (pc' := 0) (L' := [(0, .ref (B + 0)), (1, .int x1), (2, .int x2)]) (st' := []) ?_
  unfold m_X7_cell at h
  refine v_aload_nR (j := 0) C dX7_cell_0 rfl rfl ?_
  refine gf_X7_25 C ks_0 dX7_cell_1 ?_
  refine gf_X7_147 C ks_4 dX7_cell_4 ?_
  refine v_if_ne (tgt := 13) C dX7_cell_7 (by decide) (fun g => ?_) (fun g => ?_)
  · replace h := ite_t g h
    refine v_ldc C tw_553 dX7_cell_10 ?_
    replace h := Option.some.inj h; subst h
    subst hQ
    exact v_iret C hr hlk dX7_cell_12
  · replace h := ite_f g h
    refine v_iload_n (j := 1) C dX7_cell_13 rfl rfl ?_
    replace h := bind_ex h; obtain ⟨r1, hr1, h⟩ := h
    refine cs_I C tw_556 tw_103 tw_554 tw_555 pd_X7_isCell (Nat.le_of_ble_eq_true rfl) (Nat.le_of_ble_eq_true rfl) (As := [.int x1]) (rest := []) rfl rfl (Nat.le_of_ble_eq_true rfl) (c_X7_isCell l D cA B aK aV M x1 r1 hr1) dX7_cell_14 ?_
    refine v_if_eq (tgt := 27) C dX7_cell_17 (by decide) (fun g => ?_) (fun g => ?_)
    · replace h := ite_t g h
      refine v_ldc C tw_343 dX7_cell_27 ?_
      replace h := Option.some.inj h; subst h
      subst hQ
      exact v_iret C hr hlk dX7_cell_29
    · replace h := ite_f g h
      refine v_iload_n (j := 2) C dX7_cell_20 rfl rfl ?_
      replace h := bind_ex h; obtain ⟨r2, hr2, h⟩ := h
      refine cs_I C tw_663 tw_103 tw_661 tw_662 pd_X7_isEither (Nat.le_of_ble_eq_true rfl) (Nat.le_of_ble_eq_true rfl) (As := [.int x2]) (rest := []) rfl rfl (Nat.le_of_ble_eq_true rfl) (c_X7_isEither l D cA B aK aV M x2 r2 hr2) dX7_cell_21 ?_
      refine v_if_ne (tgt := 30) C dX7_cell_24 (by decide) (fun g => ?_) (fun g => ?_)
      · replace h := ite_t g h
        refine v_pc (pc' := 27) rfl ?_
        refine v_ldc C tw_343 dX7_cell_27 ?_
        replace h := Option.some.inj h; subst h
        subst hQ
        exact v_iret C hr hlk dX7_cell_29
      · replace h := ite_f g h
        refine v_iload_n (j := 2) C dX7_cell_30 rfl rfl ?_
        refine v_iconst C dX7_cell_31 ct_i_1 ?_
        refine v_icmp_ne (tgt := 52) C dX7_cell_32 (by decide) (fun g => ?_) (fun g => ?_)
        · replace h := ite_t g h
          refine v_aload_nR (j := 0) C dX7_cell_35 rfl rfl ?_
          refine gf_X7_25 C ks_0 dX7_cell_36 ?_
          refine v_iload_n (j := 1) C dX7_cell_39 rfl rfl ?_
          refine v_pc (pc' := 40) rfl ?_
          replace h := bind_ex h; obtain ⟨r4, hr4, h⟩ := h
          refine cvN_I C tw_619 tw_105 tw_664 tw_618 tw_38 pd_X5_isDry (Nat.le_of_ble_eq_true rfl) (Nat.le_of_ble_eq_true rfl) (q := 4) (kd_lt ks_4 (by decide)) (sh5 ks_4) rfl (As := [.int x1]) (rest := []) rfl rfl (Nat.le_of_ble_eq_true rfl) (c_X5_isDry l D cA B aK aV M 4 x1 ks_4 r4 hr4) dX7_cell_40 ?_
          refine v_if_eq (tgt := 50) C dX7_cell_43 (by decide) (fun g => ?_) (fun g => ?_)
          · replace h := ite_t g h
            refine v_iconst C dX7_cell_50 ct_i_1 ?_
            replace h := Option.some.inj h; subst h
            subst hQ
            exact v_iret C hr hlk dX7_cell_51
          · replace h := ite_f g h
            refine v_iconst C dX7_cell_46 ct_i_0 ?_
            refine v_goto (tgt := 51) C dX7_cell_47 (by decide) ?_
            replace h := Option.some.inj h; subst h
            subst hQ
            exact v_iret C hr hlk dX7_cell_51
        · replace h := ite_f g h
          refine v_aload_nR (j := 0) C dX7_cell_52 rfl rfl ?_
          refine gf_X7_25 C ks_0 dX7_cell_53 ?_
          refine v_iload_n (j := 1) C dX7_cell_56 rfl rfl ?_
          replace h := bind_ex h; obtain ⟨r3, hr3, h⟩ := h
          refine cvN_I C tw_615 tw_105 tw_612 tw_614 tw_37 pd_X5_pickerAt (Nat.le_of_ble_eq_true rfl) (Nat.le_of_ble_eq_true rfl) (q := 4) (kd_lt ks_4 (by decide)) (sh5 ks_4) rfl (As := [.int x1]) (rest := []) rfl rfl (Nat.le_of_ble_eq_true rfl) (c_X5_pickerAt l D cA B aK aV M 4 x1 ks_4 r3 hr3) dX7_cell_57 ?_
          refine v_istore_n (L' := [(3, .int r3), (0, .ref (B + 0)), (1, .int x1), (2, .int x2)]) C dX7_cell_60 rfl (by decide) rfl ?_
          refine v_iload_n (j := 0) C dX7_cell_61 rfl rfl ?_
          refine v_pc (pc' := 62) rfl ?_
          refine v_iconst C dX7_cell_62 ct_i_m1 ?_
          refine v_icmp_ne (tgt := 71) C dX7_cell_63 (by decide) (fun g => ?_) (fun g => ?_)
          · replace h := ite_t g h
            refine v_ldc C tw_665 dX7_cell_66 ?_
            refine v_goto (tgt := 72) C dX7_cell_68 (by decide) ?_
            replace h := Option.some.inj h; subst h
            subst hQ
            exact v_iret C hr hlk dX7_cell_72
          · replace h := ite_f g h
            refine v_iload_n (j := 0) C dX7_cell_71 rfl rfl ?_
            replace h := Option.some.inj h; subst h
            subst hQ
            exact v_iret C hr hlk dX7_cell_72
def m_X7_power (M : Mem) (x1 : Int32) (x2 : Int32) : Option Int32 :=
  (m_X5_at M 4 x1).bind fun r1 => optC r1 (some (-1000001)) (fun a2 => chk (kdB a2 2) ((m_X7_isCell M x2).bind fun r4 => if r4 = 0 then (some (-1000001)) else ((m_X7_far M (M a2 3) x2).bind fun r5 => (m_X2_powerBy M a2 r5 (M 4 2)).bind fun r6 => some r6)))
set_option maxHeartbeats 4000000 in
set_option maxRecDepth 100000 in
theorem c_X7_power (l : Launch) (D : va_G) (cA : cAt) (B : Nat) (aK aV : Nat → Nat) (M : Mem) (x1 : Int32) (x2 : Int32) (R : Int32) (h : m_X7_power M x1 x2 = some R) : CI l D cA B aK aV yX7_power cX7_power 4 .int 2 [.ref (B + 0), .int x1, .int x2] M R M := by
  refine CI_of (by decide +kernel) (Nat.le_of_ble_eq_true rfl) ?_
  intro p e s m args below meth c C hr hlk
  have C : Cx p (rmd 2) s m args c 0 0 D cA B aK aV cX7_power 4 RX7 := C
  generalize hQ : MQ below _ args s 0 0 _ = Q
  refine v_eq (M' := M) (pc' := 0) (L' := [(0, .ref (B + 0)), (1, .int x1), (2, .int x2)]) (st' := []) ?_
  unfold m_X7_power at h
  refine v_aload_nR (j := 0) C dX7_power_0 rfl rfl ?_
  refine gf_X7_25 C ks_0 dX7_power_1 ?_
  refine v_iload_n (j := 1) C dX7_power_4 rfl rfl ?_
  replace h := bind_ex h; obtain ⟨r1, hr1, h⟩ := h
  refine cvN_Q C tw_534 tw_105 tw_634 tw_533 tw_25 pd_X5_at (Nat.le_of_ble_eq_true rfl) (Nat.le_of_ble_eq_true rfl) (q := 4) (kd_lt ks_4 (by decide)) (sh5 ks_4) rfl (As := [.int x1]) (rest := []) rfl rfl (Nat.le_of_ble_eq_true rfl) (c_X5_at l D cA B aK aV M 4 x1 ks_4 r1 hr1) dX7_power_5 ?_
  refine v_astore_nO (L' := [(3, rv B r1), (0, .ref (B + 0)), (1, .int x1), (2, .int x2)]) C dX7_power_8 rfl (by decide) rfl ?_
  refine v_aload_nO (j := 0) C dX7_power_9 rfl rfl ?_
  refine v_pc (pc' := 10) rfl ?_
  replace h := optC_ex h
  rcases h with ⟨rfl, h⟩ | ⟨a2, rfl, h⟩
  · refine v_eq (M' := M) (pc' := 10) (L' := [(3, .null), (0, .ref (B + 0)), (1, .int x1), (2, .int x2)]) (st' := [.null]) ?_
    refine v_ifnullN (tgt := 20) C dX7_power_10 (by decide) ?_
    refine v_ldc C tw_343 dX7_power_20 ?_
    replace h := Option.some.inj h; subst h
    subst hQ
    exact v_iret C hr hlk dX7_power_22
  · replace h := chk_some h; obtain ⟨g3, h⟩ := h
    replace g3 := kdB_eq g3
    refine v_eq (M' := M) (pc' := 10) (L' := [(3, .ref (B + a2)), (0, .ref (B + 0)), (1, .int x1), (2, .int x2)]) (st' := [.ref (B + a2)]) ?_
    refine v_ifnullS C dX7_power_10 ?_
    refine v_iload_n (j := 3) C dX7_power_13 rfl rfl ?_
    replace h := bind_ex h; obtain ⟨r4, hr4, h⟩ := h
    refine cs_I C tw_556 tw_103 tw_554 tw_555 pd_X7_isCell (Nat.le_of_ble_eq_true rfl) (Nat.le_of_ble_eq_true rfl) (As := [.int x2]) (rest := []) rfl rfl (Nat.le_of_ble_eq_true rfl) (c_X7_isCell l D cA B aK aV M x2 r4 hr4) dX7_power_14 ?_
    refine v_if_ne (tgt := 23) C dX7_power_17 (by decide) (fun g => ?_) (fun g => ?_)
    · replace h := ite_t g h
      refine v_ldc C tw_343 dX7_power_20 ?_
      replace h := Option.some.inj h; subst h
      subst hQ
      exact v_iret C hr hlk dX7_power_22
    · replace h := ite_f g h
      refine v_aload_nR (j := 0) C dX7_power_23 rfl rfl ?_
      refine v_aload_nR (j := 0) C dX7_power_24 rfl rfl ?_
      refine gf_X7_186 C g3 dX7_power_25 ?_
      refine v_iload_n (j := 3) C dX7_power_28 rfl rfl ?_
      replace h := bind_ex h; obtain ⟨r5, hr5, h⟩ := h
      refine cs_I C tw_623 tw_103 tw_639 tw_622 pd_X7_far (Nat.le_of_ble_eq_true rfl) (Nat.le_of_ble_eq_true rfl) (As := [.int (M a2 3), .int x2]) (rest := [.ref (B + a2)]) rfl rfl (Nat.le_of_ble_eq_true rfl) (c_X7_far l D cA B aK aV M (M a2 3) x2 r5 hr5) dX7_power_29 ?_
      refine v_aload_nR (j := 1) C dX7_power_32 rfl rfl ?_
      refine v_pc (pc' := 33) rfl ?_
      refine gf_X7_25 C ks_0 dX7_power_33 ?_
      refine gf_X7_216 C ks_4 dX7_power_36 ?_
      replace h := bind_ex h; obtain ⟨r6, hr6, h⟩ := h
      refine cvN_I C tw_628 tw_106 tw_670 tw_627 tw_39 pd_X2_powerBy (Nat.le_of_ble_eq_true rfl) (Nat.le_of_ble_eq_true rfl) (q := a2) (kd_lt g3 (by decide)) (sh2 g3) rfl (As := [.int r5, .int (M 4 2)]) (rest := []) rfl rfl (Nat.le_of_ble_eq_true rfl) (c_X2_powerBy l D cA B aK aV M a2 r5 (M 4 2) g3 r6 hr6) dX7_power_39 ?_
      replace h := Option.some.inj h; subst h
      subst hQ
      exact v_iret C hr hlk dX7_power_42
def b_X7_commonDivisor_7 (M : Mem) (x2 : Int32) (x3 : Int32) (x4 : Int32) : Option ((Int32 × Int32 × Int32) ⊕ Int32) :=
  if 64 ≤ x4 then (some (.inr x2)) else (if x3 = 0 then (some (.inr x2)) else (chk (nz x3) (nm (x2 % x3) fun y2 => some (.inl (x3, y2, x4 + 1)))))
def m_X7_commonDivisor (M : Mem) (x0 : Int32) (x1 : Int32) : Option Int32 :=
  (loopF (fun z => b_X7_commonDivisor_7 M z.1 z.2.1 z.2.2) FUEL (x0, x1, 0)).bind fun z3 => some z3
set_option maxHeartbeats 4000000 in
set_option maxRecDepth 100000 in
theorem c_X7_commonDivisor (l : Launch) (D : va_G) (cA : cAt) (B : Nat) (aK aV : Nat → Nat) (M : Mem) (x0 : Int32) (x1 : Int32) (R : Int32) (h : m_X7_commonDivisor M x0 x1 = some R) : CI l D cA B aK aV yX7_commonDivisor cX7_commonDivisor 6 .int 0 [.int x0, .int x1] M R M := by
  refine CI_of (by decide +kernel) (Nat.le_of_ble_eq_true rfl) ?_
  intro p e s m args below meth c C hr hlk
  have C : Cx p (rmd 0) s m args c 0 0 D cA B aK aV cX7_commonDivisor 6 RX7 := C
  generalize hQ : MQ below _ args s 0 0 _ = Q
  refine v_eq (M' := M) (pc' := 0) (L' := [(0, .int x0), (1, .int x1)]) (st' := []) ?_
  unfold m_X7_commonDivisor at h
  refine v_iload_n (j := 0) C dX7_commonDivisor_0 rfl rfl ?_
  refine v_istore_n (L' := [(2, .int x0), (0, .int x0), (1, .int x1)]) C dX7_commonDivisor_1 rfl (by decide) rfl ?_
  refine v_iload_n (j := 2) C dX7_commonDivisor_2 rfl rfl ?_
  refine v_istore_n (L' := [(3, .int x1), (2, .int x0), (0, .int x0), (1, .int x1)]) C dX7_commonDivisor_3 rfl (by decide) rfl ?_
  refine v_iconst C dX7_commonDivisor_4 ct_i_0 ?_
  refine v_istore (L' := [(4, .int 0), (3, .int x1), (2, .int x0), (0, .int x0), (1, .int x1)]) C dX7_commonDivisor_5 (by decide) rfl ?_
  have LB7 : ∀  (x2 : Int32) (x3 : Int32) (x4 : Int32) (o7 : (Int32 × Int32 × Int32) ⊕ Int32) (h : b_X7_commonDivisor_7 M x2 x3 x4 = some o7) (hc7 : ∀ z : Int32 × Int32 × Int32, o7 = .inl z → V p l e (rmd 0) s m args below meth c 0 0 D cA B 6 Q M 7 [(2, .int z.1), (3, .int z.2.1), (4, .int z.2.2)] []) (he7 : ∀ z : Int32, o7 = .inr z → V p l e (rmd 0) s m args below meth c 0 0 D cA B 6 Q M 34 [(2, .int z)] []), V p l e (rmd 0) s m args below meth c 0 0 D cA B 6 Q M 7 [(2, .int x2), (3, .int x3), (4, .int x4)] [] := by
    intro x2 x3 x4 o7 h hc7 he7
    unfold b_X7_commonDivisor_7 at h
    refine v_iload (j := 2) C dX7_commonDivisor_7 rfl ?_
    refine v_bipush C dX7_commonDivisor_9 ct_b_64 ?_
    refine v_icmp_ge (tgt := 34) C dX7_commonDivisor_11 (by decide) (fun g => ?_) (fun g => ?_)
    · replace h := ite_t g h
      replace h := Option.some.inj h; subst h
      refine v_sub [0] rfl ?_
      exact he7 x2 rfl
    · replace h := ite_f g h
      refine v_iload_n (j := 1) C dX7_commonDivisor_14 rfl rfl ?_
      refine v_if_eq (tgt := 34) C dX7_commonDivisor_15 (by decide) (fun g => ?_) (fun g => ?_)
      · replace h := ite_t g h
        replace h := Option.some.inj h; subst h
        refine v_sub [0] rfl ?_
        exact he7 x2 rfl
      · replace h := ite_f g h
        refine v_iload_n (j := 0) C dX7_commonDivisor_18 rfl rfl ?_
        refine v_pc (pc' := 19) rfl ?_
        refine v_iload_n (j := 1) C dX7_commonDivisor_19 rfl rfl ?_
        replace h := chk_some h; obtain ⟨g1, h⟩ := h
        refine v_irem C dX7_commonDivisor_20 (of_decide_eq_true g1) ?_
        replace h := nm_ex h; obtain ⟨y2, ey2, h⟩ := h
        refine v_topI ey2 ?_
        refine v_istore (L' := [(5, .int y2), (2, .int x2), (3, .int x3), (4, .int x4)]) C dX7_commonDivisor_21 (by decide) rfl ?_
        refine v_iload_n (j := 2) C dX7_commonDivisor_23 rfl rfl ?_
        refine v_istore_n (L' := [(2, .int x3), (5, .int y2), (3, .int x3), (4, .int x4)]) C dX7_commonDivisor_24 rfl (by decide) rfl ?_
        refine v_iload (j := 1) C dX7_commonDivisor_25 rfl ?_
        refine v_istore_n (L' := [(3, .int y2), (2, .int x3), (5, .int y2), (4, .int x4)]) C dX7_commonDivisor_27 rfl (by decide) rfl ?_
        refine v_pc (pc' := 28) rfl ?_
        refine v_iinc (j := 3) (L' := [(4, .int (x4 + 1)), (3, .int y2), (2, .int x3), (5, .int y2)]) C dX7_commonDivisor_28 rfl (congrArg (fun z => _ + z) ct_i_1) (by decide) rfl ?_
        refine v_goto (tgt := 7) C dX7_commonDivisor_31 (by decide) ?_
        replace h := Option.some.inj h; subst h
        refine v_sub [2, 1, 0] rfl ?_
        exact hc7 (x3, y2, x4 + 1) rfl
  replace h := bind_ex h; obtain ⟨z3, hz3, h⟩ := h
  refine v_sub [2, 1, 0] rfl ?_
  refine loopF_walk (Pσ := fun z => V p l e (rmd 0) s m args below meth c 0 0 D cA B 6 Q M 7 [(2, .int z.1), (3, .int z.2.1), (4, .int z.2.2)] []) (Pρ := fun y => V p l e (rmd 0) s m args below meth c 0 0 D cA B 6 Q M 34 [(2, .int y)] []) ?_ FUEL (x0, x1, 0) z3 hz3 ?_
  · intro z o hb hc he
    exact LB7 z.1 z.2.1 z.2.2 o hb hc he
  · refine v_iload_n (j := 0) C dX7_commonDivisor_34 rfl rfl ?_
    replace h := Option.some.inj h; subst h
    subst hQ
    exact v_iret C hr hlk dX7_commonDivisor_35
def m_X7_fractionPart (M : Mem) (x0 : Int32) (x1 : Int32) (x2 : Int32) : Option Int32 :=
  (m_X7_commonDivisor M x0 x1).bind fun r1 => if r1 = 0 then (some 0) else (if x2 = 0 then (chk (nz r1) (some (x0 / r1))) else (chk (nz r1) (some (x1 / r1))))
set_option maxHeartbeats 4000000 in
set_option maxRecDepth 100000 in
theorem c_X7_fractionPart (l : Launch) (D : va_G) (cA : cAt) (B : Nat) (aK aV : Nat → Nat) (M : Mem) (x0 : Int32) (x1 : Int32) (x2 : Int32) (R : Int32) (h : m_X7_fractionPart M x0 x1 x2 = some R) : CI l D cA B aK aV yX7_fractionPart cX7_fractionPart 4 .int 1 [.int x0, .int x1, .int x2] M R M := by
  refine CI_of (by decide +kernel) (Nat.le_of_ble_eq_true rfl) ?_
  intro p e s m args below meth c C hr hlk
  have C : Cx p (rmd 1) s m args c 0 0 D cA B aK aV cX7_fractionPart 4 RX7 := C
  generalize hQ : MQ below _ args s 0 0 _ = Q
  refine v_eq (M' := M) (pc' := 0) (L' := [(0, .int x0), (1, .int x1), (2, .int x2)]) (st' := []) ?_
  unfold m_X7_fractionPart at h
  refine v_iload_n (j := 0) C dX7_fractionPart_0 rfl rfl ?_
  refine v_iload_n (j := 1) C dX7_fractionPart_1 rfl rfl ?_
  replace h := bind_ex h; obtain ⟨r1, hr1, h⟩ := h
  refine cs_I C tw_685 tw_103 tw_683 tw_684 pd_X7_commonDivisor (Nat.le_of_ble_eq_true rfl) (Nat.le_of_ble_eq_true rfl) (As := [.int x0, .int x1]) (rest := []) rfl rfl (Nat.le_of_ble_eq_true rfl) (c_X7_commonDivisor l D cA B aK aV M x0 x1 r1 hr1) dX7_fractionPart_2 ?_
  refine v_istore_n (L' := [(3, .int r1), (0, .int x0), (1, .int x1), (2, .int x2)]) C dX7_fractionPart_5 rfl (by decide) rfl ?_
  refine v_iload_n (j := 0) C dX7_fractionPart_6 rfl rfl ?_
  refine v_if_ne (tgt := 12) C dX7_fractionPart_7 (by decide) (fun g => ?_) (fun g => ?_)
  · replace h := ite_t g h
    refine v_pc (pc' := 10) rfl ?_
    refine v_iconst C dX7_fractionPart_10 ct_i_0 ?_
    replace h := Option.some.inj h; subst h
    subst hQ
    exact v_iret C hr hlk dX7_fractionPart_11
  · replace h := ite_f g h
    refine v_iload_n (j := 3) C dX7_fractionPart_12 rfl rfl ?_
    refine v_if_ne (tgt := 22) C dX7_fractionPart_13 (by decide) (fun g => ?_) (fun g => ?_)
    · replace h := ite_t g h
      refine v_iload_n (j := 1) C dX7_fractionPart_16 rfl rfl ?_
      refine v_iload_n (j := 0) C dX7_fractionPart_17 rfl rfl ?_
      replace h := chk_some h; obtain ⟨g3, h⟩ := h
      refine v_idiv C dX7_fractionPart_18 (of_decide_eq_true g3) ?_
      refine v_goto (tgt := 25) C dX7_fractionPart_19 (by decide) ?_
      replace h := Option.some.inj h; subst h
      subst hQ
      exact v_iret C hr hlk dX7_fractionPart_25
    · replace h := ite_f g h
      refine v_iload_n (j := 2) C dX7_fractionPart_22 rfl rfl ?_
      refine v_iload_n (j := 0) C dX7_fractionPart_23 rfl rfl ?_
      replace h := chk_some h; obtain ⟨g2, h⟩ := h
      refine v_idiv C dX7_fractionPart_24 (of_decide_eq_true g2) ?_
      replace h := Option.some.inj h; subst h
      subst hQ
      exact v_iret C hr hlk dX7_fractionPart_25
def m_X7_mean (M : Mem) (x1 : Int32) (x2 : Int32) (x3 : Int32) (x4 : Int32) : Option (Int32 × Mem) :=
  (m_X5_at M 4 x1).bind fun r1 => optC r1 (some (((-1000001), M))) (fun a2 => chk (kdB a2 2) ((m_X7_isCell M x2).bind fun r4 => if r4 = 0 then (some (((-1000001), M))) else ((m_X7_isSpread M x3).bind fun r5 => if r5 = 0 then (some (((-1000001), M))) else ((m_X7_isEither M x4).bind fun r6 => if r6 = 0 then (some (((-1000001), M))) else ((m_X3_throwAt M x2 x3).bind fun r7 => (m_X3_countPickedBy r7 4 x1).bind fun r8 => (m_X7_fractionPart r7 r8 (r7 196 1) x4).bind fun r9 => some ((r9, r7)))))))
set_option maxHeartbeats 4000000 in
set_option maxRecDepth 100000 in
theorem c_X7_mean (l : Launch) (D : va_G) (cA : cAt) (B : Nat) (aK aV : Nat → Nat) (M : Mem) (x1 : Int32) (x2 : Int32) (x3 : Int32) (x4 : Int32) (R : Int32 × Mem) (h : m_X7_mean M x1 x2 x3 x4 = some R) : CI l D cA B aK aV yX7_mean cX7_mean 5 .int 4 [.ref (B + 0), .int x1, .int x2, .int x3, .int x4] M R.1 R.2 := by
  refine CI_of (by decide +kernel) (Nat.le_of_ble_eq_true rfl) ?_
  intro p e s m args below meth c C hr hlk
  have C : Cx p (rmd 4) s m args c 0 0 D cA B aK aV cX7_mean 5 RX7 := C
  generalize hQ : MQ below _ args s 0 0 _ = Q
  refine v_eq (M' := M) (pc' := 0) (L' := [(0, .ref (B + 0)), (1, .int x1), (2, .int x2), (3, .int x3), (4, .int x4)]) (st' := []) ?_
  unfold m_X7_mean at h
  refine v_aload_nR (j := 0) C dX7_mean_0 rfl rfl ?_
  refine gf_X7_25 C ks_0 dX7_mean_1 ?_
  refine v_iload_n (j := 1) C dX7_mean_4 rfl rfl ?_
  replace h := bind_ex h; obtain ⟨r1, hr1, h⟩ := h
  refine cvN_Q C tw_534 tw_105 tw_634 tw_533 tw_25 pd_X5_at (Nat.le_of_ble_eq_true rfl) (Nat.le_of_ble_eq_true rfl) (q := 4) (kd_lt ks_4 (by decide)) (sh5 ks_4) rfl (As := [.int x1]) (rest := []) rfl rfl (Nat.le_of_ble_eq_true rfl) (c_X5_at l D cA B aK aV M 4 x1 ks_4 r1 hr1) dX7_mean_5 ?_
  replace h := optC_ex h
  rcases h with ⟨rfl, h⟩ | ⟨a2, rfl, h⟩
  · refine v_eq (M' := M) (pc' := 8) (L' := [(0, .ref (B + 0)), (1, .int x1), (2, .int x2), (3, .int x3), (4, .int x4)]) (st' := [.null]) ?_
    refine v_ifnullN (tgt := 33) C dX7_mean_8 (by decide) ?_
    refine v_ldc C tw_343 dX7_mean_33 ?_
    replace h := Option.some.inj h; subst h
    subst hQ
    exact v_iret C hr hlk dX7_mean_35
  · replace h := chk_some h; obtain ⟨g3, h⟩ := h
    replace g3 := kdB_eq g3
    refine v_eq (M' := M) (pc' := 8) (L' := [(0, .ref (B + 0)), (1, .int x1), (2, .int x2), (3, .int x3), (4, .int x4)]) (st' := [.ref (B + a2)]) ?_
    refine v_ifnullS C dX7_mean_8 ?_
    refine v_iload_n (j := 2) C dX7_mean_11 rfl rfl ?_
    replace h := bind_ex h; obtain ⟨r4, hr4, h⟩ := h
    refine cs_I C tw_556 tw_103 tw_554 tw_555 pd_X7_isCell (Nat.le_of_ble_eq_true rfl) (Nat.le_of_ble_eq_true rfl) (As := [.int x2]) (rest := []) rfl rfl (Nat.le_of_ble_eq_true rfl) (c_X7_isCell l D cA B aK aV M x2 r4 hr4) dX7_mean_12 ?_
    refine v_if_eq (tgt := 33) C dX7_mean_15 (by decide) (fun g => ?_) (fun g => ?_)
    · replace h := ite_t g h
      refine v_ldc C tw_343 dX7_mean_33 ?_
      replace h := Option.some.inj h; subst h
      subst hQ
      exact v_iret C hr hlk dX7_mean_35
    · replace h := ite_f g h
      refine v_iload_n (j := 3) C dX7_mean_18 rfl rfl ?_
      replace h := bind_ex h; obtain ⟨r5, hr5, h⟩ := h
      refine cs_I C tw_559 tw_103 tw_557 tw_558 pd_X7_isSpread (Nat.le_of_ble_eq_true rfl) (Nat.le_of_ble_eq_true rfl) (As := [.int x3]) (rest := []) rfl rfl (Nat.le_of_ble_eq_true rfl) (c_X7_isSpread l D cA B aK aV M x3 r5 hr5) dX7_mean_19 ?_
      refine v_if_eq (tgt := 33) C dX7_mean_22 (by decide) (fun g => ?_) (fun g => ?_)
      · replace h := ite_t g h
        refine v_ldc C tw_343 dX7_mean_33 ?_
        replace h := Option.some.inj h; subst h
        subst hQ
        exact v_iret C hr hlk dX7_mean_35
      · replace h := ite_f g h
        refine v_pc (pc' := 25) rfl ?_
        refine v_iload (j := 4) C dX7_mean_25 rfl ?_
        replace h := bind_ex h; obtain ⟨r6, hr6, h⟩ := h
        refine cs_I C tw_663 tw_103 tw_661 tw_662 pd_X7_isEither (Nat.le_of_ble_eq_true rfl) (Nat.le_of_ble_eq_true rfl) (As := [.int x4]) (rest := []) rfl rfl (Nat.le_of_ble_eq_true rfl) (c_X7_isEither l D cA B aK aV M x4 r6 hr6) dX7_mean_27 ?_
        refine v_if_ne (tgt := 36) C dX7_mean_30 (by decide) (fun g => ?_) (fun g => ?_)
        · replace h := ite_t g h
          refine v_ldc C tw_343 dX7_mean_33 ?_
          replace h := Option.some.inj h; subst h
          subst hQ
          exact v_iret C hr hlk dX7_mean_35
        · replace h := ite_f g h
          refine v_aload_nR (j := 0) C dX7_mean_36 rfl rfl ?_
          refine gf_X7_49 C ks_0 dX7_mean_37 ?_
          refine v_iload_n (j := 2) C dX7_mean_40 rfl rfl ?_
          refine v_iload_n (j := 3) C dX7_mean_41 rfl rfl ?_
          replace h := bind_ex h; obtain ⟨r7, hr7, h⟩ := h
          refine cvN_V C tw_584 tw_108 tw_581 tw_583 tw_32 pd_X3_throwAt (Nat.le_of_ble_eq_true rfl) (Nat.le_of_ble_eq_true rfl) (q := 196) (kd_lt ks_196 (by decide)) (sh3 ks_196) rfl (As := [.int x2, .int x3]) (rest := []) rfl rfl (Nat.le_of_ble_eq_true rfl) (c_X3_throwAt l D cA B aK aV M x2 x3 r7 hr7) dX7_mean_42 ?_
          refine v_aload_nR (j := 0) C dX7_mean_45 rfl rfl ?_
          refine v_pc (pc' := 46) rfl ?_
          refine gf_X7_49 C ks_0 dX7_mean_46 ?_
          refine v_aload_nR (j := 0) C dX7_mean_49 rfl rfl ?_
          refine gf_X7_25 C ks_0 dX7_mean_50 ?_
          refine v_iload_n (j := 1) C dX7_mean_53 rfl rfl ?_
          replace h := bind_ex h; obtain ⟨r8, hr8, h⟩ := h
          refine cvN_I C tw_678 tw_108 tw_675 tw_677 tw_42 pd_X3_countPickedBy (Nat.le_of_ble_eq_true rfl) (Nat.le_of_ble_eq_true rfl) (q := 196) (kd_lt ks_196 (by decide)) (sh3 ks_196) rfl (As := [.ref (B + 4), .int x1]) (rest := []) rfl rfl (Nat.le_of_ble_eq_true rfl) (c_X3_countPickedBy l D cA B aK aV r7 4 x1 ks_4 r8 hr8) dX7_mean_54 ?_
          refine v_aload_nR (j := 0) C dX7_mean_57 rfl rfl ?_
          refine gf_X7_49 C ks_0 dX7_mean_58 ?_
          refine v_pc (pc' := 61) rfl ?_
          refine gf_X7_226 C ks_196 dX7_mean_61 ?_
          refine v_iload (j := 4) C dX7_mean_64 rfl ?_
          replace h := bind_ex h; obtain ⟨r9, hr9, h⟩ := h
          refine cs_I C tw_682 tw_103 tw_680 tw_681 pd_X7_fractionPart (Nat.le_of_ble_eq_true rfl) (Nat.le_of_ble_eq_true rfl) (As := [.int r8, .int (r7 196 1), .int x4]) (rest := []) rfl rfl (Nat.le_of_ble_eq_true rfl) (c_X7_fractionPart l D cA B aK aV r7 r8 (r7 196 1) x4 r9 hr9) dX7_mean_66 ?_
          replace h := Option.some.inj h; subst h
          subst hQ
          exact v_iret C hr hlk dX7_mean_69
def b_X7_some_92 (M : Mem) (x4 : Int32) (x5 : Int32) (x6 : Int32) (x7 : Int32) (x8 : Int32) (x9 : Int32) (x10 : Int32) : Option ((Int32 × Int32 × Int32) ⊕ (Int32 × Int32)) :=
  if x4 ≤ x10 then (some (.inr (x8, x9))) else (nm (x8 * x6) fun y11 => nm (x9 * x7) fun y12 => some (.inl (y11, y12, x10 + 1)))
def m_X7_some (M : Mem) (x1 : Int32) (x2 : Int32) (x3 : Int32) (x4 : Int32) (x5 : Int32) : Option (Int32 × Mem) :=
  (m_X5_at M 4 x1).bind fun r1 => optC r1 (some (((-1000001), M))) (fun a2 => chk (kdB a2 2) ((m_X7_isCell M x2).bind fun r4 => if r4 = 0 then (some (((-1000001), M))) else ((m_X7_isSpread M x3).bind fun r5 => if r5 = 0 then (some (((-1000001), M))) else (if x4 < 0 then (some (((-1000001), M))) else (if 6 < x4 then (some (((-1000001), M))) else ((m_X7_isEither M x5).bind fun r6 => if r6 = 0 then (some (((-1000001), M))) else ((m_X3_throwAt M x2 x3).bind fun r7 => nm (r7 196 1) fun y8 => (m_X3_countPickedBy r7 4 x1).bind fun r9 => nm (y8 - r9) fun y10 => (loopF (fun z => b_X7_some_92 r7 x4 x5 y8 y10 z.1 z.2.1 z.2.2) FUEL (1, 1, 0)).bind fun z13 => (m_X7_fractionPart r7 (z13.1 - z13.2) z13.1 x5).bind fun r14 => some ((r14, r7)))))))))
set_option maxHeartbeats 4000000 in
set_option maxRecDepth 100000 in
theorem c_X7_some (l : Launch) (D : va_G) (cA : cAt) (B : Nat) (aK aV : Nat → Nat) (M : Mem) (x1 : Int32) (x2 : Int32) (x3 : Int32) (x4 : Int32) (x5 : Int32) (R : Int32 × Mem) (h : m_X7_some M x1 x2 x3 x4 x5 = some R) : CI l D cA B aK aV yX7_some cX7_some 11 .int 4 [.ref (B + 0), .int x1, .int x2, .int x3, .int x4, .int x5] M R.1 R.2 := by
  refine CI_of (by decide +kernel) (Nat.le_of_ble_eq_true rfl) ?_
  intro p e s m args below meth c C hr hlk
  have C : Cx p (rmd 4) s m args c 0 0 D cA B aK aV cX7_some 11 RX7 := C
  generalize hQ : MQ below _ args s 0 0 _ = Q
  refine v_eq (M' := M) (pc' := 0) (L' := [(0, .ref (B + 0)), (1, .int x1), (2, .int x2), (3, .int x3), (4, .int x4), (5, .int x5)]) (st' := []) ?_
  unfold m_X7_some at h
  refine v_aload_nR (j := 0) C dX7_some_0 rfl rfl ?_
  refine gf_X7_25 C ks_0 dX7_some_1 ?_
  refine v_iload_n (j := 1) C dX7_some_4 rfl rfl ?_
  replace h := bind_ex h; obtain ⟨r1, hr1, h⟩ := h
  refine cvN_Q C tw_534 tw_105 tw_634 tw_533 tw_25 pd_X5_at (Nat.le_of_ble_eq_true rfl) (Nat.le_of_ble_eq_true rfl) (q := 4) (kd_lt ks_4 (by decide)) (sh5 ks_4) rfl (As := [.int x1]) (rest := []) rfl rfl (Nat.le_of_ble_eq_true rfl) (c_X5_at l D cA B aK aV M 4 x1 ks_4 r1 hr1) dX7_some_5 ?_
  replace h := optC_ex h
  rcases h with ⟨rfl, h⟩ | ⟨a2, rfl, h⟩
  · refine v_eq (M' := M) (pc' := 8) (L' := [(0, .ref (B + 0)), (1, .int x1), (2, .int x2), (3, .int x3), (4, .int x4), (5, .int x5)]) (st' := [.null]) ?_
    refine v_ifnullN (tgt := 45) C dX7_some_8 (by decide) ?_
    refine v_ldc C tw_343 dX7_some_45 ?_
    replace h := Option.some.inj h; subst h
    subst hQ
    exact v_iret C hr hlk dX7_some_47
  · replace h := chk_some h; obtain ⟨g3, h⟩ := h
    replace g3 := kdB_eq g3
    refine v_eq (M' := M) (pc' := 8) (L' := [(0, .ref (B + 0)), (1, .int x1), (2, .int x2), (3, .int x3), (4, .int x4), (5, .int x5)]) (st' := [.ref (B + a2)]) ?_
    refine v_ifnullS C dX7_some_8 ?_
    refine v_iload_n (j := 2) C dX7_some_11 rfl rfl ?_
    replace h := bind_ex h; obtain ⟨r4, hr4, h⟩ := h
    refine cs_I C tw_556 tw_103 tw_554 tw_555 pd_X7_isCell (Nat.le_of_ble_eq_true rfl) (Nat.le_of_ble_eq_true rfl) (As := [.int x2]) (rest := []) rfl rfl (Nat.le_of_ble_eq_true rfl) (c_X7_isCell l D cA B aK aV M x2 r4 hr4) dX7_some_12 ?_
    refine v_if_eq (tgt := 45) C dX7_some_15 (by decide) (fun g => ?_) (fun g => ?_)
    · replace h := ite_t g h
      refine v_ldc C tw_343 dX7_some_45 ?_
      replace h := Option.some.inj h; subst h
      subst hQ
      exact v_iret C hr hlk dX7_some_47
    · replace h := ite_f g h
      refine v_iload_n (j := 3) C dX7_some_18 rfl rfl ?_
      replace h := bind_ex h; obtain ⟨r5, hr5, h⟩ := h
      refine cs_I C tw_559 tw_103 tw_557 tw_558 pd_X7_isSpread (Nat.le_of_ble_eq_true rfl) (Nat.le_of_ble_eq_true rfl) (As := [.int x3]) (rest := []) rfl rfl (Nat.le_of_ble_eq_true rfl) (c_X7_isSpread l D cA B aK aV M x3 r5 hr5) dX7_some_19 ?_
      refine v_if_eq (tgt := 45) C dX7_some_22 (by decide) (fun g => ?_) (fun g => ?_)
      · replace h := ite_t g h
        refine v_ldc C tw_343 dX7_some_45 ?_
        replace h := Option.some.inj h; subst h
        subst hQ
        exact v_iret C hr hlk dX7_some_47
      · replace h := ite_f g h
        refine v_pc (pc' := 25) rfl ?_
        refine v_iload (j := 4) C dX7_some_25 rfl ?_
        refine v_if_lt (tgt := 45) C dX7_some_27 (by decide) (fun g => ?_) (fun g => ?_)
        · replace h := ite_t g h
          refine v_ldc C tw_343 dX7_some_45 ?_
          replace h := Option.some.inj h; subst h
          subst hQ
          exact v_iret C hr hlk dX7_some_47
        · replace h := ite_f g h
          refine v_iload (j := 4) C dX7_some_30 rfl ?_
          refine v_bipush C dX7_some_32 ct_b_6 ?_
          refine v_icmp_gt (tgt := 45) C dX7_some_34 (by decide) (fun g => ?_) (fun g => ?_)
          · replace h := ite_t g h
            refine v_ldc C tw_343 dX7_some_45 ?_
            replace h := Option.some.inj h; subst h
            subst hQ
            exact v_iret C hr hlk dX7_some_47
          · replace h := ite_f g h
            refine v_iload (j := 5) C dX7_some_37 rfl ?_
            replace h := bind_ex h; obtain ⟨r6, hr6, h⟩ := h
            refine cs_I C tw_663 tw_103 tw_661 tw_662 pd_X7_isEither (Nat.le_of_ble_eq_true rfl) (Nat.le_of_ble_eq_true rfl) (As := [.int x5]) (rest := []) rfl rfl (Nat.le_of_ble_eq_true rfl) (c_X7_isEither l D cA B aK aV M x5 r6 hr6) dX7_some_39 ?_
            refine v_pc (pc' := 42) rfl ?_
            refine v_if_ne (tgt := 48) C dX7_some_42 (by decide) (fun g => ?_) (fun g => ?_)
            · replace h := ite_t g h
              refine v_ldc C tw_343 dX7_some_45 ?_
              replace h := Option.some.inj h; subst h
              subst hQ
              exact v_iret C hr hlk dX7_some_47
            · replace h := ite_f g h
              refine v_aload_nR (j := 0) C dX7_some_48 rfl rfl ?_
              refine gf_X7_49 C ks_0 dX7_some_49 ?_
              refine v_iload_n (j := 2) C dX7_some_52 rfl rfl ?_
              refine v_iload_n (j := 3) C dX7_some_53 rfl rfl ?_
              replace h := bind_ex h; obtain ⟨r7, hr7, h⟩ := h
              refine cvN_V C tw_584 tw_108 tw_581 tw_583 tw_32 pd_X3_throwAt (Nat.le_of_ble_eq_true rfl) (Nat.le_of_ble_eq_true rfl) (q := 196) (kd_lt ks_196 (by decide)) (sh3 ks_196) rfl (As := [.int x2, .int x3]) (rest := []) rfl rfl (Nat.le_of_ble_eq_true rfl) (c_X3_throwAt l D cA B aK aV M x2 x3 r7 hr7) dX7_some_54 ?_
              refine v_aload_nR (j := 0) C dX7_some_57 rfl rfl ?_
              refine v_pc (pc' := 58) rfl ?_
              refine gf_X7_49 C ks_0 dX7_some_58 ?_
              refine gf_X7_226 C ks_196 dX7_some_61 ?_
              replace h := nm_ex h; obtain ⟨y8, ey8, h⟩ := h
              refine v_topI ey8 ?_
              refine v_istore (L' := [(6, .int y8), (0, .ref (B + 0)), (1, .int x1), (2, .int x2), (3, .int x3), (4, .int x4), (5, .int x5)]) C dX7_some_64 (by decide) rfl ?_
              refine v_iload (j := 0) C dX7_some_66 rfl ?_
              refine v_aload_nR (j := 1) C dX7_some_68 rfl rfl ?_
              refine gf_X7_49 C ks_0 dX7_some_69 ?_
              refine v_aload_nR (j := 1) C dX7_some_72 rfl rfl ?_
              refine v_pc (pc' := 73) rfl ?_
              refine gf_X7_25 C ks_0 dX7_some_73 ?_
              refine v_iload_n (j := 2) C dX7_some_76 rfl rfl ?_
              replace h := bind_ex h; obtain ⟨r9, hr9, h⟩ := h
              refine cvN_I C tw_678 tw_108 tw_675 tw_677 tw_42 pd_X3_countPickedBy (Nat.le_of_ble_eq_true rfl) (Nat.le_of_ble_eq_true rfl) (q := 196) (kd_lt ks_196 (by decide)) (sh3 ks_196) rfl (As := [.ref (B + 4), .int x1]) (rest := [.int y8]) rfl rfl (Nat.le_of_ble_eq_true rfl) (c_X3_countPickedBy l D cA B aK aV r7 4 x1 ks_4 r9 hr9) dX7_some_77 ?_
              refine v_isub C dX7_some_80 ?_
              replace h := nm_ex h; obtain ⟨y10, ey10, h⟩ := h
              refine v_topI ey10 ?_
              refine v_istore (L' := [(7, .int y10), (6, .int y8), (0, .ref (B + 0)), (1, .int x1), (2, .int x2), (3, .int x3), (4, .int x4), (5, .int x5)]) C dX7_some_81 (by decide) rfl ?_
              refine v_iconst C dX7_some_83 ct_i_1 ?_
              refine v_istore (L' := [(8, .int 1), (7, .int y10), (6, .int y8), (0, .ref (B + 0)), (1, .int x1), (2, .int x2), (3, .int x3), (4, .int x4), (5, .int x5)]) C dX7_some_84 (by decide) rfl ?_
              refine v_pc (pc' := 86) rfl ?_
              refine v_iconst C dX7_some_86 ct_i_1 ?_
              refine v_istore (L' := [(9, .int 1), (8, .int 1), (7, .int y10), (6, .int y8), (0, .ref (B + 0)), (1, .int x1), (2, .int x2), (3, .int x3), (4, .int x4), (5, .int x5)]) C dX7_some_87 (by decide) rfl ?_
              refine v_iconst C dX7_some_89 ct_i_0 ?_
              refine v_istore (L' := [(10, .int 0), (9, .int 1), (8, .int 1), (7, .int y10), (6, .int y8), (0, .ref (B + 0)), (1, .int x1), (2, .int x2), (3, .int x3), (4, .int x4), (5, .int x5)]) C dX7_some_90 (by decide) rfl ?_
              have LB92 : ∀ (M : Mem) (x6 : Int32) (x7 : Int32) (x8 : Int32) (x9 : Int32) (x10 : Int32) (o92 : (Int32 × Int32 × Int32) ⊕ (Int32 × Int32)) (h : b_X7_some_92 M x4 x5 x6 x7 x8 x9 x10 = some o92) (hc92 : ∀ z : Int32 × Int32 × Int32, o92 = .inl z → V p l e (rmd 4) s m args below meth c 0 0 D cA B 11 Q M 92 [(4, .int x4), (5, .int x5), (6, .int x6), (7, .int x7), (8, .int z.1), (9, .int z.2.1), (10, .int z.2.2)] []) (he92 : ∀ z : Int32 × Int32, o92 = .inr z → V p l e (rmd 4) s m args below meth c 0 0 D cA B 11 Q M 119 [(5, .int x5), (8, .int z.1), (9, .int z.2)] []), V p l e (rmd 4) s m args below meth c 0 0 D cA B 11 Q M 92 [(4, .int x4), (5, .int x5), (6, .int x6), (7, .int x7), (8, .int x8), (9, .int x9), (10, .int x10)] [] := by
                intro M x6 x7 x8 x9 x10 o92 h hc92 he92
                unfold b_X7_some_92 at h
                refine v_iload (j := 6) C dX7_some_92 rfl ?_
                refine v_iload (j := 0) C dX7_some_94 rfl ?_
                refine v_icmp_ge (tgt := 119) C dX7_some_96 (by decide) (fun g => ?_) (fun g => ?_)
                · replace h := ite_t g h
                  replace h := Option.some.inj h; subst h
                  refine v_sub [1, 4, 5] rfl ?_
                  exact he92 (x8, x9) rfl
                · replace h := ite_f g h
                  refine v_iload (j := 4) C dX7_some_99 rfl ?_
                  refine v_iload (j := 2) C dX7_some_101 rfl ?_
                  refine v_imul C dX7_some_103 ?_
                  refine v_pc (pc' := 104) rfl ?_
                  replace h := nm_ex h; obtain ⟨y11, ey11, h⟩ := h
                  refine v_topI ey11 ?_
                  refine v_istore (L' := [(8, .int y11), (4, .int x4), (5, .int x5), (6, .int x6), (7, .int x7), (9, .int x9), (10, .int x10)]) C dX7_some_104 (by decide) rfl ?_
                  refine v_iload (j := 5) C dX7_some_106 rfl ?_
                  refine v_iload (j := 4) C dX7_some_108 rfl ?_
                  refine v_imul C dX7_some_110 ?_
                  replace h := nm_ex h; obtain ⟨y12, ey12, h⟩ := h
                  refine v_topI ey12 ?_
                  refine v_istore (L' := [(9, .int y12), (8, .int y11), (4, .int x4), (5, .int x5), (6, .int x6), (7, .int x7), (10, .int x10)]) C dX7_some_111 (by decide) rfl ?_
                  refine v_iinc (j := 6) (L' := [(10, .int (x10 + 1)), (9, .int y12), (8, .int y11), (4, .int x4), (5, .int x5), (6, .int x6), (7, .int x7)]) C dX7_some_113 rfl (congrArg (fun z => _ + z) ct_i_1) (by decide) rfl ?_
                  refine v_goto (tgt := 92) C dX7_some_116 (by decide) ?_
                  replace h := Option.some.inj h; subst h
                  refine v_sub [3, 4, 5, 6, 2, 1, 0] rfl ?_
                  exact hc92 (y11, y12, x10 + 1) rfl
              replace h := bind_ex h; obtain ⟨z13, hz13, h⟩ := h
              refine v_sub [9, 10, 4, 3, 2, 1, 0] rfl ?_
              refine loopF_walk (Pσ := fun z => V p l e (rmd 4) s m args below meth c 0 0 D cA B 11 Q r7 92 [(4, .int x4), (5, .int x5), (6, .int y8), (7, .int y10), (8, .int z.1), (9, .int z.2.1), (10, .int z.2.2)] []) (Pρ := fun y => V p l e (rmd 4) s m args below meth c 0 0 D cA B 11 Q r7 119 [(5, .int x5), (8, .int y.1), (9, .int y.2)] []) ?_ FUEL (1, 1, 0) z13 hz13 ?_
              · intro z o hb hc he
                exact LB92 r7 y8 y10 z.1 z.2.1 z.2.2 o hb hc he
              · refine v_iload (j := 1) C dX7_some_119 rfl ?_
                refine v_iload (j := 2) C dX7_some_121 rfl ?_
                refine v_isub C dX7_some_123 ?_
                refine v_iload (j := 1) C dX7_some_124 rfl ?_
                refine v_iload (j := 0) C dX7_some_126 rfl ?_
                replace h := bind_ex h; obtain ⟨r14, hr14, h⟩ := h
                refine cs_I C tw_682 tw_103 tw_680 tw_681 pd_X7_fractionPart (Nat.le_of_ble_eq_true rfl) (Nat.le_of_ble_eq_true rfl) (As := [.int (z13.1 - z13.2), .int z13.1, .int x5]) (rest := []) rfl rfl (Nat.le_of_ble_eq_true rfl) (c_X7_fractionPart l D cA B aK aV r7 (z13.1 - z13.2) z13.1 x5 r14 hr14) dX7_some_128 ?_
                refine v_pc (pc' := 131) rfl ?_
                replace h := Option.some.inj h; subst h
                subst hQ
                exact v_iret C hr hlk dX7_some_131
def m_J6_bitCount_0f7a4 (M : Mem) (x0 : Int32) : Option Int32 :=
  nm (x0 - (((x0.toUInt32 >>> ((1 : Int32).toUInt32 &&& Int32.toUInt32 31)).toInt32) &&& 1431655765)) fun y1 => nm ((y1 &&& 858993459) + (((y1.toUInt32 >>> ((2 : Int32).toUInt32 &&& Int32.toUInt32 31)).toInt32) &&& 858993459)) fun y2 => nm ((y2 + ((y2.toUInt32 >>> ((4 : Int32).toUInt32 &&& Int32.toUInt32 31)).toInt32)) &&& 252645135) fun y3 => nm (y3 + ((y3.toUInt32 >>> ((8 : Int32).toUInt32 &&& Int32.toUInt32 31)).toInt32)) fun y4 => nm (y4 + ((y4.toUInt32 >>> ((16 : Int32).toUInt32 &&& Int32.toUInt32 31)).toInt32)) fun y5 => some (y5 &&& 63)
set_option maxHeartbeats 4000000 in
set_option maxRecDepth 100000 in
theorem c_J6_bitCount_0f7a4 (l : Launch) (D : va_G) (cA : cAt) (B : Nat) (aK aV : Nat → Nat) (M : Mem) (x0 : Int32) (R : Int32) (h : m_J6_bitCount_0f7a4 M x0 = some R) : CI l D cA B aK aV yJ6_bitCount_0f7a4 cJ6_bitCount_0f7a4 1 .int 0 [.int x0] M R M := by
  refine CI_of (by decide +kernel) (Nat.le_of_ble_eq_true rfl) ?_
  intro p e s m args below meth c C hr hlk
  have C : Cx p (rmd 0) s m args c 0 0 D cA B aK aV cJ6_bitCount_0f7a4 1 RJ6 := C
  generalize hQ : MQ below _ args s 0 0 _ = Q
  refine v_eq (M' := M) (pc' := 0) (L' := [(0, .int x0)]) (st' := []) ?_
  unfold m_J6_bitCount_0f7a4 at h
  refine v_iload_n (j := 0) C dJ6_bitCount_0f7a4_0 rfl rfl ?_
  refine v_iload_n (j := 0) C dJ6_bitCount_0f7a4_1 rfl rfl ?_
  refine v_iconst C dJ6_bitCount_0f7a4_2 ct_i_1 ?_
  refine v_iushr C dJ6_bitCount_0f7a4_3 ?_
  refine v_ldcw C tw_716 dJ6_bitCount_0f7a4_4 ?_
  refine v_iand C dJ6_bitCount_0f7a4_7 ?_
  refine v_pc (pc' := 8) rfl ?_
  refine v_isub C dJ6_bitCount_0f7a4_8 ?_
  replace h := nm_ex h; obtain ⟨y1, ey1, h⟩ := h
  refine v_topI ey1 ?_
  refine v_istore_n (L' := [(0, .int y1)]) C dJ6_bitCount_0f7a4_9 rfl (by decide) rfl ?_
  refine v_iload_n (j := 0) C dJ6_bitCount_0f7a4_10 rfl rfl ?_
  refine v_ldcw C tw_717 dJ6_bitCount_0f7a4_11 ?_
  refine v_iand C dJ6_bitCount_0f7a4_14 ?_
  refine v_iload_n (j := 0) C dJ6_bitCount_0f7a4_15 rfl rfl ?_
  refine v_iconst C dJ6_bitCount_0f7a4_16 ct_i_2 ?_
  refine v_pc (pc' := 17) rfl ?_
  refine v_iushr C dJ6_bitCount_0f7a4_17 ?_
  refine v_ldcw C tw_717 dJ6_bitCount_0f7a4_18 ?_
  refine v_iand C dJ6_bitCount_0f7a4_21 ?_
  refine v_iadd C dJ6_bitCount_0f7a4_22 ?_
  replace h := nm_ex h; obtain ⟨y2, ey2, h⟩ := h
  refine v_topI ey2 ?_
  refine v_istore_n (L' := [(0, .int y2)]) C dJ6_bitCount_0f7a4_23 rfl (by decide) rfl ?_
  refine v_iload_n (j := 0) C dJ6_bitCount_0f7a4_24 rfl rfl ?_
  refine v_iload_n (j := 0) C dJ6_bitCount_0f7a4_25 rfl rfl ?_
  refine v_pc (pc' := 26) rfl ?_
  refine v_iconst C dJ6_bitCount_0f7a4_26 ct_i_4 ?_
  refine v_iushr C dJ6_bitCount_0f7a4_27 ?_
  refine v_iadd C dJ6_bitCount_0f7a4_28 ?_
  refine v_ldcw C tw_718 dJ6_bitCount_0f7a4_29 ?_
  refine v_iand C dJ6_bitCount_0f7a4_32 ?_
  replace h := nm_ex h; obtain ⟨y3, ey3, h⟩ := h
  refine v_topI ey3 ?_
  refine v_istore_n (L' := [(0, .int y3)]) C dJ6_bitCount_0f7a4_33 rfl (by decide) rfl ?_
  refine v_iload_n (j := 0) C dJ6_bitCount_0f7a4_34 rfl rfl ?_
  refine v_pc (pc' := 35) rfl ?_
  refine v_iload_n (j := 0) C dJ6_bitCount_0f7a4_35 rfl rfl ?_
  refine v_bipush C dJ6_bitCount_0f7a4_36 ct_b_8 ?_
  refine v_iushr C dJ6_bitCount_0f7a4_38 ?_
  refine v_iadd C dJ6_bitCount_0f7a4_39 ?_
  replace h := nm_ex h; obtain ⟨y4, ey4, h⟩ := h
  refine v_topI ey4 ?_
  refine v_istore_n (L' := [(0, .int y4)]) C dJ6_bitCount_0f7a4_40 rfl (by decide) rfl ?_
  refine v_iload_n (j := 0) C dJ6_bitCount_0f7a4_41 rfl rfl ?_
  refine v_iload_n (j := 0) C dJ6_bitCount_0f7a4_42 rfl rfl ?_
  refine v_pc (pc' := 43) rfl ?_
  refine v_bipush C dJ6_bitCount_0f7a4_43 ct_b_16 ?_
  refine v_iushr C dJ6_bitCount_0f7a4_45 ?_
  refine v_iadd C dJ6_bitCount_0f7a4_46 ?_
  replace h := nm_ex h; obtain ⟨y5, ey5, h⟩ := h
  refine v_topI ey5 ?_
  refine v_istore_n (L' := [(0, .int y5)]) C dJ6_bitCount_0f7a4_47 rfl (by decide) rfl ?_
  refine v_iload_n (j := 0) C dJ6_bitCount_0f7a4_48 rfl rfl ?_
  refine v_bipush C dJ6_bitCount_0f7a4_49 ct_b_63 ?_
  refine v_iand C dJ6_bitCount_0f7a4_51 ?_
  refine v_pc (pc' := 52) rfl ?_
  replace h := Option.some.inj h; subst h
  subst hQ
  exact v_iret C hr hlk dJ6_bitCount_0f7a4_52
def b_X7_largest_6 (M : Mem) (x0 : Nat) (x1 : Int32) (x2 : Int32) (x3 : Int32) : Option ((Int32 × Int32 × Int32) ⊕ Int32) :=
  if (Int32.ofNat (alen x0)) ≤ x3 then (some (.inr x1)) else (chk (inB x3 (alen x0)) ((m_J6_bitCount_0f7a4 M (M x0 x3.toNatClampNeg)).bind fun r2 => if r2 ≤ x2 then (some (.inl (x1, x2, x3 + 1))) else (some (.inl (x3, r2, x3 + 1)))))
def m_X7_largest (M : Mem) (x0 : Nat) : Option Int32 :=
  (loopF (fun z => b_X7_largest_6 M x0 z.1 z.2.1 z.2.2) FUEL (0, (-1), 0)).bind fun z3 => some z3
set_option maxHeartbeats 4000000 in
set_option maxRecDepth 100000 in
theorem c_X7_largest (l : Launch) (D : va_G) (cA : cAt) (B : Nat) (aK aV : Nat → Nat) (M : Mem) (x0 : Nat) (k0 : kd x0 = 9) (R : Int32) (h : m_X7_largest M x0 = some R) : CI l D cA B aK aV yX7_largest cX7_largest 5 .int 1 [.ref (B + x0)] M R M := by
  refine CI_of (by decide +kernel) (Nat.le_of_ble_eq_true rfl) ?_
  intro p e s m args below meth c C hr hlk
  have C : Cx p (rmd 1) s m args c 0 0 D cA B aK aV cX7_largest 5 RX7 := C
  generalize hQ : MQ below _ args s 0 0 _ = Q
  refine v_eq (M' := M) (pc' := 0) (L' := [(0, .ref (B + x0))]) (st' := []) ?_
  unfold m_X7_largest at h
  refine v_iconst C dX7_largest_0 ct_i_0 ?_
  refine v_istore_n (L' := [(1, .int 0), (0, .ref (B + x0))]) C dX7_largest_1 rfl (by decide) rfl ?_
  refine v_iconst C dX7_largest_2 ct_i_m1 ?_
  refine v_istore_n (L' := [(2, .int (-1)), (1, .int 0), (0, .ref (B + x0))]) C dX7_largest_3 rfl (by decide) rfl ?_
  refine v_iconst C dX7_largest_4 ct_i_0 ?_
  refine v_istore_n (L' := [(3, .int 0), (2, .int (-1)), (1, .int 0), (0, .ref (B + x0))]) C dX7_largest_5 rfl (by decide) rfl ?_
  have LB6 : ∀  (x1 : Int32) (x2 : Int32) (x3 : Int32) (o6 : (Int32 × Int32 × Int32) ⊕ Int32) (h : b_X7_largest_6 M x0 x1 x2 x3 = some o6) (hc6 : ∀ z : Int32 × Int32 × Int32, o6 = .inl z → V p l e (rmd 1) s m args below meth c 0 0 D cA B 5 Q M 6 [(0, .ref (B + x0)), (1, .int z.1), (2, .int z.2.1), (3, .int z.2.2)] []) (he6 : ∀ z : Int32, o6 = .inr z → V p l e (rmd 1) s m args below meth c 0 0 D cA B 5 Q M 37 [(1, .int z)] []), V p l e (rmd 1) s m args below meth c 0 0 D cA B 5 Q M 6 [(0, .ref (B + x0)), (1, .int x1), (2, .int x2), (3, .int x3)] [] := by
    intro x1 x2 x3 o6 h hc6 he6
    unfold b_X7_largest_6 at h
    refine v_iload_n (j := 3) C dX7_largest_6 rfl rfl ?_
    refine v_aload_nR (j := 0) C dX7_largest_7 rfl rfl ?_
    refine v_alen9 (v := Int32.ofNat (alen x0)) C k0 rfl dX7_largest_8 ?_
    refine v_icmp_ge (tgt := 37) C dX7_largest_9 (by decide) (fun g => ?_) (fun g => ?_)
    · replace h := ite_t g h
      replace h := Option.some.inj h; subst h
      refine v_sub [1] rfl ?_
      exact he6 x1 rfl
    · replace h := ite_f g h
      refine v_aload_nR (j := 0) C dX7_largest_12 rfl rfl ?_
      refine v_iload_n (j := 3) C dX7_largest_13 rfl rfl ?_
      refine v_pc (pc' := 14) rfl ?_
      replace h := chk_some h; obtain ⟨g1, h⟩ := h
      refine v_iald C k0 (inB_vp g1) dX7_largest_14 ?_
      replace h := bind_ex h; obtain ⟨r2, hr2, h⟩ := h
      refine cs_I C tw_715 tw_119 tw_713 tw_714 pd_J6_bitCount_0f7a4 (Nat.le_of_ble_eq_true rfl) (Nat.le_of_ble_eq_true rfl) (As := [.int (M x0 x3.toNatClampNeg)]) (rest := []) rfl rfl (Nat.le_of_ble_eq_true rfl) (c_J6_bitCount_0f7a4 l D cA B aK aV M (M x0 x3.toNatClampNeg) r2 hr2) dX7_largest_15 ?_
      refine v_istore (L' := [(4, .int r2), (0, .ref (B + x0)), (1, .int x1), (2, .int x2), (3, .int x3)]) C dX7_largest_18 (by decide) rfl ?_
      refine v_iload (j := 0) C dX7_largest_20 rfl ?_
      refine v_iload_n (j := 3) C dX7_largest_22 rfl rfl ?_
      refine v_icmp_le (tgt := 31) C dX7_largest_23 (by decide) (fun g => ?_) (fun g => ?_)
      · replace h := ite_t g h
        refine v_iinc (j := 4) (L' := [(3, .int (x3 + 1)), (4, .int r2), (0, .ref (B + x0)), (1, .int x1), (2, .int x2)]) C dX7_largest_31 rfl (congrArg (fun z => _ + z) ct_i_1) (by decide) rfl ?_
        refine v_goto (tgt := 6) C dX7_largest_34 (by decide) ?_
        replace h := Option.some.inj h; subst h
        refine v_sub [2, 3, 4, 0] rfl ?_
        exact hc6 (x1, x2, x3 + 1) rfl
      · replace h := ite_f g h
        refine v_iload (j := 0) C dX7_largest_26 rfl ?_
        refine v_pc (pc' := 28) rfl ?_
        refine v_istore_n (L' := [(2, .int r2), (4, .int r2), (0, .ref (B + x0)), (1, .int x1), (3, .int x3)]) C dX7_largest_28 rfl (by decide) rfl ?_
        refine v_iload_n (j := 4) C dX7_largest_29 rfl rfl ?_
        refine v_istore_n (L' := [(1, .int x3), (2, .int r2), (4, .int r2), (0, .ref (B + x0)), (3, .int x3)]) C dX7_largest_30 rfl (by decide) rfl ?_
        refine v_iinc (j := 4) (L' := [(3, .int (x3 + 1)), (1, .int x3), (2, .int r2), (4, .int r2), (0, .ref (B + x0))]) C dX7_largest_31 rfl (congrArg (fun z => _ + z) ct_i_1) (by decide) rfl ?_
        refine v_goto (tgt := 6) C dX7_largest_34 (by decide) ?_
        replace h := Option.some.inj h; subst h
        refine v_sub [4, 1, 2, 0] rfl ?_
        exact hc6 (x3, r2, x3 + 1) rfl
  replace h := bind_ex h; obtain ⟨z3, hz3, h⟩ := h
  refine v_sub [3, 2, 1, 0] rfl ?_
  refine loopF_walk (Pσ := fun z => V p l e (rmd 1) s m args below meth c 0 0 D cA B 5 Q M 6 [(0, .ref (B + x0)), (1, .int z.1), (2, .int z.2.1), (3, .int z.2.2)] []) (Pρ := fun y => V p l e (rmd 1) s m args below meth c 0 0 D cA B 5 Q M 37 [(1, .int y)] []) ?_ FUEL (0, (-1), 0) z3 hz3 ?_
  · intro z o hb hc he
    exact LB6 z.1 z.2.1 z.2.2 o hb hc he
  · refine v_iload_n (j := 0) C dX7_largest_37 rfl rfl ?_
    replace h := Option.some.inj h; subst h
    subst hQ
    exact v_iret C hr hlk dX7_largest_38
def m_X7_bestCell (M : Mem) (x1 : Nat) (x2 : Int32) : Option (Int32 × Mem) :=
  (m_X3_weigh M x1 x2 (-1) 198).bind fun r1 => (m_X7_largest r1 198).bind fun r2 => some ((r2, r1))
set_option maxHeartbeats 4000000 in
set_option maxRecDepth 100000 in
theorem c_X7_bestCell (l : Launch) (D : va_G) (cA : cAt) (B : Nat) (aK aV : Nat → Nat) (M : Mem) (x1 : Nat) (x2 : Int32) (k1 : kd x1 = 5) (R : Int32 × Mem) (h : m_X7_bestCell M x1 x2 = some R) : CI l D cA B aK aV yX7_bestCell cX7_bestCell 3 .int 4 [.ref (B + 0), .ref (B + x1), .int x2] M R.1 R.2 := by
  refine CI_of (by decide +kernel) (Nat.le_of_ble_eq_true rfl) ?_
  intro p e s m args below meth c C hr hlk
  have C : Cx p (rmd 4) s m args c 0 0 D cA B aK aV cX7_bestCell 3 RX7 := C
  generalize hQ : MQ below _ args s 0 0 _ = Q
  refine v_eq (M' := M) (pc' := 0) (L' := [(0, .ref (B + 0)), (1, .ref (B + x1)), (2, .int x2)]) (st' := []) ?_
  unfold m_X7_bestCell at h
  refine v_aload_nR (j := 0) C dX7_bestCell_0 rfl rfl ?_
  refine gf_X7_49 C ks_0 dX7_bestCell_1 ?_
  refine v_aload_nR (j := 1) C dX7_bestCell_4 rfl rfl ?_
  refine v_iload_n (j := 2) C dX7_bestCell_5 rfl rfl ?_
  refine v_iconst C dX7_bestCell_6 ct_i_m1 ?_
  refine v_aload_nR (j := 0) C dX7_bestCell_7 rfl rfl ?_
  refine v_pc (pc' := 8) rfl ?_
  refine gf_X7_53 C ks_0 dX7_bestCell_8 ?_
  replace h := bind_ex h; obtain ⟨r1, hr1, h⟩ := h
  refine cvN_V C tw_701 tw_108 tw_698 tw_700 tw_44 pd_X3_weigh (Nat.le_of_ble_eq_true rfl) (Nat.le_of_ble_eq_true rfl) (q := 196) (kd_lt ks_196 (by decide)) (sh3 ks_196) rfl (As := [.ref (B + x1), .int x2, .int (-1), .ref (B + 198)]) (rest := []) rfl rfl (Nat.le_of_ble_eq_true rfl) (c_X3_weigh l D cA B aK aV M x1 x2 (-1) 198 k1 ks_198 r1 hr1) dX7_bestCell_11 ?_
  refine v_aload_nR (j := 0) C dX7_bestCell_14 rfl rfl ?_
  refine gf_X7_53 C ks_0 dX7_bestCell_15 ?_
  replace h := bind_ex h; obtain ⟨r2, hr2, h⟩ := h
  refine cs_I C tw_712 tw_103 tw_710 tw_711 pd_X7_largest (Nat.le_of_ble_eq_true rfl) (Nat.le_of_ble_eq_true rfl) (As := [.ref (B + 198)]) (rest := []) rfl rfl (Nat.le_of_ble_eq_true rfl) (c_X7_largest l D cA B aK aV r1 198 ks_198 r2 hr2) dX7_bestCell_18 ?_
  replace h := Option.some.inj h; subst h
  subst hQ
  exact v_iret C hr hlk dX7_bestCell_21
def m_X7_stand (M : Mem) (x1 : Int32) (x2 : Int32) (x3 : Int32) : Option (Int32 × Mem) :=
  (m_X5_at M 4 x1).bind fun r1 => optC r1 (some (((-1000001), M))) (fun a2 => chk (kdB a2 2) ((m_X7_isCell M x2).bind fun r4 => if r4 = 0 then (some (((-1000001), M))) else ((m_X7_isSpread M x3).bind fun r5 => if r5 = 0 then (some (((-1000001), M))) else ((m_X3_throwAt M x2 x3).bind fun r6 => (m_X7_bestCell r6 4 x1).bind fun r7 => some ((r7.1, r7.2))))))
set_option maxHeartbeats 4000000 in
set_option maxRecDepth 100000 in
theorem c_X7_stand (l : Launch) (D : va_G) (cA : cAt) (B : Nat) (aK aV : Nat → Nat) (M : Mem) (x1 : Int32) (x2 : Int32) (x3 : Int32) (R : Int32 × Mem) (h : m_X7_stand M x1 x2 x3 = some R) : CI l D cA B aK aV yX7_stand cX7_stand 4 .int 5 [.ref (B + 0), .int x1, .int x2, .int x3] M R.1 R.2 := by
  refine CI_of (by decide +kernel) (Nat.le_of_ble_eq_true rfl) ?_
  intro p e s m args below meth c C hr hlk
  have C : Cx p (rmd 5) s m args c 0 0 D cA B aK aV cX7_stand 4 RX7 := C
  generalize hQ : MQ below _ args s 0 0 _ = Q
  refine v_eq (M' := M) (pc' := 0) (L' := [(0, .ref (B + 0)), (1, .int x1), (2, .int x2), (3, .int x3)]) (st' := []) ?_
  unfold m_X7_stand at h
  refine v_aload_nR (j := 0) C dX7_stand_0 rfl rfl ?_
  refine gf_X7_25 C ks_0 dX7_stand_1 ?_
  refine v_iload_n (j := 1) C dX7_stand_4 rfl rfl ?_
  replace h := bind_ex h; obtain ⟨r1, hr1, h⟩ := h
  refine cvN_Q C tw_534 tw_105 tw_634 tw_533 tw_25 pd_X5_at (Nat.le_of_ble_eq_true rfl) (Nat.le_of_ble_eq_true rfl) (q := 4) (kd_lt ks_4 (by decide)) (sh5 ks_4) rfl (As := [.int x1]) (rest := []) rfl rfl (Nat.le_of_ble_eq_true rfl) (c_X5_at l D cA B aK aV M 4 x1 ks_4 r1 hr1) dX7_stand_5 ?_
  replace h := optC_ex h
  rcases h with ⟨rfl, h⟩ | ⟨a2, rfl, h⟩
  · refine v_eq (M' := M) (pc' := 8) (L' := [(0, .ref (B + 0)), (1, .int x1), (2, .int x2), (3, .int x3)]) (st' := [.null]) ?_
    refine v_ifnullN (tgt := 25) C dX7_stand_8 (by decide) ?_
    refine v_ldc C tw_343 dX7_stand_25 ?_
    replace h := Option.some.inj h; subst h
    subst hQ
    exact v_iret C hr hlk dX7_stand_27
  · replace h := chk_some h; obtain ⟨g3, h⟩ := h
    replace g3 := kdB_eq g3
    refine v_eq (M' := M) (pc' := 8) (L' := [(0, .ref (B + 0)), (1, .int x1), (2, .int x2), (3, .int x3)]) (st' := [.ref (B + a2)]) ?_
    refine v_ifnullS C dX7_stand_8 ?_
    refine v_iload_n (j := 2) C dX7_stand_11 rfl rfl ?_
    replace h := bind_ex h; obtain ⟨r4, hr4, h⟩ := h
    refine cs_I C tw_556 tw_103 tw_554 tw_555 pd_X7_isCell (Nat.le_of_ble_eq_true rfl) (Nat.le_of_ble_eq_true rfl) (As := [.int x2]) (rest := []) rfl rfl (Nat.le_of_ble_eq_true rfl) (c_X7_isCell l D cA B aK aV M x2 r4 hr4) dX7_stand_12 ?_
    refine v_if_eq (tgt := 25) C dX7_stand_15 (by decide) (fun g => ?_) (fun g => ?_)
    · replace h := ite_t g h
      refine v_ldc C tw_343 dX7_stand_25 ?_
      replace h := Option.some.inj h; subst h
      subst hQ
      exact v_iret C hr hlk dX7_stand_27
    · replace h := ite_f g h
      refine v_iload_n (j := 3) C dX7_stand_18 rfl rfl ?_
      replace h := bind_ex h; obtain ⟨r5, hr5, h⟩ := h
      refine cs_I C tw_559 tw_103 tw_557 tw_558 pd_X7_isSpread (Nat.le_of_ble_eq_true rfl) (Nat.le_of_ble_eq_true rfl) (As := [.int x3]) (rest := []) rfl rfl (Nat.le_of_ble_eq_true rfl) (c_X7_isSpread l D cA B aK aV M x3 r5 hr5) dX7_stand_19 ?_
      refine v_if_ne (tgt := 28) C dX7_stand_22 (by decide) (fun g => ?_) (fun g => ?_)
      · replace h := ite_t g h
        refine v_pc (pc' := 25) rfl ?_
        refine v_ldc C tw_343 dX7_stand_25 ?_
        replace h := Option.some.inj h; subst h
        subst hQ
        exact v_iret C hr hlk dX7_stand_27
      · replace h := ite_f g h
        refine v_aload_nR (j := 0) C dX7_stand_28 rfl rfl ?_
        refine gf_X7_49 C ks_0 dX7_stand_29 ?_
        refine v_iload_n (j := 2) C dX7_stand_32 rfl rfl ?_
        refine v_iload_n (j := 3) C dX7_stand_33 rfl rfl ?_
        replace h := bind_ex h; obtain ⟨r6, hr6, h⟩ := h
        refine cvN_V C tw_584 tw_108 tw_581 tw_583 tw_32 pd_X3_throwAt (Nat.le_of_ble_eq_true rfl) (Nat.le_of_ble_eq_true rfl) (q := 196) (kd_lt ks_196 (by decide)) (sh3 ks_196) rfl (As := [.int x2, .int x3]) (rest := []) rfl rfl (Nat.le_of_ble_eq_true rfl) (c_X3_throwAt l D cA B aK aV M x2 x3 r6 hr6) dX7_stand_34 ?_
        refine v_aload_nR (j := 0) C dX7_stand_37 rfl rfl ?_
        refine v_pc (pc' := 38) rfl ?_
        refine v_aload_nR (j := 0) C dX7_stand_38 rfl rfl ?_
        refine gf_X7_25 C ks_0 dX7_stand_39 ?_
        refine v_iload_n (j := 1) C dX7_stand_42 rfl rfl ?_
        replace h := bind_ex h; obtain ⟨r7, hr7, h⟩ := h
        refine cv_I C tw_697 tw_103 tw_694 tw_696 tw_43 pd_X7_bestCell (Nat.le_of_ble_eq_true rfl) (Nat.le_of_ble_eq_true rfl) (q := 0) (kd_lt ks_0 (by decide)) (sh7 ks_0) rfl (As := [.ref (B + 4), .int x1]) (rest := []) rfl rfl (Nat.le_of_ble_eq_true rfl) (c_X7_bestCell l D cA B aK aV r6 4 x1 ks_4 r7 hr7) dX7_stand_43 ?_
        replace h := Option.some.inj h; subst h
        subst hQ
        exact v_iret C hr hlk dX7_stand_46
