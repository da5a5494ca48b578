def j_X8_aim_85 (M : Mem) (x1 : Int32) (x2 : Int32) (x4 : Int32) (x5 : Int32) (x6 : Int32) (s0 : Int32) : Option ((Int32 × Int32 × Int32 × Mem) ⊕ (Int32 × Int32 × Mem)) :=
  if x6 ≤ x4 then (some (.inl (s0, x4, x5 + 1, M))) else (some (.inl (s0, x6, x5 + 1, M)))
def b_X8_aim_53 (M : Mem) (x1 : Int32) (x2 : Int32) (x3 : Int32) (x4 : Int32) (x5 : Int32) : Option ((Int32 × Int32 × Int32 × Mem) ⊕ (Int32 × Int32 × Mem)) :=
  if 30 ≤ x5 then (some (.inr (x3, x4, M))) else ((m_X8_served M x5 x1).bind fun r6 => (m_X8_ones r6.2 r6.1).bind fun r7 => if r7 ≤ x4 then (j_X8_aim_85 r6.2 x1 x2 x4 x5 r7 x3) else (j_X8_aim_85 r6.2 x1 x2 x4 x5 r7 x5))
def m_X8_aim (M : Mem) (x1 : Int32) (x2 : Int32) : Option (Int32 × Mem) :=
  chk (inB 0 39) (if (M 239 (0 : Int32).toNatClampNeg) = 0 then (some (((-1000002), M))) else ((m_X8_in M x1.toInt64 0 2).bind fun r2 => if r2 = 0 then (some (((-1000001), M))) else ((m_X8_in M x2.toInt64 0 1).bind fun r3 => if r3 = 0 then (some (((-1000001), M))) else ((m_X8_lays M).bind fun r4 => (m_X8_laysPicks r4).bind fun r5 => (loopF (fun z => b_X8_aim_53 z.2.2.2 x1 x2 z.1 z.2.1 z.2.2.1) FUEL (0, (-1), 0, r5)).bind fun z8 => if x2 = 0 then (some ((z8.1, z8.2.2))) else (some ((z8.2.1, z8.2.2)))))))
set_option maxHeartbeats 4000000 in
set_option maxRecDepth 100000 in
theorem c_X8_aim (l : Launch) (D : va_G) (cA : cAt) (B : Nat) (aK aV : Nat → Nat) (M : Mem) (x1 : Int32) (x2 : Int32) (R : Int32 × Mem) (h : m_X8_aim M x1 x2 = some R) : CI l D cA B aK aV yX8_aim cX8_aim 7 .int 4 [.ref (B + 234), .int x1, .int x2] M R.1 R.2 := by
  refine CI_of (by decide +kernel) (Nat.le_of_ble_eq_true rfl) ?_
  intro p e s m args below meth c C hr hlk
  have C : Cx p (rmd 4) s m args c 0 0 D cA B aK aV cX8_aim 7 RX8 := C
  generalize hQ : MQ below _ args s 0 0 _ = Q
  refine v_eq (M' := M) (pc' := 0) (L' := [(0, .ref (B + 234)), (1, .int x1), (2, .int x2)]) (st' := []) ?_
  unfold m_X8_aim at h
  refine v_aload_nR (j := 0) C dX8_aim_0 rfl rfl ?_
  refine gf_X8_22 C ks_234 dX8_aim_1 ?_
  refine v_iconst C dX8_aim_4 ct_i_0 ?_
  replace h := chk_some h; obtain ⟨g1, h⟩ := h
  refine v_iald C ks_239 (inB_vp g1) dX8_aim_5 ?_
  refine v_if_ne (tgt := 12) C dX8_aim_6 (by decide) (fun g => ?_) (fun g => ?_)
  · replace h := ite_t g h
    refine v_ldc C tw_1079 dX8_aim_9 ?_
    refine v_pc (pc' := 11) rfl ?_
    replace h := Option.some.inj h; subst h
    subst hQ
    exact v_iret C hr hlk dX8_aim_11
  · replace h := ite_f g h
    refine v_iload_n (j := 1) C dX8_aim_12 rfl rfl ?_
    refine v_i2l C dX8_aim_13 ?_
    refine v_lconst (v := 0) C dX8_aim_14 rfl ?_
    refine v_ldc2 C tw_980 dX8_aim_15 ?_
    replace h := bind_ex h; obtain ⟨r2, hr2, h⟩ := h
    refine cs_I C tw_979 tw_111 tw_977 tw_978 pd_X8_in (Nat.le_of_ble_eq_true rfl) (Nat.le_of_ble_eq_true rfl) (As := [.long x1.toInt64, .long 0, .long 2]) (rest := []) rfl rfl (Nat.le_of_ble_eq_true rfl) (c_X8_in l D cA B aK aV M x1.toInt64 0 2 r2 hr2) dX8_aim_18 ?_
    refine v_if_eq (tgt := 34) C dX8_aim_21 (by decide) (fun g => ?_) (fun g => ?_)
    · replace h := ite_t g h
      refine v_ldc C tw_981 dX8_aim_34 ?_
      replace h := Option.some.inj h; subst h
      subst hQ
      exact v_iret C hr hlk dX8_aim_36
    · replace h := ite_f g h
      refine v_pc (pc' := 24) rfl ?_
      refine v_iload_n (j := 2) C dX8_aim_24 rfl rfl ?_
      refine v_i2l C dX8_aim_25 ?_
      refine v_lconst (v := 0) C dX8_aim_26 rfl ?_
      refine v_lconst (v := 1) C dX8_aim_27 rfl ?_
      replace h := bind_ex h; obtain ⟨r3, hr3, h⟩ := h
      refine cs_I C tw_979 tw_111 tw_977 tw_978 pd_X8_in (Nat.le_of_ble_eq_true rfl) (Nat.le_of_ble_eq_true rfl) (As := [.long x2.toInt64, .long 0, .long 1]) (rest := []) rfl rfl (Nat.le_of_ble_eq_true rfl) (c_X8_in l D cA B aK aV M x2.toInt64 0 1 r3 hr3) dX8_aim_28 ?_
      refine v_if_ne (tgt := 37) C dX8_aim_31 (by decide) (fun g => ?_) (fun g => ?_)
      · replace h := ite_t g h
        refine v_ldc C tw_981 dX8_aim_34 ?_
        refine v_pc (pc' := 36) rfl ?_
        replace h := Option.some.inj h; subst h
        subst hQ
        exact v_iret C hr hlk dX8_aim_36
      · replace h := ite_f g h
        refine v_aload_nR (j := 0) C dX8_aim_37 rfl rfl ?_
        replace h := bind_ex h; obtain ⟨r4, hr4, h⟩ := h
        refine cv_V C tw_1096 tw_111 tw_1093 tw_1095 tw_86 pd_X8_lays (Nat.le_of_ble_eq_true rfl) (Nat.le_of_ble_eq_true rfl) (q := 234) (kd_lt ks_234 (by decide)) (sh8 ks_234) rfl (As := []) (rest := []) rfl rfl (Nat.le_of_ble_eq_true rfl) (c_X8_lays l D cA B aK aV M r4 hr4) dX8_aim_38 ?_
        refine v_aload_nR (j := 0) C dX8_aim_41 rfl rfl ?_
        replace h := bind_ex h; obtain ⟨r5, hr5, h⟩ := h
        refine cv_V C tw_1100 tw_111 tw_1097 tw_1099 tw_87 pd_X8_laysPicks (Nat.le_of_ble_eq_true rfl) (Nat.le_of_ble_eq_true rfl) (q := 234) (kd_lt ks_234 (by decide)) (sh8 ks_234) rfl (As := []) (rest := []) rfl rfl (Nat.le_of_ble_eq_true rfl) (c_X8_laysPicks l D cA B aK aV r4 r5 hr5) dX8_aim_42 ?_
        refine v_iconst C dX8_aim_45 ct_i_0 ?_
        refine v_istore_n (L' := [(3, .int 0), (0, .ref (B + 234)), (1, .int x1), (2, .int x2)]) C dX8_aim_46 rfl (by decide) rfl ?_
        refine v_pc (pc' := 47) rfl ?_
        refine v_iconst C dX8_aim_47 ct_i_m1 ?_
        refine v_istore (L' := [(4, .int (-1)), (3, .int 0), (0, .ref (B + 234)), (1, .int x1), (2, .int x2)]) C dX8_aim_48 (by decide) rfl ?_
        refine v_iconst C dX8_aim_50 ct_i_0 ?_
        refine v_istore (L' := [(5, .int 0), (4, .int (-1)), (3, .int 0), (0, .ref (B + 234)), (1, .int x1), (2, .int x2)]) C dX8_aim_51 (by decide) rfl ?_
        have LB53 : ∀ (M : Mem) (x3 : Int32) (x4 : Int32) (x5 : Int32) (o53 : (Int32 × Int32 × Int32 × Mem) ⊕ (Int32 × Int32 × Mem)) (h : b_X8_aim_53 M x1 x2 x3 x4 x5 = some o53) (hc53 : ∀ z : Int32 × Int32 × Int32 × Mem, o53 = .inl z → V p l e (rmd 4) s m args below meth c 0 0 D cA B 7 Q z.2.2.2 53 [(0, .ref (B + 234)), (1, .int x1), (2, .int x2), (3, .int z.1), (4, .int z.2.1), (5, .int z.2.2.1)] []) (he53 : ∀ z : Int32 × Int32 × Mem, o53 = .inr z → V p l e (rmd 4) s m args below meth c 0 0 D cA B 7 Q z.2.2 108 [(2, .int x2), (3, .int z.1), (4, .int z.2.1)] []), V p l e (rmd 4) s m args below meth c 0 0 D cA B 7 Q M 53 [(0, .ref (B + 234)), (1, .int x1), (2, .int x2), (3, .int x3), (4, .int x4), (5, .int x5)] [] := by
          intro M x3 x4 x5 o53 h hc53 he53
          unfold b_X8_aim_53 at h
          have J85 : ∀ (M : Mem) (x4 : Int32) (x5 : Int32) (x6 : Int32) (s0 : Int32), j_X8_aim_85 M x1 x2 x4 x5 x6 s0 = some o53 → V p l e (rmd 4) s m args below meth c 0 0 D cA B 7 Q M 85 [(0, .ref (B + 234)), (1, .int x1), (2, .int x2), (4, .int x4), (5, .int x5), (6, .int x6)] [.int s0] := by
            intro M x4 x5 x6 s0 h
            unfold j_X8_aim_85 at h
            refine v_istore_n (L' := [(3, .int s0), (0, .ref (B + 234)), (1, .int x1), (2, .int x2), (4, .int x4), (5, .int x5), (6, .int x6)]) C dX8_aim_85 rfl (by decide) rfl ?_
            refine v_iload (j := 6) C dX8_aim_86 rfl ?_
            refine v_iload (j := 4) C dX8_aim_88 rfl ?_
            refine v_icmp_le (tgt := 98) C dX8_aim_90 (by decide) (fun g => ?_) (fun g => ?_)
            · replace h := ite_t g h
              refine v_iload (j := 4) C dX8_aim_98 rfl ?_
              refine v_istore (L' := [(4, .int x4), (3, .int s0), (0, .ref (B + 234)), (1, .int x1), (2, .int x2), (5, .int x5), (6, .int x6)]) C dX8_aim_100 (by decide) rfl ?_
              refine v_iinc (j := 5) (L' := [(5, .int (x5 + 1)), (4, .int x4), (3, .int s0), (0, .ref (B + 234)), (1, .int x1), (2, .int x2), (6, .int x6)]) C dX8_aim_102 rfl (congrArg (fun z => _ + z) ct_i_1) (by decide) rfl ?_
              refine v_goto (tgt := 53) C dX8_aim_105 (by decide) ?_
              replace h := Option.some.inj h; subst h
              refine v_sub [3, 4, 5, 2, 1, 0] rfl ?_
              exact hc53 (s0, x4, x5 + 1, M) rfl
            · replace h := ite_f g h
              refine v_iload (j := 6) C dX8_aim_93 rfl ?_
              refine v_goto (tgt := 100) C dX8_aim_95 (by decide) ?_
              refine v_istore (L' := [(4, .int x6), (3, .int s0), (0, .ref (B + 234)), (1, .int x1), (2, .int x2), (5, .int x5), (6, .int x6)]) C dX8_aim_100 (by decide) rfl ?_
              refine v_iinc (j := 5) (L' := [(5, .int (x5 + 1)), (4, .int x6), (3, .int s0), (0, .ref (B + 234)), (1, .int x1), (2, .int x2), (6, .int x6)]) C dX8_aim_102 rfl (congrArg (fun z => _ + z) ct_i_1) (by decide) rfl ?_
              refine v_goto (tgt := 53) C dX8_aim_105 (by decide) ?_
              replace h := Option.some.inj h; subst h
              refine v_sub [3, 4, 5, 2, 1, 0] rfl ?_
              exact hc53 (s0, x6, x5 + 1, M) rfl
          refine v_iload (j := 5) C dX8_aim_53 rfl ?_
          refine v_bipush C dX8_aim_55 ct_b_30 ?_
          refine v_icmp_ge (tgt := 108) C dX8_aim_57 (by decide) (fun g => ?_) (fun g => ?_)
          · replace h := ite_t g h
            replace h := Option.some.inj h; subst h
            refine v_sub [2, 3, 4] rfl ?_
            exact he53 (x3, x4, M) rfl
          · replace h := ite_f g h
            refine v_aload_nR (j := 0) C dX8_aim_60 rfl rfl ?_
            refine v_iload (j := 5) C dX8_aim_61 rfl ?_
            refine v_iload_n (j := 1) C dX8_aim_63 rfl rfl ?_
            refine v_pc (pc' := 64) rfl ?_
            replace h := bind_ex h; obtain ⟨r6, hr6, h⟩ := h
            refine cv_I C tw_1197 tw_111 tw_1194 tw_1196 tw_96 pd_X8_served (Nat.le_of_ble_eq_true rfl) (Nat.le_of_ble_eq_true rfl) (q := 234) (kd_lt ks_234 (by decide)) (sh8 ks_234) rfl (As := [.int x5, .int x1]) (rest := []) rfl rfl (Nat.le_of_ble_eq_true rfl) (c_X8_served l D cA B aK aV M x5 x1 r6 hr6) dX8_aim_64 ?_
            replace h := bind_ex h; obtain ⟨r7, hr7, h⟩ := h
            refine cs_I C tw_1200 tw_111 tw_1198 tw_1199 pd_X8_ones (Nat.le_of_ble_eq_true rfl) (Nat.le_of_ble_eq_true rfl) (As := [.int r6.1]) (rest := []) rfl rfl (Nat.le_of_ble_eq_true rfl) (c_X8_ones l D cA B aK aV r6.2 r6.1 r7 hr7) dX8_aim_67 ?_
            refine v_istore (L' := [(6, .int r7), (0, .ref (B + 234)), (1, .int x1), (2, .int x2), (3, .int x3), (4, .int x4), (5, .int x5)]) C dX8_aim_70 (by decide) rfl ?_
            refine v_iload (j := 0) C dX8_aim_72 rfl ?_
            refine v_iload (j := 5) C dX8_aim_74 rfl ?_
            refine v_icmp_le (tgt := 84) C dX8_aim_76 (by decide) (fun g => ?_) (fun g => ?_)
            · replace h := ite_t g h
              refine v_iload_n (j := 4) C dX8_aim_84 rfl rfl ?_
              refine v_sub [1, 2, 3, 5, 6, 0] rfl ?_
              exact J85 r6.2 x4 x5 r7 x3 h
            · replace h := ite_f g h
              refine v_iload (j := 6) C dX8_aim_79 rfl ?_
              refine v_pc (pc' := 81) rfl ?_
              refine v_goto (tgt := 85) C dX8_aim_81 (by decide) ?_
              refine v_sub [1, 2, 3, 5, 6, 0] rfl ?_
              exact J85 r6.2 x4 x5 r7 x5 h
        replace h := bind_ex h; obtain ⟨z8, hz8, h⟩ := h
        refine v_sub [3, 4, 5, 2, 1, 0] rfl ?_
        refine loopF_walk (Pσ := fun z => V p l e (rmd 4) s m args below meth c 0 0 D cA B 7 Q z.2.2.2 53 [(0, .ref (B + 234)), (1, .int x1), (2, .int x2), (3, .int z.1), (4, .int z.2.1), (5, .int z.2.2.1)] []) (Pρ := fun y => V p l e (rmd 4) s m args below meth c 0 0 D cA B 7 Q y.2.2 108 [(2, .int x2), (3, .int y.1), (4, .int y.2.1)] []) ?_ FUEL (0, (-1), 0, r5) z8 hz8 ?_
        · intro z o hb hc he
          exact LB53 z.2.2.2 z.1 z.2.1 z.2.2.1 o hb hc he
        · refine v_iload_n (j := 0) C dX8_aim_108 rfl rfl ?_
          refine v_if_ne (tgt := 116) C dX8_aim_109 (by decide) (fun g => ?_) (fun g => ?_)
          · replace h := ite_t g h
            refine v_iload_n (j := 1) C dX8_aim_112 rfl rfl ?_
            refine v_goto (tgt := 118) C dX8_aim_113 (by decide) ?_
            replace h := Option.some.inj h; subst h
            subst hQ
            exact v_iret C hr hlk dX8_aim_118
          · replace h := ite_f g h
            refine v_iload (j := 2) C dX8_aim_116 rfl ?_
            replace h := Option.some.inj h; subst h
            subst hQ
            exact v_iret C hr hlk dX8_aim_118
def j_X8_rowOf_122 (M : Mem) (x1 : Int32) (x2 : Int32) (x3 : Int32) (x4 : Int32) (s0 : Int32) (s1 : Int32) : Option (Int32 ⊕ (Unit ⊕ Int32)) :=
  nm (s1 ||| s0) fun y1 => if y1 = x2 then (some (.inr (.inr x4))) else (some (.inl (x4 + 1)))
def j_X8_rowOf_97 (M : Mem) (x1 : Int32) (x2 : Int32) (x3 : Int32) (x4 : Int32) (s0 : Int32) (s1 : Int32) : Option (Int32 ⊕ (Unit ⊕ Int32)) :=
  nm (s1 ||| s0) fun y2 => if x1 ≤ 2 then (j_X8_rowOf_122 M x1 x2 x3 x4 0 y2) else (chk (inB (x4 / 900) 30) (j_X8_rowOf_122 M x1 x2 x3 x4 (M 248 (x4 / 900).toNatClampNeg) y2))
def j_X8_rowOf_71 (M : Mem) (x1 : Int32) (x2 : Int32) (x3 : Int32) (x4 : Int32) (s0 : Int32) : Option (Int32 ⊕ (Unit ⊕ Int32)) :=
  if x1 ≤ 1 then (j_X8_rowOf_97 M x1 x2 x3 x4 0 s0) else (chk (inB ((x4 / 30) % 30) 30) (j_X8_rowOf_97 M x1 x2 x3 x4 (M 248 ((x4 / 30) % 30).toNatClampNeg) s0))
def b_X8_rowOf_47 (M : Mem) (x1 : Int32) (x2 : Int32) (x3 : Int32) (x4 : Int32) : Option (Int32 ⊕ (Unit ⊕ Int32)) :=
  if x3 ≤ x4 then (some (.inr (.inl ()))) else (if x1 ≤ 0 then (j_X8_rowOf_71 M x1 x2 x3 x4 0) else (chk (inB (x4 % 30) 30) (j_X8_rowOf_71 M x1 x2 x3 x4 (M 248 (x4 % 30).toNatClampNeg))))
def j_X8_rowOf_43 (M : Mem) (x1 : Int32) (x2 : Int32) (s0 : Int32) : Option Int32 :=
  (loopF (fun z => b_X8_rowOf_47 M x1 x2 s0 z) FUEL 0).bind fun z6 => sumC z6 (fun z7 => some (-1000000)) (fun z => some z)
def m_X8_rowOf (M : Mem) (x1 : Int32) : Option Int32 :=
  chk (inB 3 39) (nm ((1 <<< ((M 239 (3 : Int32).toNatClampNeg) &&& 31)) - 1) fun y9 => if x1 = 0 then (j_X8_rowOf_43 M x1 y9 1) else (if x1 = 1 then (j_X8_rowOf_43 M x1 y9 30) else (if x1 = 2 then (j_X8_rowOf_43 M x1 y9 900) else (j_X8_rowOf_43 M x1 y9 27000))))
set_option maxHeartbeats 4000000 in
set_option maxRecDepth 100000 in
theorem c_X8_rowOf (l : Launch) (D : va_G) (cA : cAt) (B : Nat) (aK aV : Nat → Nat) (M : Mem) (x1 : Int32) (R : Int32) (h : m_X8_rowOf M x1 = some R) : CI l D cA B aK aV yX8_rowOf cX8_rowOf 6 .int 0 [.ref (B + 234), .int x1] M R M := by
  refine CI_of (by decide +kernel) (Nat.le_of_ble_eq_true rfl) ?_
  intro p e s m args below meth c C hr hlk
  have C : Cx p (rmd 0) s m args c 0 0 D cA B aK aV cX8_rowOf 6 RX8 := C
  generalize hQ : MQ below _ args s 0 0 _ = Q
  refine v_eq (M' := M) (pc' := 0) (L' := [(0, .ref (B + 234)), (1, .int x1)]) (st' := []) ?_
  unfold m_X8_rowOf at h
  have J43 : ∀ (x2 : Int32) (s0 : Int32), j_X8_rowOf_43 M x1 x2 s0 = some R → V p l e (rmd 0) s m args below meth c 0 0 D cA B 6 Q M 43 [(0, .ref (B + 234)), (1, .int x1), (2, .int x2)] [.int s0] := by
    intro x2 s0 h
    unfold j_X8_rowOf_43 at h
    refine v_istore_n (L' := [(3, .int s0), (0, .ref (B + 234)), (1, .int x1), (2, .int x2)]) C dX8_rowOf_43 rfl (by decide) rfl ?_
    refine v_iconst C dX8_rowOf_44 ct_i_0 ?_
    refine v_istore (L' := [(4, .int 0), (3, .int s0), (0, .ref (B + 234)), (1, .int x1), (2, .int x2)]) C dX8_rowOf_45 (by decide) rfl ?_
    have LB47 : ∀  (x2 : Int32) (x3 : Int32) (x4 : Int32) (o47 : Int32 ⊕ (Unit ⊕ Int32)) (h : b_X8_rowOf_47 M x1 x2 x3 x4 = some o47) (hc47 : ∀ z : Int32, o47 = .inl z → V p l e (rmd 0) s m args below meth c 0 0 D cA B 6 Q M 47 [(0, .ref (B + 234)), (1, .int x1), (2, .int x2), (3, .int x3), (4, .int z)] []) (he47 : ∀ z : Unit, o47 = .inr (.inl z) → V p l e (rmd 0) s m args below meth c 0 0 D cA B 6 Q M 140 [] []) (hr47 : ∀ z : Int32, o47 = .inr (.inr z) → z = R), V p l e (rmd 0) s m args below meth c 0 0 D cA B 6 Q M 47 [(0, .ref (B + 234)), (1, .int x1), (2, .int x2), (3, .int x3), (4, .int x4)] [] := by
      intro x2 x3 x4 o47 h hc47 he47 hr47
      unfold b_X8_rowOf_47 at h
      have J122 : ∀ (x4 : Int32) (s0 : Int32) (s1 : Int32), j_X8_rowOf_122 M x1 x2 x3 x4 s0 s1 = some o47 → V p l e (rmd 0) s m args below meth c 0 0 D cA B 6 Q M 122 [(0, .ref (B + 234)), (1, .int x1), (2, .int x2), (3, .int x3), (4, .int x4)] [.int s0, .int s1] := by
        intro x4 s0 s1 h
        unfold j_X8_rowOf_122 at h
        refine v_ior C dX8_rowOf_122 ?_
        replace h := nm_ex h; obtain ⟨y1, ey1, h⟩ := h
        refine v_topI ey1 ?_
        refine v_istore (L' := [(5, .int y1), (0, .ref (B + 234)), (1, .int x1), (2, .int x2), (3, .int x3), (4, .int x4)]) C dX8_rowOf_123 (by decide) rfl ?_
        refine v_iload (j := 0) C dX8_rowOf_125 rfl ?_
        refine v_iload_n (j := 3) C dX8_rowOf_127 rfl rfl ?_
        refine v_icmp_ne (tgt := 134) C dX8_rowOf_128 (by decide) (fun g => ?_) (fun g => ?_)
        · replace h := ite_t g h
          refine v_iload (j := 5) C dX8_rowOf_131 rfl ?_
          refine v_pc (pc' := 133) rfl ?_
          replace h := Option.some.inj h; subst h
          have hR := hr47 _ rfl
          subst hR
          subst hQ
          exact v_iret C hr hlk dX8_rowOf_133
        · replace h := ite_f g h
          refine v_iinc (j := 5) (L' := [(4, .int (x4 + 1)), (5, .int y1), (0, .ref (B + 234)), (1, .int x1), (2, .int x2), (3, .int x3)]) C dX8_rowOf_134 rfl (congrArg (fun z => _ + z) ct_i_1) (by decide) rfl ?_
          refine v_goto (tgt := 47) C dX8_rowOf_137 (by decide) ?_
          replace h := Option.some.inj h; subst h
          refine v_sub [2, 3, 4, 5, 0] rfl ?_
          exact hc47 (x4 + 1) rfl
      have J97 : ∀ (x4 : Int32) (s0 : Int32) (s1 : Int32), j_X8_rowOf_97 M x1 x2 x3 x4 s0 s1 = some o47 → V p l e (rmd 0) s m args below meth c 0 0 D cA B 6 Q M 97 [(0, .ref (B + 234)), (1, .int x1), (2, .int x2), (3, .int x3), (4, .int x4)] [.int s0, .int s1] := by
        intro x4 s0 s1 h
        unfold j_X8_rowOf_97 at h
        refine v_ior C dX8_rowOf_97 ?_
        replace h := nm_ex h; obtain ⟨y2, ey2, h⟩ := h
        refine v_topI ey2 ?_
        refine v_istore (L' := [(5, .int y2), (0, .ref (B + 234)), (1, .int x1), (2, .int x2), (3, .int x3), (4, .int x4)]) C dX8_rowOf_98 (by decide) rfl ?_
        refine v_iload (j := 0) C dX8_rowOf_100 rfl ?_
        refine v_iload_n (j := 2) C dX8_rowOf_102 rfl rfl ?_
        refine v_iconst C dX8_rowOf_103 ct_i_2 ?_
        refine v_icmp_le (tgt := 121) C dX8_rowOf_104 (by decide) (fun g => ?_) (fun g => ?_)
        · replace h := ite_t g h
          refine v_iconst C dX8_rowOf_121 ct_i_0 ?_
          refine v_sub [1, 2, 3, 4, 5] rfl ?_
          exact J122 x4 0 y2 h
        · replace h := ite_f g h
          refine v_pc (pc' := 107) rfl ?_
          refine v_aload_nR (j := 1) C dX8_rowOf_107 rfl rfl ?_
          refine gf_X8_50 C ks_234 dX8_rowOf_108 ?_
          refine v_iload (j := 5) C dX8_rowOf_111 rfl ?_
          refine v_sipush C dX8_rowOf_113 ct_s_900 ?_
          refine v_idiv C dX8_rowOf_116 (by decide) ?_
          replace h := chk_some h; obtain ⟨g3, h⟩ := h
          refine v_iald C ks_248 (inB_vp g3) dX8_rowOf_117 ?_
          refine v_goto (tgt := 122) C dX8_rowOf_118 (by decide) ?_
          refine v_sub [1, 2, 3, 4, 5] rfl ?_
          exact J122 x4 (M 248 (x4 / 900).toNatClampNeg) y2 h
      have J71 : ∀ (x4 : Int32) (s0 : Int32), j_X8_rowOf_71 M x1 x2 x3 x4 s0 = some o47 → V p l e (rmd 0) s m args below meth c 0 0 D cA B 6 Q M 71 [(0, .ref (B + 234)), (1, .int x1), (2, .int x2), (3, .int x3), (4, .int x4)] [.int s0] := by
        intro x4 s0 h
        unfold j_X8_rowOf_71 at h
        refine v_istore (L' := [(5, .int s0), (0, .ref (B + 234)), (1, .int x1), (2, .int x2), (3, .int x3), (4, .int x4)]) C dX8_rowOf_71 (by decide) rfl ?_
        refine v_iload (j := 0) C dX8_rowOf_73 rfl ?_
        refine v_iload_n (j := 2) C dX8_rowOf_75 rfl rfl ?_
        refine v_iconst C dX8_rowOf_76 ct_i_1 ?_
        refine v_icmp_le (tgt := 96) C dX8_rowOf_77 (by decide) (fun g => ?_) (fun g => ?_)
        · replace h := ite_t g h
          refine v_iconst C dX8_rowOf_96 ct_i_0 ?_
          refine v_sub [1, 2, 3, 4, 5] rfl ?_
          exact J97 x4 0 s0 h
        · replace h := ite_f g h
          refine v_aload_nR (j := 1) C dX8_rowOf_80 rfl rfl ?_
          refine v_pc (pc' := 81) rfl ?_
          refine gf_X8_50 C ks_234 dX8_rowOf_81 ?_
          refine v_iload (j := 5) C dX8_rowOf_84 rfl ?_
          refine v_bipush C dX8_rowOf_86 ct_b_30 ?_
          refine v_idiv C dX8_rowOf_88 (by decide) ?_
          refine v_bipush C dX8_rowOf_89 ct_b_30 ?_
          refine v_irem C dX8_rowOf_91 (by decide) ?_
          replace h := chk_some h; obtain ⟨g4, h⟩ := h
          refine v_iald C ks_248 (inB_vp g4) dX8_rowOf_92 ?_
          refine v_pc (pc' := 93) rfl ?_
          refine v_goto (tgt := 97) C dX8_rowOf_93 (by decide) ?_
          refine v_sub [1, 2, 3, 4, 5] rfl ?_
          exact J97 x4 (M 248 ((x4 / 30) % 30).toNatClampNeg) s0 h
      refine v_iload (j := 4) C dX8_rowOf_47 rfl ?_
      refine v_iload_n (j := 3) C dX8_rowOf_49 rfl rfl ?_
      refine v_icmp_ge (tgt := 140) C dX8_rowOf_50 (by decide) (fun g => ?_) (fun g => ?_)
      · replace h := ite_t g h
        replace h := Option.some.inj h; subst h
        refine v_sub [] rfl ?_
        exact he47 () rfl
      · replace h := ite_f g h
        refine v_iload_n (j := 1) C dX8_rowOf_53 rfl rfl ?_
        refine v_if_le (tgt := 70) C dX8_rowOf_54 (by decide) (fun g => ?_) (fun g => ?_)
        · replace h := ite_t g h
          refine v_iconst C dX8_rowOf_70 ct_i_0 ?_
          refine v_sub [0, 1, 2, 3, 4] rfl ?_
          exact J71 x4 0 h
        · replace h := ite_f g h
          refine v_aload_nR (j := 0) C dX8_rowOf_57 rfl rfl ?_
          refine v_pc (pc' := 58) rfl ?_
          refine gf_X8_50 C ks_234 dX8_rowOf_58 ?_
          refine v_iload (j := 4) C dX8_rowOf_61 rfl ?_
          refine v_bipush C dX8_rowOf_63 ct_b_30 ?_
          refine v_irem C dX8_rowOf_65 (by decide) ?_
          replace h := chk_some h; obtain ⟨g5, h⟩ := h
          refine v_iald C ks_248 (inB_vp g5) dX8_rowOf_66 ?_
          refine v_goto (tgt := 71) C dX8_rowOf_67 (by decide) ?_
          refine v_sub [0, 1, 2, 3, 4] rfl ?_
          exact J71 x4 (M 248 (x4 % 30).toNatClampNeg) h
    replace h := bind_ex h; obtain ⟨z6, hz6, h⟩ := h
    refine v_sub [2, 3, 4, 1, 0] rfl ?_
    refine loopF_walk (Pσ := fun z => V p l e (rmd 0) s m args below meth c 0 0 D cA B 6 Q M 47 [(0, .ref (B + 234)), (1, .int x1), (2, .int x2), (3, .int s0), (4, .int z)] []) (Pρ := fun r => (∀ y : Unit, r = .inl y → V p l e (rmd 0) s m args below meth c 0 0 D cA B 6 Q M 140 [] []) ∧ (∀ y : Int32, r = .inr y → y = R)) ?_ FUEL 0 z6 hz6 ?_
    · intro z o hb hc he
      exact LB47 x2 s0 z o hb hc (fun y e => (he _ e).1 y rfl) (fun y e => (he _ e).2 y rfl)
    · refine ⟨fun z7 e => ?_, fun y e => ?_⟩
      · subst e
        replace h := sumC_l h
        refine v_ldc C tw_1105 dX8_rowOf_140 ?_
        replace h := Option.some.inj h; subst h
        subst hQ
        exact v_iret C hr hlk dX8_rowOf_142
      · subst e
        replace h := sumC_r h
        exact Option.some.inj h
  refine v_iconst C dX8_rowOf_0 ct_i_1 ?_
  refine v_aload_nR (j := 0) C dX8_rowOf_1 rfl rfl ?_
  refine gf_X8_22 C ks_234 dX8_rowOf_2 ?_
  refine v_iconst C dX8_rowOf_5 ct_i_3 ?_
  replace h := chk_some h; obtain ⟨g8, h⟩ := h
  refine v_iald C ks_239 (inB_vp g8) dX8_rowOf_6 ?_
  refine v_ishl C dX8_rowOf_7 ?_
  refine v_pc (pc' := 8) rfl ?_
  refine v_iconst C dX8_rowOf_8 ct_i_1 ?_
  refine v_isub C dX8_rowOf_9 ?_
  replace h := nm_ex h; obtain ⟨y9, ey9, h⟩ := h
  refine v_topI ey9 ?_
  refine v_istore_n (L' := [(2, .int y9), (0, .ref (B + 234)), (1, .int x1)]) C dX8_rowOf_10 rfl (by decide) rfl ?_
  refine v_iload_n (j := 2) C dX8_rowOf_11 rfl rfl ?_
  refine v_if_ne (tgt := 19) C dX8_rowOf_12 (by decide) (fun g => ?_) (fun g => ?_)
  · replace h := ite_t g h
    refine v_iconst C dX8_rowOf_15 ct_i_1 ?_
    refine v_goto (tgt := 43) C dX8_rowOf_16 (by decide) ?_
    refine v_sub [1, 2, 0] rfl ?_
    exact J43 y9 1 h
  · replace h := ite_f g h
    refine v_iload_n (j := 2) C dX8_rowOf_19 rfl rfl ?_
    refine v_iconst C dX8_rowOf_20 ct_i_1 ?_
    refine v_icmp_ne (tgt := 29) C dX8_rowOf_21 (by decide) (fun g => ?_) (fun g => ?_)
    · replace h := ite_t g h
      refine v_bipush C dX8_rowOf_24 ct_b_30 ?_
      refine v_goto (tgt := 43) C dX8_rowOf_26 (by decide) ?_
      refine v_sub [1, 2, 0] rfl ?_
      exact J43 y9 30 h
    · replace h := ite_f g h
      refine v_iload_n (j := 2) C dX8_rowOf_29 rfl rfl ?_
      refine v_iconst C dX8_rowOf_30 ct_i_2 ?_
      refine v_icmp_ne (tgt := 40) C dX8_rowOf_31 (by decide) (fun g => ?_) (fun g => ?_)
      · replace h := ite_t g h
        refine v_sipush C dX8_rowOf_34 ct_s_900 ?_
        refine v_goto (tgt := 43) C dX8_rowOf_37 (by decide) ?_
        refine v_sub [1, 2, 0] rfl ?_
        exact J43 y9 900 h
      · replace h := ite_f g h
        refine v_sipush C dX8_rowOf_40 ct_s_27000 ?_
        refine v_sub [1, 2, 0] rfl ?_
        exact J43 y9 27000 h
def b_X8_throwsFor_42 (M : Mem) (x1 : Int32) (x2 : Int32) (x3 : Int32) : Option ((Int32 × Mem) ⊕ Mem) :=
  if 30 ≤ x3 then (some (.inr M)) else ((m_X8_served M x3 x1).bind fun r5 => chk (inB x3 30) (nm (mset r5.2 248 x3.toNatClampNeg r5.1) fun M7 => some (.inl (x3 + 1, M7))))
def b_X8_throwsFor_68 (M : Mem) (x2 : Int32) (x3 : Int32) : Option (Int32 ⊕ (Unit ⊕ (Int32 × Mem))) :=
  if 4 ≤ x3 then (some (.inr (.inl ()))) else ((m_X8_rowOf M x3).bind fun r9 => if r9 = (-1000000) then (some (.inl (x3 + 1))) else (nm ((x3 - 1) - x2) fun y10 => if x2 = (-1) then (some (.inr (.inr ((x3, M))))) else (if x2 < x3 then (if y10 = 0 then (some (.inr (.inr ((r9 % 30, M))))) else (if y10 = 1 then (some (.inr (.inr (((r9 / 30) % 30, M))))) else (some (.inr (.inr ((r9 / 900, M))))))) else (some (.inr (.inr (((-1000000), M))))))))
def m_X8_throwsFor (M : Mem) (x1 : Int32) (x2 : Int32) : Option (Int32 × Mem) :=
  chk (inB 0 39) (if (M 239 (0 : Int32).toNatClampNeg) = 0 then (some (((-1000002), M))) else ((m_X8_in M x1.toInt64 0 2).bind fun r2 => if r2 = 0 then (some (((-1000001), M))) else (if (-1) ≤ x2 then ((m_X8_lays M).bind fun r3 => (m_X8_laysPicks r3).bind fun r4 => (loopF (fun z => b_X8_throwsFor_42 z.2 x1 x2 z.1) FUEL (0, r4)).bind fun z8 => (loopF (fun z => b_X8_throwsFor_68 z8 x2 z) FUEL 0).bind fun z11 => sumC z11 (fun z12 => some (((-1000000), z8))) (fun z => some z)) else (some (((-1000001), M))))))
set_option maxHeartbeats 4000000 in
set_option maxRecDepth 100000 in
theorem c_X8_throwsFor (l : Launch) (D : va_G) (cA : cAt) (B : Nat) (aK aV : Nat → Nat) (M : Mem) (x1 : Int32) (x2 : Int32) (R : Int32 × Mem) (h : m_X8_throwsFor M x1 x2 = some R) : CI l D cA B aK aV yX8_throwsFor cX8_throwsFor 6 .int 4 [.ref (B + 234), .int x1, .int x2] M R.1 R.2 := by
  refine CI_of (by decide +kernel) (Nat.le_of_ble_eq_true rfl) ?_
  intro p e s m args below meth c C hr hlk
  have C : Cx p (rmd 4) s m args c 0 0 D cA B aK aV cX8_throwsFor 6 RX8 := C
  generalize hQ : MQ below _ args s 0 0 _ = Q
  refine v_eq (M' := M) (pc' := 0) (L' := [(0, .ref (B + 234)), (1, .int x1), (2, .int x2)]) (st' := []) ?_
  unfold m_X8_throwsFor at h
  refine v_aload_nR (j := 0) C dX8_throwsFor_0 rfl rfl ?_
  refine gf_X8_22 C ks_234 dX8_throwsFor_1 ?_
  refine v_iconst C dX8_throwsFor_4 ct_i_0 ?_
  replace h := chk_some h; obtain ⟨g1, h⟩ := h
  refine v_iald C ks_239 (inB_vp g1) dX8_throwsFor_5 ?_
  refine v_if_ne (tgt := 12) C dX8_throwsFor_6 (by decide) (fun g => ?_) (fun g => ?_)
  · replace h := ite_t g h
    refine v_ldc C tw_1079 dX8_throwsFor_9 ?_
    refine v_pc (pc' := 11) rfl ?_
    replace h := Option.some.inj h; subst h
    subst hQ
    exact v_iret C hr hlk dX8_throwsFor_11
  · replace h := ite_f g h
    refine v_iload_n (j := 1) C dX8_throwsFor_12 rfl rfl ?_
    refine v_i2l C dX8_throwsFor_13 ?_
    refine v_lconst (v := 0) C dX8_throwsFor_14 rfl ?_
    refine v_ldc2 C tw_980 dX8_throwsFor_15 ?_
    replace h := bind_ex h; obtain ⟨r2, hr2, h⟩ := h
    refine cs_I C tw_979 tw_111 tw_977 tw_978 pd_X8_in (Nat.le_of_ble_eq_true rfl) (Nat.le_of_ble_eq_true rfl) (As := [.long x1.toInt64, .long 0, .long 2]) (rest := []) rfl rfl (Nat.le_of_ble_eq_true rfl) (c_X8_in l D cA B aK aV M x1.toInt64 0 2 r2 hr2) dX8_throwsFor_18 ?_
    refine v_if_eq (tgt := 29) C dX8_throwsFor_21 (by decide) (fun g => ?_) (fun g => ?_)
    · replace h := ite_t g h
      refine v_ldc C tw_981 dX8_throwsFor_29 ?_
      replace h := Option.some.inj h; subst h
      subst hQ
      exact v_iret C hr hlk dX8_throwsFor_31
    · replace h := ite_f g h
      refine v_pc (pc' := 24) rfl ?_
      refine v_iload_n (j := 2) C dX8_throwsFor_24 rfl rfl ?_
      refine v_iconst C dX8_throwsFor_25 ct_i_m1 ?_
      refine v_icmp_ge (tgt := 32) C dX8_throwsFor_26 (by decide) (fun g => ?_) (fun g => ?_)
      · replace h := ite_t g h
        refine v_aload_nR (j := 0) C dX8_throwsFor_32 rfl rfl ?_
        replace h := bind_ex h; obtain ⟨r3, hr3, h⟩ := h
        refine cv_V C tw_1096 tw_111 tw_1093 tw_1095 tw_86 pd_X8_lays (Nat.le_of_ble_eq_true rfl) (Nat.le_of_ble_eq_true rfl) (q := 234) (kd_lt ks_234 (by decide)) (sh8 ks_234) rfl (As := []) (rest := []) rfl rfl (Nat.le_of_ble_eq_true rfl) (c_X8_lays l D cA B aK aV M r3 hr3) dX8_throwsFor_33 ?_
        refine v_aload_nR (j := 0) C dX8_throwsFor_36 rfl rfl ?_
        replace h := bind_ex h; obtain ⟨r4, hr4, h⟩ := h
        refine cv_V C tw_1100 tw_111 tw_1097 tw_1099 tw_87 pd_X8_laysPicks (Nat.le_of_ble_eq_true rfl) (Nat.le_of_ble_eq_true rfl) (q := 234) (kd_lt ks_234 (by decide)) (sh8 ks_234) rfl (As := []) (rest := []) rfl rfl (Nat.le_of_ble_eq_true rfl) (c_X8_laysPicks l D cA B aK aV r3 r4 hr4) dX8_throwsFor_37 ?_
        refine v_iconst C dX8_throwsFor_40 ct_i_0 ?_
        refine v_istore_n (L' := [(3, .int 0), (0, .ref (B + 234)), (1, .int x1), (2, .int x2)]) C dX8_throwsFor_41 rfl (by decide) rfl ?_
        have LB42 : ∀ (M : Mem) (x3 : Int32) (o42 : (Int32 × Mem) ⊕ Mem) (h : b_X8_throwsFor_42 M x1 x2 x3 = some o42) (hc42 : ∀ z : Int32 × Mem, o42 = .inl z → V p l e (rmd 4) s m args below meth c 0 0 D cA B 6 Q z.2 42 [(0, .ref (B + 234)), (1, .int x1), (2, .int x2), (3, .int z.1)] []) (he42 : ∀ z : Mem, o42 = .inr z → V p l e (rmd 4) s m args below meth c 0 0 D cA B 6 Q z 66 [(0, .ref (B + 234)), (2, .int x2)] []), V p l e (rmd 4) s m args below meth c 0 0 D cA B 6 Q M 42 [(0, .ref (B + 234)), (1, .int x1), (2, .int x2), (3, .int x3)] [] := by
          intro M x3 o42 h hc42 he42
          unfold b_X8_throwsFor_42 at h
          refine v_iload_n (j := 3) C dX8_throwsFor_42 rfl rfl ?_
          refine v_bipush C dX8_throwsFor_43 ct_b_30 ?_
          refine v_icmp_ge (tgt := 66) C dX8_throwsFor_45 (by decide) (fun g => ?_) (fun g => ?_)
          · replace h := ite_t g h
            replace h := Option.some.inj h; subst h
            refine v_sub [0, 2] rfl ?_
            exact he42 M rfl
          · replace h := ite_f g h
            refine v_aload_nR (j := 0) C dX8_throwsFor_48 rfl rfl ?_
            refine gf_X8_50 C ks_234 dX8_throwsFor_49 ?_
            refine v_iload_n (j := 3) C dX8_throwsFor_52 rfl rfl ?_
            refine v_pc (pc' := 53) rfl ?_
            refine v_aload_nR (j := 0) C dX8_throwsFor_53 rfl rfl ?_
            refine v_iload_n (j := 3) C dX8_throwsFor_54 rfl rfl ?_
            refine v_iload_n (j := 1) C dX8_throwsFor_55 rfl rfl ?_
            replace h := bind_ex h; obtain ⟨r5, hr5, h⟩ := h
            refine cv_I C tw_1197 tw_111 tw_1194 tw_1196 tw_96 pd_X8_served (Nat.le_of_ble_eq_true rfl) (Nat.le_of_ble_eq_true rfl) (q := 234) (kd_lt ks_234 (by decide)) (sh8 ks_234) rfl (As := [.int x3, .int x1]) (rest := [.int x3, .ref (B + 248)]) rfl rfl (Nat.le_of_ble_eq_true rfl) (c_X8_served l D cA B aK aV M x3 x1 r5 hr5) dX8_throwsFor_56 ?_
            replace h := chk_some h; obtain ⟨g6, h⟩ := h
            replace h := nm_ex h; obtain ⟨M7, eM7, h⟩ := h
            refine v_iast C ks_248 (inB_vp g6) dX8_throwsFor_59 ?_
            refine v_mem eM7 ?_
            refine v_iinc (j := 3) (L' := [(3, .int (x3 + 1)), (0, .ref (B + 234)), (1, .int x1), (2, .int x2)]) C dX8_throwsFor_60 rfl (congrArg (fun z => _ + z) ct_i_1) (by decide) rfl ?_
            refine v_goto (tgt := 42) C dX8_throwsFor_63 (by decide) ?_
            replace h := Option.some.inj h; subst h
            refine v_sub [1, 2, 3, 0] rfl ?_
            exact hc42 (x3 + 1, M7) rfl
        replace h := bind_ex h; obtain ⟨z8, hz8, h⟩ := h
        refine v_sub [1, 2, 3, 0] rfl ?_
        refine loopF_walk (Pσ := fun z => V p l e (rmd 4) s m args below meth c 0 0 D cA B 6 Q z.2 42 [(0, .ref (B + 234)), (1, .int x1), (2, .int x2), (3, .int z.1)] []) (Pρ := fun y => V p l e (rmd 4) s m args below meth c 0 0 D cA B 6 Q y 66 [(0, .ref (B + 234)), (2, .int x2)] []) ?_ FUEL (0, r4) z8 hz8 ?_
        · intro z o hb hc he
          exact LB42 z.2 z.1 o hb hc he
        · refine v_iconst C dX8_throwsFor_66 ct_i_0 ?_
          refine v_istore_n (L' := [(3, .int 0), (0, .ref (B + 234)), (2, .int x2)]) C dX8_throwsFor_67 rfl (by decide) rfl ?_
          have LB68 : ∀ (M : Mem) (x3 : Int32) (o68 : Int32 ⊕ (Unit ⊕ (Int32 × Mem))) (h : b_X8_throwsFor_68 M x2 x3 = some o68) (hc68 : ∀ z : Int32, o68 = .inl z → V p l e (rmd 4) s m args below meth c 0 0 D cA B 6 Q M 68 [(0, .ref (B + 234)), (2, .int x2), (3, .int z)] []) (he68 : ∀ z : Unit, o68 = .inr (.inl z) → V p l e (rmd 4) s m args below meth c 0 0 D cA B 6 Q M 156 [] []) (hr68 : ∀ z : Int32 × Mem, o68 = .inr (.inr z) → z = R), V p l e (rmd 4) s m args below meth c 0 0 D cA B 6 Q M 68 [(0, .ref (B + 234)), (2, .int x2), (3, .int x3)] [] := by
            intro M x3 o68 h hc68 he68 hr68
            unfold b_X8_throwsFor_68 at h
            refine v_iload_n (j := 2) C dX8_throwsFor_68 rfl rfl ?_
            refine v_iconst C dX8_throwsFor_69 ct_i_4 ?_
            refine v_icmp_ge (tgt := 156) C dX8_throwsFor_70 (by decide) (fun g => ?_) (fun g => ?_)
            · replace h := ite_t g h
              replace h := Option.some.inj h; subst h
              refine v_sub [] rfl ?_
              exact he68 () rfl
            · replace h := ite_f g h
              refine v_aload_nR (j := 0) C dX8_throwsFor_73 rfl rfl ?_
              refine v_iload_n (j := 2) C dX8_throwsFor_74 rfl rfl ?_
              replace h := bind_ex h; obtain ⟨r9, hr9, h⟩ := h
              refine cv_I C tw_1208 tw_111 tw_1205 tw_1207 tw_97 pd_X8_rowOf (Nat.le_of_ble_eq_true rfl) (Nat.le_of_ble_eq_true rfl) (q := 234) (kd_lt ks_234 (by decide)) (sh8 ks_234) rfl (As := [.int x3]) (rest := []) rfl rfl (Nat.le_of_ble_eq_true rfl) (c_X8_rowOf l D cA B aK aV M x3 r9 hr9) dX8_throwsFor_75 ?_
              refine v_pc (pc' := 78) rfl ?_
              refine v_istore (L' := [(4, .int r9), (0, .ref (B + 234)), (2, .int x2), (3, .int x3)]) C dX8_throwsFor_78 (by decide) rfl ?_
              refine v_iload (j := 0) C dX8_throwsFor_80 rfl ?_
              refine v_ldc C tw_1105 dX8_throwsFor_82 ?_
              refine v_icmp_eq (tgt := 150) C dX8_throwsFor_84 (by decide) (fun g => ?_) (fun g => ?_)
              · replace h := ite_t g h
                refine v_iinc (j := 3) (L' := [(3, .int (x3 + 1)), (4, .int r9), (0, .ref (B + 234)), (2, .int x2)]) C dX8_throwsFor_150 rfl (congrArg (fun z => _ + z) ct_i_1) (by decide) rfl ?_
                refine v_goto (tgt := 68) C dX8_throwsFor_153 (by decide) ?_
                replace h := Option.some.inj h; subst h
                refine v_sub [2, 3, 0] rfl ?_
                exact hc68 (x3 + 1) rfl
              · replace h := ite_f g h
                refine v_iload_n (j := 3) C dX8_throwsFor_87 rfl rfl ?_
                refine v_iconst C dX8_throwsFor_88 ct_i_1 ?_
                refine v_isub C dX8_throwsFor_89 ?_
                refine v_pc (pc' := 90) rfl ?_
                refine v_iload_n (j := 2) C dX8_throwsFor_90 rfl rfl ?_
                refine v_isub C dX8_throwsFor_91 ?_
                replace h := nm_ex h; obtain ⟨y10, ey10, h⟩ := h
                refine v_topI ey10 ?_
                refine v_istore (L' := [(5, .int y10), (4, .int r9), (0, .ref (B + 234)), (2, .int x2), (3, .int x3)]) C dX8_throwsFor_92 (by decide) rfl ?_
                refine v_iload_n (j := 3) C dX8_throwsFor_94 rfl rfl ?_
                refine v_iconst C dX8_throwsFor_95 ct_i_m1 ?_
                refine v_icmp_ne (tgt := 103) C dX8_throwsFor_96 (by decide) (fun g => ?_) (fun g => ?_)
                · replace h := ite_t g h
                  refine v_iload_n (j := 4) C dX8_throwsFor_99 rfl rfl ?_
                  refine v_pc (pc' := 100) rfl ?_
                  refine v_goto (tgt := 149) C dX8_throwsFor_100 (by decide) ?_
                  replace h := Option.some.inj h; subst h
                  have hR := hr68 _ rfl
                  subst hR
                  subst hQ
                  exact v_iret C hr hlk dX8_throwsFor_149
                · replace h := ite_f g h
                  refine v_iload_n (j := 3) C dX8_throwsFor_103 rfl rfl ?_
                  refine v_iload_n (j := 4) C dX8_throwsFor_104 rfl rfl ?_
                  refine v_icmp_lt (tgt := 113) C dX8_throwsFor_105 (by decide) (fun g => ?_) (fun g => ?_)
                  · replace h := ite_t g h
                    refine v_iload (j := 0) C dX8_throwsFor_113 rfl ?_
                    refine v_if_ne (tgt := 126) C dX8_throwsFor_115 (by decide) (fun g => ?_) (fun g => ?_)
                    · replace h := ite_t g h
                      refine v_iload (j := 1) C dX8_throwsFor_118 rfl ?_
                      refine v_bipush C dX8_throwsFor_120 ct_b_30 ?_
                      refine v_irem C dX8_throwsFor_122 (by decide) ?_
                      refine v_goto (tgt := 149) C dX8_throwsFor_123 (by decide) ?_
                      replace h := Option.some.inj h; subst h
                      have hR := hr68 _ rfl
                      subst hR
                      subst hQ
                      exact v_iret C hr hlk dX8_throwsFor_149
                    · replace h := ite_f g h
                      refine v_iload (j := 0) C dX8_throwsFor_126 rfl ?_
                      refine v_iconst C dX8_throwsFor_128 ct_i_1 ?_
                      refine v_icmp_ne (tgt := 143) C dX8_throwsFor_129 (by decide) (fun g => ?_) (fun g => ?_)
                      · replace h := ite_t g h
                        refine v_iload (j := 1) C dX8_throwsFor_132 rfl ?_
                        refine v_bipush C dX8_throwsFor_134 ct_b_30 ?_
                        refine v_idiv C dX8_throwsFor_136 (by decide) ?_
                        refine v_pc (pc' := 137) rfl ?_
                        refine v_bipush C dX8_throwsFor_137 ct_b_30 ?_
                        refine v_irem C dX8_throwsFor_139 (by decide) ?_
                        refine v_goto (tgt := 149) C dX8_throwsFor_140 (by decide) ?_
                        replace h := Option.some.inj h; subst h
                        have hR := hr68 _ rfl
                        subst hR
                        subst hQ
                        exact v_iret C hr hlk dX8_throwsFor_149
                      · replace h := ite_f g h
                        refine v_iload (j := 1) C dX8_throwsFor_143 rfl ?_
                        refine v_sipush C dX8_throwsFor_145 ct_s_900 ?_
                        refine v_idiv C dX8_throwsFor_148 (by decide) ?_
                        replace h := Option.some.inj h; subst h
                        have hR := hr68 _ rfl
                        subst hR
                        subst hQ
                        exact v_iret C hr hlk dX8_throwsFor_149
                  · replace h := ite_f g h
                    refine v_ldc C tw_1105 dX8_throwsFor_108 ?_
                    refine v_goto (tgt := 149) C dX8_throwsFor_110 (by decide) ?_
                    replace h := Option.some.inj h; subst h
                    have hR := hr68 _ rfl
                    subst hR
                    subst hQ
                    exact v_iret C hr hlk dX8_throwsFor_149
          replace h := bind_ex h; obtain ⟨z11, hz11, h⟩ := h
          refine v_sub [1, 2, 0] rfl ?_
          refine loopF_walk (Pσ := fun z => V p l e (rmd 4) s m args below meth c 0 0 D cA B 6 Q z8 68 [(0, .ref (B + 234)), (2, .int x2), (3, .int z)] []) (Pρ := fun r => (∀ y : Unit, r = .inl y → V p l e (rmd 4) s m args below meth c 0 0 D cA B 6 Q z8 156 [] []) ∧ (∀ y : Int32 × Mem, r = .inr y → y = R)) ?_ FUEL 0 z11 hz11 ?_
          · intro z o hb hc he
            exact LB68 z8 z o hb hc (fun y e => (he _ e).1 y rfl) (fun y e => (he _ e).2 y rfl)
          · refine ⟨fun z12 e => ?_, fun y e => ?_⟩
            · subst e
              replace h := sumC_l h
              refine v_ldc C tw_1105 dX8_throwsFor_156 ?_
              replace h := Option.some.inj h; subst h
              subst hQ
              exact v_iret C hr hlk dX8_throwsFor_158
            · subst e
              replace h := sumC_r h
              exact Option.some.inj h
      · replace h := ite_f g h
        refine v_ldc C tw_981 dX8_throwsFor_29 ?_
        replace h := Option.some.inj h; subst h
        subst hQ
        exact v_iret C hr hlk dX8_throwsFor_31
def b_X8_cool_32 (M : Mem) (x1 : Int32) (x4 : Int32) : Option ((Int32 × Mem) ⊕ (Mem ⊕ (Int32 × Mem))) :=
  if 20 < x4 then (some (.inr (.inl M))) else (nm (mset M 234 21 x4) fun M5 => (m_X8_waysOf M5 x1).bind fun r6 => if r6 = 0 then (some (.inr (.inr ((x4, M5))))) else (some (.inl (x4 + 1, M5))))
def m_X8_cool (M : Mem) (x1 : Int32) (x2 : Int32) (x3 : Int32) : Option (Int32 × Mem) :=
  (m_X8_isChild M x1).bind fun r1 => if r1 = 0 then (some (((-1000001), M))) else ((m_X8_isThrow M x2 x3).bind fun r2 => if r2 = 0 then (some (((-1000001), M))) else ((m_X8_lays M).bind fun r3 => (m_X8_laysWays r3 x2 x3).bind fun r4 => (loopF (fun z => b_X8_cool_32 z.2 x1 z.1) FUEL (0, r4)).bind fun z7 => sumC z7 (fun z8 => some (((-1000000), z8))) (fun z => some z)))
set_option maxHeartbeats 4000000 in
set_option maxRecDepth 100000 in
theorem c_X8_cool (l : Launch) (D : va_G) (cA : cAt) (B : Nat) (aK aV : Nat → Nat) (M : Mem) (x1 : Int32) (x2 : Int32) (x3 : Int32) (R : Int32 × Mem) (h : m_X8_cool M x1 x2 x3 = some R) : CI l D cA B aK aV yX8_cool cX8_cool 5 .int 4 [.ref (B + 234), .int x1, .int x2, .int x3] M R.1 R.2 := by
  refine CI_of (by decide +kernel) (Nat.le_of_ble_eq_true rfl) ?_
  intro p e s m args below meth c C hr hlk
  have C : Cx p (rmd 4) s m args c 0 0 D cA B aK aV cX8_cool 5 RX8 := C
  generalize hQ : MQ below _ args s 0 0 _ = Q
  refine v_eq (M' := M) (pc' := 0) (L' := [(0, .ref (B + 234)), (1, .int x1), (2, .int x2), (3, .int x3)]) (st' := []) ?_
  unfold m_X8_cool at h
  refine v_aload_nR (j := 0) C dX8_cool_0 rfl rfl ?_
  refine v_iload_n (j := 1) C dX8_cool_1 rfl rfl ?_
  replace h := bind_ex h; obtain ⟨r1, hr1, h⟩ := h
  refine cv_I C tw_1128 tw_111 tw_1125 tw_1127 tw_91 pd_X8_isChild (Nat.le_of_ble_eq_true rfl) (Nat.le_of_ble_eq_true rfl) (q := 234) (kd_lt ks_234 (by decide)) (sh8 ks_234) rfl (As := [.int x1]) (rest := []) rfl rfl (Nat.le_of_ble_eq_true rfl) (c_X8_isChild l D cA B aK aV M x1 r1 hr1) dX8_cool_2 ?_
  refine v_if_eq (tgt := 16) C dX8_cool_5 (by decide) (fun g => ?_) (fun g => ?_)
  · replace h := ite_t g h
    refine v_ldc C tw_981 dX8_cool_16 ?_
    replace h := Option.some.inj h; subst h
    subst hQ
    exact v_iret C hr hlk dX8_cool_18
  · replace h := ite_f g h
    refine v_iload_n (j := 2) C dX8_cool_8 rfl rfl ?_
    refine v_iload_n (j := 3) C dX8_cool_9 rfl rfl ?_
    refine v_pc (pc' := 10) rfl ?_
    replace h := bind_ex h; obtain ⟨r2, hr2, h⟩ := h
    refine cs_I C tw_1082 tw_111 tw_1080 tw_1081 pd_X8_isThrow (Nat.le_of_ble_eq_true rfl) (Nat.le_of_ble_eq_true rfl) (As := [.int x2, .int x3]) (rest := []) rfl rfl (Nat.le_of_ble_eq_true rfl) (c_X8_isThrow l D cA B aK aV M x2 x3 r2 hr2) dX8_cool_10 ?_
    refine v_if_ne (tgt := 19) C dX8_cool_13 (by decide) (fun g => ?_) (fun g => ?_)
    · replace h := ite_t g h
      refine v_ldc C tw_981 dX8_cool_16 ?_
      replace h := Option.some.inj h; subst h
      subst hQ
      exact v_iret C hr hlk dX8_cool_18
    · replace h := ite_f g h
      refine v_aload_nR (j := 0) C dX8_cool_19 rfl rfl ?_
      replace h := bind_ex h; obtain ⟨r3, hr3, h⟩ := h
      refine cv_V C tw_1096 tw_111 tw_1093 tw_1095 tw_86 pd_X8_lays (Nat.le_of_ble_eq_true rfl) (Nat.le_of_ble_eq_true rfl) (q := 234) (kd_lt ks_234 (by decide)) (sh8 ks_234) rfl (As := []) (rest := []) rfl rfl (Nat.le_of_ble_eq_true rfl) (c_X8_lays l D cA B aK aV M r3 hr3) dX8_cool_20 ?_
      refine v_aload_nR (j := 0) C dX8_cool_23 rfl rfl ?_
      refine v_iload_n (j := 2) C dX8_cool_24 rfl rfl ?_
      refine v_iload_n (j := 3) C dX8_cool_25 rfl rfl ?_
      replace h := bind_ex h; obtain ⟨r4, hr4, h⟩ := h
      refine cv_V C tw_1116 tw_111 tw_1113 tw_1115 tw_90 pd_X8_laysWays (Nat.le_of_ble_eq_true rfl) (Nat.le_of_ble_eq_true rfl) (q := 234) (kd_lt ks_234 (by decide)) (sh8 ks_234) rfl (As := [.int x2, .int x3]) (rest := []) rfl rfl (Nat.le_of_ble_eq_true rfl) (c_X8_laysWays l D cA B aK aV r3 x2 x3 r4 hr4) dX8_cool_26 ?_
      refine v_pc (pc' := 29) rfl ?_
      refine v_iconst C dX8_cool_29 ct_i_0 ?_
      refine v_istore (L' := [(4, .int 0), (0, .ref (B + 234)), (1, .int x1), (2, .int x2), (3, .int x3)]) C dX8_cool_30 (by decide) rfl ?_
      have LB32 : ∀ (M : Mem) (x4 : Int32) (o32 : (Int32 × Mem) ⊕ (Mem ⊕ (Int32 × Mem))) (h : b_X8_cool_32 M x1 x4 = some o32) (hc32 : ∀ z : Int32 × Mem, o32 = .inl z → V p l e (rmd 4) s m args below meth c 0 0 D cA B 5 Q z.2 32 [(0, .ref (B + 234)), (1, .int x1), (4, .int z.1)] []) (he32 : ∀ z : Mem, o32 = .inr (.inl z) → V p l e (rmd 4) s m args below meth c 0 0 D cA B 5 Q z 62 [] []) (hr32 : ∀ z : Int32 × Mem, o32 = .inr (.inr z) → z = R), V p l e (rmd 4) s m args below meth c 0 0 D cA B 5 Q M 32 [(0, .ref (B + 234)), (1, .int x1), (4, .int x4)] [] := by
        intro M x4 o32 h hc32 he32 hr32
        unfold b_X8_cool_32 at h
        refine v_iload (j := 2) C dX8_cool_32 rfl ?_
        refine v_bipush C dX8_cool_34 ct_b_20 ?_
        refine v_icmp_gt (tgt := 62) C dX8_cool_36 (by decide) (fun g => ?_) (fun g => ?_)
        · replace h := ite_t g h
          replace h := Option.some.inj h; subst h
          refine v_sub [] rfl ?_
          exact he32 M rfl
        · replace h := ite_f g h
          refine v_aload_nR (j := 0) C dX8_cool_39 rfl rfl ?_
          refine v_iload (j := 2) C dX8_cool_40 rfl ?_
          replace h := nm_ex h; obtain ⟨M5, eM5, h⟩ := h
          refine pf_X8_172 C ks_234 dX8_cool_42 ?_
          refine v_mem eM5 ?_
          refine v_pc (pc' := 45) rfl ?_
          refine v_aload_nR (j := 0) C dX8_cool_45 rfl rfl ?_
          refine v_iload_n (j := 1) C dX8_cool_46 rfl rfl ?_
          replace h := bind_ex h; obtain ⟨r6, hr6, h⟩ := h
          refine cv_I C tw_1160 tw_111 tw_1157 tw_1159 tw_93 pd_X8_waysOf (Nat.le_of_ble_eq_true rfl) (Nat.le_of_ble_eq_true rfl) (q := 234) (kd_lt ks_234 (by decide)) (sh8 ks_234) rfl (As := [.int x1]) (rest := []) rfl rfl (Nat.le_of_ble_eq_true rfl) (c_X8_waysOf l D cA B aK aV M5 x1 r6 hr6) dX8_cool_47 ?_
          refine v_if_ne (tgt := 56) C dX8_cool_50 (by decide) (fun g => ?_) (fun g => ?_)
          · replace h := ite_t g h
            refine v_iload (j := 2) C dX8_cool_53 rfl ?_
            replace h := Option.some.inj h; subst h
            have hR := hr32 _ rfl
            subst hR
            subst hQ
            exact v_iret C hr hlk dX8_cool_55
          · replace h := ite_f g h
            refine v_iinc (j := 2) (L' := [(4, .int (x4 + 1)), (0, .ref (B + 234)), (1, .int x1)]) C dX8_cool_56 rfl (congrArg (fun z => _ + z) ct_i_1) (by decide) rfl ?_
            refine v_goto (tgt := 32) C dX8_cool_59 (by decide) ?_
            replace h := Option.some.inj h; subst h
            refine v_sub [1, 2, 0] rfl ?_
            exact hc32 (x4 + 1, M5) rfl
      replace h := bind_ex h; obtain ⟨z7, hz7, h⟩ := h
      refine v_sub [1, 2, 0] rfl ?_
      refine loopF_walk (Pσ := fun z => V p l e (rmd 4) s m args below meth c 0 0 D cA B 5 Q z.2 32 [(0, .ref (B + 234)), (1, .int x1), (4, .int z.1)] []) (Pρ := fun r => (∀ y : Mem, r = .inl y → V p l e (rmd 4) s m args below meth c 0 0 D cA B 5 Q y 62 [] []) ∧ (∀ y : Int32 × Mem, r = .inr y → y = R)) ?_ FUEL (0, r4) z7 hz7 ?_
      · intro z o hb hc he
        exact LB32 z.2 z.1 o hb hc (fun y e => (he _ e).1 y rfl) (fun y e => (he _ e).2 y rfl)
      · refine ⟨fun z8 e => ?_, fun y e => ?_⟩
        · subst e
          replace h := sumC_l h
          refine v_ldc C tw_1105 dX8_cool_62 ?_
          replace h := Option.some.inj h; subst h
          subst hQ
          exact v_iret C hr hlk dX8_cool_64
        · subst e
          replace h := sumC_r h
          exact Option.some.inj h
def b_X8_stood_101 (M : Mem) (x3 : Int32) (x4 : Int32) (x5 : Int32) (x6 : Int32) (x7 : Int32) : Option (Int32 ⊕ (Unit ⊕ (Int32 × Mem))) :=
  if x3 ≤ x7 then (some (.inr (.inl ()))) else (chk (inB (x6 + x7) 320) ((m_X8_isCell M (M 237 (x6 + x7).toNatClampNeg)).bind fun r10 => if r10 = 0 then (some (.inr (.inr (((-1000001), M))))) else (some (.inl (x7 + 1)))))
def b_X8_stood_164 (M : Mem) (x3 : Int32) (x4 : Int32) (x5 : Int32) (x6 : Int32) (x7 : Int32) (x8 : Int32) (x9 : Int32) (x10 : Int32) : Option ((Int32 × Int32) ⊕ Int32) :=
  if x3 ≤ x10 then (some (.inr x9)) else (chk (inB (x6 + x10) 320) ((m_X8_pickerOf M (M 237 (x6 + x10).toNatClampNeg)).bind fun r17 => if r17 = x4 then (nm (x9 + 1) fun y19 => some (.inl (y19, x10 + 1))) else (nm (x9 + 0) fun y18 => some (.inl (y18, x10 + 1)))))
def b_X8_stood_142 (M : Mem) (x3 : Int32) (x4 : Int32) (x5 : Int32) (x6 : Int32) (x7 : Int32) (x8 : Int32) : Option ((Int32 × Int32 × Mem) ⊕ (Int32 × Mem)) :=
  if 30 ≤ x8 then (some (.inr (x7, M))) else (chk (inB x4 5) (nm (mset M 245 x4.toNatClampNeg x8) fun M15 => (loopF (fun z => b_X8_stood_164 M15 x3 x4 x5 x6 x7 x8 z.1 z.2) FUEL (0, 0)).bind fun z20 => if z20 = x5 then (nm (x7 ||| (1 <<< (x8 &&& 31))) fun y22 => some (.inl (y22, x8 + 1, M15))) else (nm (x7 ||| 0) fun y21 => some (.inl (y21, x8 + 1, M15)))))
def m_X8_stood (M : Mem) (x1 : Int32) (x2 : Int32) (x3 : Int32) (x4 : Int32) (x5 : Int32) : Option (Int32 × Mem) :=
  (m_X8_in M x1.toInt64 0 7).bind fun r1 => if r1 = 0 then (some (((-1000001), M))) else ((m_X8_in M x3.toInt64 0 20).bind fun r2 => if r2 = 0 then (some (((-1000001), M))) else ((m_X8_isChild M x4).bind fun r3 => if r3 = 0 then (some (((-1000001), M))) else ((m_X8_in M x5.toInt64 0 20).bind fun r4 => if r4 = 0 then (some (((-1000001), M))) else (chk (inB x1 8) (if 0 ≤ (M 235 x1.toNatClampNeg) then (if x2 < 0 then ((m_X8_finds M 2).bind fun r6 => some ((r6.1, r6.2))) else (chk (inB x1 8) (if (lg_cmp (x2.toInt64 + x3.toInt64) ((M 236 x1.toNatClampNeg).toInt64)) ≤ 0 then (nm ((40 * x1) + x2) fun y8 => (loopF (fun z => b_X8_stood_101 M x3 x4 x5 y8 z) FUEL 0).bind fun z11 => sumC z11 (fun z12 => (m_X8_lays M).bind fun r13 => (loopF (fun z => b_X8_stood_142 z.2.2 x3 x4 x5 y8 z.1 z.2.1) FUEL (0, 0, r13)).bind fun z23 => (m_X8_well z23.2 z23.1).bind fun r24 => some ((r24.1, r24.2))) (fun z => some z)) else ((m_X8_finds M 2).bind fun r25 => some ((r25.1, r25.2)))))) else ((m_X8_finds M 1).bind fun r26 => some ((r26.1, r26.2))))))))
set_option maxHeartbeats 4000000 in
set_option maxRecDepth 100000 in
theorem c_X8_stood (l : Launch) (D : va_G) (cA : cAt) (B : Nat) (aK aV : Nat → Nat) (M : Mem) (x1 : Int32) (x2 : Int32) (x3 : Int32) (x4 : Int32) (x5 : Int32) (R : Int32 × Mem) (h : m_X8_stood M x1 x2 x3 x4 x5 = some R) : CI l D cA B aK aV yX8_stood cX8_stood 11 .int 3 [.ref (B + 234), .int x1, .int x2, .int x3, .int x4, .int x5] M R.1 R.2 := by
  refine CI_of (by decide +kernel) (Nat.le_of_ble_eq_true rfl) ?_
  intro p e s m args below meth c C hr hlk
  have C : Cx p (rmd 3) s m args c 0 0 D cA B aK aV cX8_stood 11 RX8 := C
  generalize hQ : MQ below _ args s 0 0 _ = Q
  refine v_eq (M' := M) (pc' := 0) (L' := [(0, .ref (B + 234)), (1, .int x1), (2, .int x2), (3, .int x3), (4, .int x4), (5, .int x5)]) (st' := []) ?_
  unfold m_X8_stood at h
  refine v_iload_n (j := 1) C dX8_stood_0 rfl rfl ?_
  refine v_i2l C dX8_stood_1 ?_
  refine v_lconst (v := 0) C dX8_stood_2 rfl ?_
  refine v_ldc2 C tw_976 dX8_stood_3 ?_
  replace h := bind_ex h; obtain ⟨r1, hr1, h⟩ := h
  refine cs_I C tw_979 tw_111 tw_977 tw_978 pd_X8_in (Nat.le_of_ble_eq_true rfl) (Nat.le_of_ble_eq_true rfl) (As := [.long x1.toInt64, .long 0, .long 7]) (rest := []) rfl rfl (Nat.le_of_ble_eq_true rfl) (c_X8_in l D cA B aK aV M x1.toInt64 0 7 r1 hr1) dX8_stood_6 ?_
  refine v_if_eq (tgt := 46) C dX8_stood_9 (by decide) (fun g => ?_) (fun g => ?_)
  · replace h := ite_t g h
    refine v_ldc C tw_981 dX8_stood_46 ?_
    replace h := Option.some.inj h; subst h
    subst hQ
    exact v_iret C hr hlk dX8_stood_48
  · replace h := ite_f g h
    refine v_pc (pc' := 12) rfl ?_
    refine v_iload_n (j := 3) C dX8_stood_12 rfl rfl ?_
    refine v_i2l C dX8_stood_13 ?_
    refine v_lconst (v := 0) C dX8_stood_14 rfl ?_
    refine v_ldc2 C tw_1087 dX8_stood_15 ?_
    replace h := bind_ex h; obtain ⟨r2, hr2, h⟩ := h
    refine cs_I C tw_979 tw_111 tw_977 tw_978 pd_X8_in (Nat.le_of_ble_eq_true rfl) (Nat.le_of_ble_eq_true rfl) (As := [.long x3.toInt64, .long 0, .long 20]) (rest := []) rfl rfl (Nat.le_of_ble_eq_true rfl) (c_X8_in l D cA B aK aV M x3.toInt64 0 20 r2 hr2) dX8_stood_18 ?_
    refine v_if_eq (tgt := 46) C dX8_stood_21 (by decide) (fun g => ?_) (fun g => ?_)
    · replace h := ite_t g h
      refine v_ldc C tw_981 dX8_stood_46 ?_
      replace h := Option.some.inj h; subst h
      subst hQ
      exact v_iret C hr hlk dX8_stood_48
    · replace h := ite_f g h
      refine v_aload_nR (j := 0) C dX8_stood_24 rfl rfl ?_
      refine v_pc (pc' := 25) rfl ?_
      refine v_iload (j := 4) C dX8_stood_25 rfl ?_
      replace h := bind_ex h; obtain ⟨r3, hr3, h⟩ := h
      refine cv_I C tw_1128 tw_111 tw_1125 tw_1127 tw_91 pd_X8_isChild (Nat.le_of_ble_eq_true rfl) (Nat.le_of_ble_eq_true rfl) (q := 234) (kd_lt ks_234 (by decide)) (sh8 ks_234) rfl (As := [.int x4]) (rest := []) rfl rfl (Nat.le_of_ble_eq_true rfl) (c_X8_isChild l D cA B aK aV M x4 r3 hr3) dX8_stood_27 ?_
      refine v_if_eq (tgt := 46) C dX8_stood_30 (by decide) (fun g => ?_) (fun g => ?_)
      · replace h := ite_t g h
        refine v_ldc C tw_981 dX8_stood_46 ?_
        replace h := Option.some.inj h; subst h
        subst hQ
        exact v_iret C hr hlk dX8_stood_48
      · replace h := ite_f g h
        refine v_iload (j := 5) C dX8_stood_33 rfl ?_
        refine v_i2l C dX8_stood_35 ?_
        refine v_lconst (v := 0) C dX8_stood_36 rfl ?_
        refine v_ldc2 C tw_1087 dX8_stood_37 ?_
        refine v_pc (pc' := 40) rfl ?_
        replace h := bind_ex h; obtain ⟨r4, hr4, h⟩ := h
        refine cs_I C tw_979 tw_111 tw_977 tw_978 pd_X8_in (Nat.le_of_ble_eq_true rfl) (Nat.le_of_ble_eq_true rfl) (As := [.long x5.toInt64, .long 0, .long 20]) (rest := []) rfl rfl (Nat.le_of_ble_eq_true rfl) (c_X8_in l D cA B aK aV M x5.toInt64 0 20 r4 hr4) dX8_stood_40 ?_
        refine v_if_ne (tgt := 49) C dX8_stood_43 (by decide) (fun g => ?_) (fun g => ?_)
        · replace h := ite_t g h
          refine v_ldc C tw_981 dX8_stood_46 ?_
          replace h := Option.some.inj h; subst h
          subst hQ
          exact v_iret C hr hlk dX8_stood_48
        · replace h := ite_f g h
          refine v_aload_nR (j := 0) C dX8_stood_49 rfl rfl ?_
          refine gf_X8_7 C ks_234 dX8_stood_50 ?_
          refine v_iload_n (j := 1) C dX8_stood_53 rfl rfl ?_
          replace h := chk_some h; obtain ⟨g5, h⟩ := h
          refine v_iald C ks_235 (inB_vp g5) dX8_stood_54 ?_
          refine v_if_ge (tgt := 64) C dX8_stood_55 (by decide) (fun g => ?_) (fun g => ?_)
          · replace h := ite_t g h
            refine v_iload_n (j := 2) C dX8_stood_64 rfl rfl ?_
            refine v_if_lt (tgt := 84) C dX8_stood_65 (by decide) (fun g => ?_) (fun g => ?_)
            · replace h := ite_t g h
              refine v_aload_nR (j := 0) C dX8_stood_84 rfl rfl ?_
              refine v_iconst C dX8_stood_85 ct_i_2 ?_
              replace h := bind_ex h; obtain ⟨r6, hr6, h⟩ := h
              refine cv_I C tw_985 tw_111 tw_982 tw_984 tw_73 pd_X8_finds (Nat.le_of_ble_eq_true rfl) (Nat.le_of_ble_eq_true rfl) (q := 234) (kd_lt ks_234 (by decide)) (sh8 ks_234) rfl (As := [.int 2]) (rest := []) rfl rfl (Nat.le_of_ble_eq_true rfl) (c_X8_finds l D cA B aK aV M 2 r6 hr6) dX8_stood_86 ?_
              replace h := Option.some.inj h; subst h
              subst hQ
              exact v_iret C hr hlk dX8_stood_89
            · replace h := ite_f g h
              refine v_iload_n (j := 2) C dX8_stood_68 rfl rfl ?_
              refine v_i2l C dX8_stood_69 ?_
              refine v_iload_n (j := 3) C dX8_stood_70 rfl rfl ?_
              refine v_i2l C dX8_stood_71 ?_
              refine v_pc (pc' := 72) rfl ?_
              refine v_ladd C dX8_stood_72 ?_
              refine v_aload_nR (j := 0) C dX8_stood_73 rfl rfl ?_
              refine gf_X8_13 C ks_234 dX8_stood_74 ?_
              refine v_iload_n (j := 1) C dX8_stood_77 rfl rfl ?_
              replace h := chk_some h; obtain ⟨g7, h⟩ := h
              refine v_iald C ks_236 (inB_vp g7) dX8_stood_78 ?_
              refine v_i2l C dX8_stood_79 ?_
              refine v_lcmp C dX8_stood_80 ?_
              refine v_pc (pc' := 81) rfl ?_
              refine v_if_le (tgt := 90) C dX8_stood_81 (by decide) (fun g => ?_) (fun g => ?_)
              · replace h := ite_t g h
                refine v_bipush C dX8_stood_90 ct_b_40 ?_
                refine v_iload_n (j := 1) C dX8_stood_92 rfl rfl ?_
                refine v_imul C dX8_stood_93 ?_
                refine v_iload_n (j := 2) C dX8_stood_94 rfl rfl ?_
                refine v_iadd C dX8_stood_95 ?_
                replace h := nm_ex h; obtain ⟨y8, ey8, h⟩ := h
                refine v_topI ey8 ?_
                refine v_istore (L' := [(6, .int y8), (0, .ref (B + 234)), (1, .int x1), (2, .int x2), (3, .int x3), (4, .int x4), (5, .int x5)]) C dX8_stood_96 (by decide) rfl ?_
                refine v_pc (pc' := 98) rfl ?_
                refine v_iconst C dX8_stood_98 ct_i_0 ?_
                refine v_istore (L' := [(7, .int 0), (6, .int y8), (0, .ref (B + 234)), (1, .int x1), (2, .int x2), (3, .int x3), (4, .int x4), (5, .int x5)]) C dX8_stood_99 (by decide) rfl ?_
                have LB101 : ∀ (M : Mem) (x6 : Int32) (x7 : Int32) (o101 : Int32 ⊕ (Unit ⊕ (Int32 × Mem))) (h : b_X8_stood_101 M x3 x4 x5 x6 x7 = some o101) (hc101 : ∀ z : Int32, o101 = .inl z → V p l e (rmd 3) s m args below meth c 0 0 D cA B 11 Q M 101 [(0, .ref (B + 234)), (3, .int x3), (4, .int x4), (5, .int x5), (6, .int x6), (7, .int z)] []) (he101 : ∀ z : Unit, o101 = .inr (.inl z) → V p l e (rmd 3) s m args below meth c 0 0 D cA B 11 Q M 132 [(0, .ref (B + 234)), (3, .int x3), (4, .int x4), (5, .int x5), (6, .int x6)] []) (hr101 : ∀ z : Int32 × Mem, o101 = .inr (.inr z) → z = R), V p l e (rmd 3) s m args below meth c 0 0 D cA B 11 Q M 101 [(0, .ref (B + 234)), (3, .int x3), (4, .int x4), (5, .int x5), (6, .int x6), (7, .int x7)] [] := by
                  intro M x6 x7 o101 h hc101 he101 hr101
                  unfold b_X8_stood_101 at h
                  refine v_iload (j := 5) C dX8_stood_101 rfl ?_
                  refine v_iload_n (j := 1) C dX8_stood_103 rfl rfl ?_
                  refine v_icmp_ge (tgt := 132) C dX8_stood_104 (by decide) (fun g => ?_) (fun g => ?_)
                  · replace h := ite_t g h
                    replace h := Option.some.inj h; subst h
                    refine v_sub [0, 1, 2, 3, 4] rfl ?_
                    exact he101 () rfl
                  · replace h := ite_f g h
                    refine v_aload_nR (j := 0) C dX8_stood_107 rfl rfl ?_
                    refine gf_X8_16 C ks_234 dX8_stood_108 ?_
                    refine v_iload (j := 4) C dX8_stood_111 rfl ?_
                    refine v_pc (pc' := 113) rfl ?_
                    refine v_iload (j := 5) C dX8_stood_113 rfl ?_
                    refine v_iadd C dX8_stood_115 ?_
                    replace h := chk_some h; obtain ⟨g9, h⟩ := h
                    refine v_iald C ks_237 (inB_vp g9) dX8_stood_116 ?_
                    replace h := bind_ex h; obtain ⟨r10, hr10, h⟩ := h
                    refine cs_I C tw_1085 tw_111 tw_1083 tw_1084 pd_X8_isCell (Nat.le_of_ble_eq_true rfl) (Nat.le_of_ble_eq_true rfl) (As := [.int (M 237 (x6 + x7).toNatClampNeg)]) (rest := []) rfl rfl (Nat.le_of_ble_eq_true rfl) (c_X8_isCell l D cA B aK aV M (M 237 (x6 + x7).toNatClampNeg) r10 hr10) dX8_stood_117 ?_
                    refine v_if_ne (tgt := 126) C dX8_stood_120 (by decide) (fun g => ?_) (fun g => ?_)
                    · replace h := ite_t g h
                      refine v_ldc C tw_981 dX8_stood_123 ?_
                      replace h := Option.some.inj h; subst h
                      have hR := hr101 _ rfl
                      subst hR
                      subst hQ
                      exact v_iret C hr hlk dX8_stood_125
                    · replace h := ite_f g h
                      refine v_iinc (j := 5) (L' := [(7, .int (x7 + 1)), (0, .ref (B + 234)), (3, .int x3), (4, .int x4), (5, .int x5), (6, .int x6)]) C dX8_stood_126 rfl (congrArg (fun z => _ + z) ct_i_1) (by decide) rfl ?_
                      refine v_goto (tgt := 101) C dX8_stood_129 (by decide) ?_
                      replace h := Option.some.inj h; subst h
                      refine v_sub [1, 2, 3, 4, 5, 0] rfl ?_
                      exact hc101 (x7 + 1) rfl
                replace h := bind_ex h; obtain ⟨z11, hz11, h⟩ := h
                refine v_sub [2, 5, 6, 7, 1, 0] rfl ?_
                refine loopF_walk (Pσ := fun z => V p l e (rmd 3) s m args below meth c 0 0 D cA B 11 Q M 101 [(0, .ref (B + 234)), (3, .int x3), (4, .int x4), (5, .int x5), (6, .int y8), (7, .int z)] []) (Pρ := fun r => (∀ y : Unit, r = .inl y → V p l e (rmd 3) s m args below meth c 0 0 D cA B 11 Q M 132 [(0, .ref (B + 234)), (3, .int x3), (4, .int x4), (5, .int x5), (6, .int y8)] []) ∧ (∀ y : Int32 × Mem, r = .inr y → y = R)) ?_ FUEL 0 z11 hz11 ?_
                · intro z o hb hc he
                  exact LB101 M y8 z o hb hc (fun y e => (he _ e).1 y rfl) (fun y e => (he _ e).2 y rfl)
                · refine ⟨fun z12 e => ?_, fun y e => ?_⟩
                  · subst e
                    replace h := sumC_l h
                    refine v_aload_nR (j := 0) C dX8_stood_132 rfl rfl ?_
                    replace h := bind_ex h; obtain ⟨r13, hr13, h⟩ := h
                    refine cv_V C tw_1096 tw_111 tw_1093 tw_1095 tw_86 pd_X8_lays (Nat.le_of_ble_eq_true rfl) (Nat.le_of_ble_eq_true rfl) (q := 234) (kd_lt ks_234 (by decide)) (sh8 ks_234) rfl (As := []) (rest := []) rfl rfl (Nat.le_of_ble_eq_true rfl) (c_X8_lays l D cA B aK aV M r13 hr13) dX8_stood_133 ?_
                    refine v_iconst C dX8_stood_136 ct_i_0 ?_
                    refine v_istore (L' := [(7, .int 0), (0, .ref (B + 234)), (3, .int x3), (4, .int x4), (5, .int x5), (6, .int y8)]) C dX8_stood_137 (by decide) rfl ?_
                    refine v_iconst C dX8_stood_139 ct_i_0 ?_
                    refine v_istore (L' := [(8, .int 0), (7, .int 0), (0, .ref (B + 234)), (3, .int x3), (4, .int x4), (5, .int x5), (6, .int y8)]) C dX8_stood_140 (by decide) rfl ?_
                    have LB142 : ∀ (M : Mem) (x6 : Int32) (x7 : Int32) (x8 : Int32) (o142 : (Int32 × Int32 × Mem) ⊕ (Int32 × Mem)) (h : b_X8_stood_142 M x3 x4 x5 x6 x7 x8 = some o142) (hc142 : ∀ z : Int32 × Int32 × Mem, o142 = .inl z → V p l e (rmd 3) s m args below meth c 0 0 D cA B 11 Q z.2.2 142 [(0, .ref (B + 234)), (3, .int x3), (4, .int x4), (5, .int x5), (6, .int x6), (7, .int z.1), (8, .int z.2.1)] []) (he142 : ∀ z : Int32 × Mem, o142 = .inr z → V p l e (rmd 3) s m args below meth c 0 0 D cA B 11 Q z.2 231 [(0, .ref (B + 234)), (7, .int z.1)] []), V p l e (rmd 3) s m args below meth c 0 0 D cA B 11 Q M 142 [(0, .ref (B + 234)), (3, .int x3), (4, .int x4), (5, .int x5), (6, .int x6), (7, .int x7), (8, .int x8)] [] := by
                      intro M x6 x7 x8 o142 h hc142 he142
                      unfold b_X8_stood_142 at h
                      refine v_iload (j := 6) C dX8_stood_142 rfl ?_
                      refine v_bipush C dX8_stood_144 ct_b_30 ?_
                      refine v_icmp_ge (tgt := 231) C dX8_stood_146 (by decide) (fun g => ?_) (fun g => ?_)
                      · replace h := ite_t g h
                        replace h := Option.some.inj h; subst h
                        refine v_sub [0, 5] rfl ?_
                        exact he142 (x7, M) rfl
                      · replace h := ite_f g h
                        refine v_aload_nR (j := 0) C dX8_stood_149 rfl rfl ?_
                        refine gf_X8_41 C ks_234 dX8_stood_150 ?_
                        refine v_iload (j := 2) C dX8_stood_153 rfl ?_
                        refine v_pc (pc' := 155) rfl ?_
                        refine v_iload (j := 6) C dX8_stood_155 rfl ?_
                        replace h := chk_some h; obtain ⟨g14, h⟩ := h
                        replace h := nm_ex h; obtain ⟨M15, eM15, h⟩ := h
                        refine v_iast C ks_245 (inB_vp g14) dX8_stood_157 ?_
                        refine v_mem eM15 ?_
                        refine v_iconst C dX8_stood_158 ct_i_0 ?_
                        refine v_istore (L' := [(9, .int 0), (0, .ref (B + 234)), (3, .int x3), (4, .int x4), (5, .int x5), (6, .int x6), (7, .int x7), (8, .int x8)]) C dX8_stood_159 (by decide) rfl ?_
                        refine v_iconst C dX8_stood_161 ct_i_0 ?_
                        refine v_istore (L' := [(10, .int 0), (9, .int 0), (0, .ref (B + 234)), (3, .int x3), (4, .int x4), (5, .int x5), (6, .int x6), (7, .int x7), (8, .int x8)]) C dX8_stood_162 (by decide) rfl ?_
                        have LB164 : ∀ (M : Mem) (x6 : Int32) (x7 : Int32) (x8 : Int32) (x9 : Int32) (x10 : Int32) (o164 : (Int32 × Int32) ⊕ Int32) (h : b_X8_stood_164 M x3 x4 x5 x6 x7 x8 x9 x10 = some o164) (hc164 : ∀ z : Int32 × Int32, o164 = .inl z → V p l e (rmd 3) s m args below meth c 0 0 D cA B 11 Q M 164 [(0, .ref (B + 234)), (3, .int x3), (4, .int x4), (5, .int x5), (6, .int x6), (7, .int x7), (8, .int x8), (9, .int z.1), (10, .int z.2)] []) (he164 : ∀ z : Int32, o164 = .inr z → V p l e (rmd 3) s m args below meth c 0 0 D cA B 11 Q M 205 [(0, .ref (B + 234)), (3, .int x3), (4, .int x4), (5, .int x5), (6, .int x6), (7, .int x7), (8, .int x8), (9, .int z)] []), V p l e (rmd 3) s m args below meth c 0 0 D cA B 11 Q M 164 [(0, .ref (B + 234)), (3, .int x3), (4, .int x4), (5, .int x5), (6, .int x6), (7, .int x7), (8, .int x8), (9, .int x9), (10, .int x10)] [] := by
                          intro M x6 x7 x8 x9 x10 o164 h hc164 he164
                          unfold b_X8_stood_164 at h
                          refine v_iload (j := 8) C dX8_stood_164 rfl ?_
                          refine v_iload_n (j := 1) C dX8_stood_166 rfl rfl ?_
                          refine v_icmp_ge (tgt := 205) C dX8_stood_167 (by decide) (fun g => ?_) (fun g => ?_)
                          · replace h := ite_t g h
                            replace h := Option.some.inj h; subst h
                            refine v_sub [0, 1, 2, 3, 4, 5, 6, 7] rfl ?_
                            exact he164 x9 rfl
                          · replace h := ite_f g h
                            refine v_iload (j := 7) C dX8_stood_170 rfl ?_
                            refine v_aload_nR (j := 0) C dX8_stood_172 rfl rfl ?_
                            refine v_aload_nR (j := 0) C dX8_stood_173 rfl rfl ?_
                            refine v_pc (pc' := 174) rfl ?_
                            refine gf_X8_16 C ks_234 dX8_stood_174 ?_
                            refine v_iload (j := 4) C dX8_stood_177 rfl ?_
                            refine v_iload (j := 8) C dX8_stood_179 rfl ?_
                            refine v_iadd C dX8_stood_181 ?_
                            replace h := chk_some h; obtain ⟨g16, h⟩ := h
                            refine v_iald C ks_237 (inB_vp g16) dX8_stood_182 ?_
                            replace h := bind_ex h; obtain ⟨r17, hr17, h⟩ := h
                            refine cv_I C tw_1104 tw_111 tw_1101 tw_1103 tw_88 pd_X8_pickerOf (Nat.le_of_ble_eq_true rfl) (Nat.le_of_ble_eq_true rfl) (q := 234) (kd_lt ks_234 (by decide)) (sh8 ks_234) rfl (As := [.int (M 237 (x6 + x10).toNatClampNeg)]) (rest := [.int x9]) rfl rfl (Nat.le_of_ble_eq_true rfl) (c_X8_pickerOf l D cA B aK aV M (M 237 (x6 + x10).toNatClampNeg) r17 hr17) dX8_stood_183 ?_
                            refine v_iload (j := 2) C dX8_stood_186 rfl ?_
                            refine v_pc (pc' := 188) rfl ?_
                            refine v_icmp_ne (tgt := 195) C dX8_stood_188 (by decide) (fun g => ?_) (fun g => ?_)
                            · replace h := ite_t g h
                              refine v_iconst C dX8_stood_191 ct_i_1 ?_
                              refine v_goto (tgt := 196) C dX8_stood_192 (by decide) ?_
                              refine v_iadd C dX8_stood_196 ?_
                              replace h := nm_ex h; obtain ⟨y19, ey19, h⟩ := h
                              refine v_topI ey19 ?_
                              refine v_istore (L' := [(9, .int y19), (0, .ref (B + 234)), (3, .int x3), (4, .int x4), (5, .int x5), (6, .int x6), (7, .int x7), (8, .int x8), (10, .int x10)]) C dX8_stood_197 (by decide) rfl ?_
                              refine v_iinc (j := 8) (L' := [(10, .int (x10 + 1)), (9, .int y19), (0, .ref (B + 234)), (3, .int x3), (4, .int x4), (5, .int x5), (6, .int x6), (7, .int x7), (8, .int x8)]) C dX8_stood_199 rfl (congrArg (fun z => _ + z) ct_i_1) (by decide) rfl ?_
                              refine v_goto (tgt := 164) C dX8_stood_202 (by decide) ?_
                              replace h := Option.some.inj h; subst h
                              refine v_sub [2, 3, 4, 5, 6, 7, 8, 1, 0] rfl ?_
                              exact hc164 (y19, x10 + 1) rfl
                            · replace h := ite_f g h
                              refine v_iconst C dX8_stood_195 ct_i_0 ?_
                              refine v_iadd C dX8_stood_196 ?_
                              replace h := nm_ex h; obtain ⟨y18, ey18, h⟩ := h
                              refine v_topI ey18 ?_
                              refine v_istore (L' := [(9, .int y18), (0, .ref (B + 234)), (3, .int x3), (4, .int x4), (5, .int x5), (6, .int x6), (7, .int x7), (8, .int x8), (10, .int x10)]) C dX8_stood_197 (by decide) rfl ?_
                              refine v_iinc (j := 8) (L' := [(10, .int (x10 + 1)), (9, .int y18), (0, .ref (B + 234)), (3, .int x3), (4, .int x4), (5, .int x5), (6, .int x6), (7, .int x7), (8, .int x8)]) C dX8_stood_199 rfl (congrArg (fun z => _ + z) ct_i_1) (by decide) rfl ?_
                              refine v_goto (tgt := 164) C dX8_stood_202 (by decide) ?_
                              replace h := Option.some.inj h; subst h
                              refine v_sub [2, 3, 4, 5, 6, 7, 8, 1, 0] rfl ?_
                              exact hc164 (y18, x10 + 1) rfl
                        replace h := bind_ex h; obtain ⟨z20, hz20, h⟩ := h
                        refine v_sub [2, 3, 4, 5, 6, 7, 8, 1, 0] rfl ?_
                        refine loopF_walk (Pσ := fun z => V p l e (rmd 3) s m args below meth c 0 0 D cA B 11 Q M15 164 [(0, .ref (B + 234)), (3, .int x3), (4, .int x4), (5, .int x5), (6, .int x6), (7, .int x7), (8, .int x8), (9, .int z.1), (10, .int z.2)] []) (Pρ := fun y => V p l e (rmd 3) s m args below meth c 0 0 D cA B 11 Q M15 205 [(0, .ref (B + 234)), (3, .int x3), (4, .int x4), (5, .int x5), (6, .int x6), (7, .int x7), (8, .int x8), (9, .int y)] []) ?_ FUEL (0, 0) z20 hz20 ?_
                        · intro z o hb hc he
                          exact LB164 M15 x6 x7 x8 z.1 z.2 o hb hc he
                        · refine v_iload (j := 5) C dX8_stood_205 rfl ?_
                          refine v_iload (j := 7) C dX8_stood_207 rfl ?_
                          refine v_iload (j := 3) C dX8_stood_209 rfl ?_
                          refine v_icmp_ne (tgt := 221) C dX8_stood_211 (by decide) (fun g => ?_) (fun g => ?_)
                          · replace h := ite_t g h
                            refine v_iconst C dX8_stood_214 ct_i_1 ?_
                            refine v_iload (j := 6) C dX8_stood_215 rfl ?_
                            refine v_pc (pc' := 217) rfl ?_
                            refine v_ishl C dX8_stood_217 ?_
                            refine v_goto (tgt := 222) C dX8_stood_218 (by decide) ?_
                            refine v_ior C dX8_stood_222 ?_
                            replace h := nm_ex h; obtain ⟨y22, ey22, h⟩ := h
                            refine v_topI ey22 ?_
                            refine v_istore (L' := [(7, .int y22), (0, .ref (B + 234)), (3, .int x3), (4, .int x4), (5, .int x5), (6, .int x6), (8, .int x8), (9, .int z20)]) C dX8_stood_223 (by decide) rfl ?_
                            refine v_iinc (j := 6) (L' := [(8, .int (x8 + 1)), (7, .int y22), (0, .ref (B + 234)), (3, .int x3), (4, .int x4), (5, .int x5), (6, .int x6), (9, .int z20)]) C dX8_stood_225 rfl (congrArg (fun z => _ + z) ct_i_1) (by decide) rfl ?_
                            refine v_goto (tgt := 142) C dX8_stood_228 (by decide) ?_
                            replace h := Option.some.inj h; subst h
                            refine v_sub [2, 3, 4, 5, 6, 1, 0] rfl ?_
                            exact hc142 (y22, x8 + 1, M15) rfl
                          · replace h := ite_f g h
                            refine v_iconst C dX8_stood_221 ct_i_0 ?_
                            refine v_ior C dX8_stood_222 ?_
                            replace h := nm_ex h; obtain ⟨y21, ey21, h⟩ := h
                            refine v_topI ey21 ?_
                            refine v_istore (L' := [(7, .int y21), (0, .ref (B + 234)), (3, .int x3), (4, .int x4), (5, .int x5), (6, .int x6), (8, .int x8), (9, .int z20)]) C dX8_stood_223 (by decide) rfl ?_
                            refine v_iinc (j := 6) (L' := [(8, .int (x8 + 1)), (7, .int y21), (0, .ref (B + 234)), (3, .int x3), (4, .int x4), (5, .int x5), (6, .int x6), (9, .int z20)]) C dX8_stood_225 rfl (congrArg (fun z => _ + z) ct_i_1) (by decide) rfl ?_
                            refine v_goto (tgt := 142) C dX8_stood_228 (by decide) ?_
                            replace h := Option.some.inj h; subst h
                            refine v_sub [2, 3, 4, 5, 6, 1, 0] rfl ?_
                            exact hc142 (y21, x8 + 1, M15) rfl
                    replace h := bind_ex h; obtain ⟨z23, hz23, h⟩ := h
                    refine v_sub [2, 3, 4, 5, 6, 1, 0] rfl ?_
                    refine loopF_walk (Pσ := fun z => V p l e (rmd 3) s m args below meth c 0 0 D cA B 11 Q z.2.2 142 [(0, .ref (B + 234)), (3, .int x3), (4, .int x4), (5, .int x5), (6, .int y8), (7, .int z.1), (8, .int z.2.1)] []) (Pρ := fun y => V p l e (rmd 3) s m args below meth c 0 0 D cA B 11 Q y.2 231 [(0, .ref (B + 234)), (7, .int y.1)] []) ?_ FUEL (0, 0, r13) z23 hz23 ?_
                    · intro z o hb hc he
                      exact LB142 z.2.2 y8 z.1 z.2.1 o hb hc he
                    · refine v_aload_nR (j := 0) C dX8_stood_231 rfl rfl ?_
                      refine v_iload (j := 1) C dX8_stood_232 rfl ?_
                      replace h := bind_ex h; obtain ⟨r24, hr24, h⟩ := h
                      refine cv_I C tw_990 tw_111 tw_987 tw_989 tw_74 pd_X8_well (Nat.le_of_ble_eq_true rfl) (Nat.le_of_ble_eq_true rfl) (q := 234) (kd_lt ks_234 (by decide)) (sh8 ks_234) rfl (As := [.int z23.1]) (rest := []) rfl rfl (Nat.le_of_ble_eq_true rfl) (c_X8_well l D cA B aK aV z23.2 z23.1 r24 hr24) dX8_stood_234 ?_
                      replace h := Option.some.inj h; subst h
                      subst hQ
                      exact v_iret C hr hlk dX8_stood_237
                  · subst e
                    replace h := sumC_r h
                    exact Option.some.inj h
              · replace h := ite_f g h
                refine v_aload_nR (j := 0) C dX8_stood_84 rfl rfl ?_
                refine v_iconst C dX8_stood_85 ct_i_2 ?_
                replace h := bind_ex h; obtain ⟨r25, hr25, h⟩ := h
                refine cv_I C tw_985 tw_111 tw_982 tw_984 tw_73 pd_X8_finds (Nat.le_of_ble_eq_true rfl) (Nat.le_of_ble_eq_true rfl) (q := 234) (kd_lt ks_234 (by decide)) (sh8 ks_234) rfl (As := [.int 2]) (rest := []) rfl rfl (Nat.le_of_ble_eq_true rfl) (c_X8_finds l D cA B aK aV M 2 r25 hr25) dX8_stood_86 ?_
                replace h := Option.some.inj h; subst h
                subst hQ
                exact v_iret C hr hlk dX8_stood_89
          · replace h := ite_f g h
            refine v_aload_nR (j := 0) C dX8_stood_58 rfl rfl ?_
            refine v_pc (pc' := 59) rfl ?_
            refine v_iconst C dX8_stood_59 ct_i_1 ?_
            replace h := bind_ex h; obtain ⟨r26, hr26, h⟩ := h
            refine cv_I C tw_985 tw_111 tw_982 tw_984 tw_73 pd_X8_finds (Nat.le_of_ble_eq_true rfl) (Nat.le_of_ble_eq_true rfl) (q := 234) (kd_lt ks_234 (by decide)) (sh8 ks_234) rfl (As := [.int 1]) (rest := []) rfl rfl (Nat.le_of_ble_eq_true rfl) (c_X8_finds l D cA B aK aV M 1 r26 hr26) dX8_stood_60 ?_
            replace h := Option.some.inj h; subst h
            subst hQ
            exact v_iret C hr hlk dX8_stood_63
def b_X8_image_27 (M : Mem) (x1 : Int32) (x2 : Int32) : Option ((Int32 × Mem) ⊕ Mem) :=
  if 39 ≤ x2 then (some (.inr M)) else (chk (inB x2 39) (chk (inB ((39 * x1) + x2) 78) (nm (mset M 242 ((39 * x1) + x2).toNatClampNeg (M 239 x2.toNatClampNeg)) fun M5 => some (.inl (x2 + 1, M5)))))
def m_X8_image (M : Mem) (x1 : Int32) : Option (Int32 × Mem) :=
  (m_X8_in M x1.toInt64 0 1).bind fun r1 => if r1 = 0 then (some (((-1000001), M))) else (chk (inB 0 39) (if (M 239 (0 : Int32).toNatClampNeg) = 0 then (some (((-1000002), M))) else ((loopF (fun z => b_X8_image_27 z.2 x1 z.1) FUEL (0, M)).bind fun z6 => chk (inB x1 2) (nm (mset z6 243 x1.toNatClampNeg (vp_nar .boolean 1)) fun M8 => some ((1, M8))))))
set_option maxHeartbeats 4000000 in
set_option maxRecDepth 100000 in
theorem c_X8_image (l : Launch) (D : va_G) (cA : cAt) (B : Nat) (aK aV : Nat → Nat) (M : Mem) (x1 : Int32) (R : Int32 × Mem) (h : m_X8_image M x1 = some R) : CI l D cA B aK aV yX8_image cX8_image 3 .int 1 [.ref (B + 234), .int x1] M R.1 R.2 := by
  refine CI_of (by decide +kernel) (Nat.le_of_ble_eq_true rfl) ?_
  intro p e s m args below meth c C hr hlk
  have C : Cx p (rmd 1) s m args c 0 0 D cA B aK aV cX8_image 3 RX8 := C
  generalize hQ : MQ below _ args s 0 0 _ = Q
  refine v_eq (M' := M) (pc' := 0) (L' := [(0, .ref (B + 234)), (1, .int x1)]) (st' := []) ?_
  unfold m_X8_image at h
  refine v_iload_n (j := 1) C dX8_image_0 rfl rfl ?_
  refine v_i2l C dX8_image_1 ?_
  refine v_lconst (v := 0) C dX8_image_2 rfl ?_
  refine v_lconst (v := 1) C dX8_image_3 rfl ?_
  replace h := bind_ex h; obtain ⟨r1, hr1, h⟩ := h
  refine cs_I C tw_979 tw_111 tw_977 tw_978 pd_X8_in (Nat.le_of_ble_eq_true rfl) (Nat.le_of_ble_eq_true rfl) (As := [.long x1.toInt64, .long 0, .long 1]) (rest := []) rfl rfl (Nat.le_of_ble_eq_true rfl) (c_X8_in l D cA B aK aV M x1.toInt64 0 1 r1 hr1) dX8_image_4 ?_
  refine v_if_ne (tgt := 13) C dX8_image_7 (by decide) (fun g => ?_) (fun g => ?_)
  · replace h := ite_t g h
    refine v_pc (pc' := 10) rfl ?_
    refine v_ldc C tw_981 dX8_image_10 ?_
    replace h := Option.some.inj h; subst h
    subst hQ
    exact v_iret C hr hlk dX8_image_12
  · replace h := ite_f g h
    refine v_aload_nR (j := 0) C dX8_image_13 rfl rfl ?_
    refine gf_X8_22 C ks_234 dX8_image_14 ?_
    refine v_iconst C dX8_image_17 ct_i_0 ?_
    replace h := chk_some h; obtain ⟨g2, h⟩ := h
    refine v_iald C ks_239 (inB_vp g2) dX8_image_18 ?_
    refine v_if_ne (tgt := 25) C dX8_image_19 (by decide) (fun g => ?_) (fun g => ?_)
    · replace h := ite_t g h
      refine v_ldc C tw_1079 dX8_image_22 ?_
      refine v_pc (pc' := 24) rfl ?_
      replace h := Option.some.inj h; subst h
      subst hQ
      exact v_iret C hr hlk dX8_image_24
    · replace h := ite_f g h
      refine v_iconst C dX8_image_25 ct_i_0 ?_
      refine v_istore_n (L' := [(2, .int 0), (0, .ref (B + 234)), (1, .int x1)]) C dX8_image_26 rfl (by decide) rfl ?_
      have LB27 : ∀ (M : Mem) (x2 : Int32) (o27 : (Int32 × Mem) ⊕ Mem) (h : b_X8_image_27 M x1 x2 = some o27) (hc27 : ∀ z : Int32 × Mem, o27 = .inl z → V p l e (rmd 1) s m args below meth c 0 0 D cA B 3 Q z.2 27 [(0, .ref (B + 234)), (1, .int x1), (2, .int z.1)] []) (he27 : ∀ z : Mem, o27 = .inr z → V p l e (rmd 1) s m args below meth c 0 0 D cA B 3 Q z 56 [(0, .ref (B + 234)), (1, .int x1)] []), V p l e (rmd 1) s m args below meth c 0 0 D cA B 3 Q M 27 [(0, .ref (B + 234)), (1, .int x1), (2, .int x2)] [] := by
        intro M x2 o27 h hc27 he27
        unfold b_X8_image_27 at h
        refine v_iload_n (j := 2) C dX8_image_27 rfl rfl ?_
        refine v_bipush C dX8_image_28 ct_b_39 ?_
        refine v_icmp_ge (tgt := 56) C dX8_image_30 (by decide) (fun g => ?_) (fun g => ?_)
        · replace h := ite_t g h
          replace h := Option.some.inj h; subst h
          refine v_sub [0, 1] rfl ?_
          exact he27 M rfl
        · replace h := ite_f g h
          refine v_aload_nR (j := 0) C dX8_image_33 rfl rfl ?_
          refine gf_X8_31 C ks_234 dX8_image_34 ?_
          refine v_bipush C dX8_image_37 ct_b_39 ?_
          refine v_pc (pc' := 39) rfl ?_
          refine v_iload_n (j := 1) C dX8_image_39 rfl rfl ?_
          refine v_imul C dX8_image_40 ?_
          refine v_iload_n (j := 2) C dX8_image_41 rfl rfl ?_
          refine v_iadd C dX8_image_42 ?_
          refine v_aload_nR (j := 0) C dX8_image_43 rfl rfl ?_
          refine gf_X8_22 C ks_234 dX8_image_44 ?_
          refine v_iload_n (j := 2) C dX8_image_47 rfl rfl ?_
          refine v_pc (pc' := 48) rfl ?_
          replace h := chk_some h; obtain ⟨g3, h⟩ := h
          refine v_iald C ks_239 (inB_vp g3) dX8_image_48 ?_
          replace h := chk_some h; obtain ⟨g4, h⟩ := h
          replace h := nm_ex h; obtain ⟨M5, eM5, h⟩ := h
          refine v_iast C ks_242 (inB_vp g4) dX8_image_49 ?_
          refine v_mem eM5 ?_
          refine v_iinc (j := 2) (L' := [(2, .int (x2 + 1)), (0, .ref (B + 234)), (1, .int x1)]) C dX8_image_50 rfl (congrArg (fun z => _ + z) ct_i_1) (by decide) rfl ?_
          refine v_goto (tgt := 27) C dX8_image_53 (by decide) ?_
          replace h := Option.some.inj h; subst h
          refine v_sub [1, 2, 0] rfl ?_
          exact hc27 (x2 + 1, M5) rfl
      replace h := bind_ex h; obtain ⟨z6, hz6, h⟩ := h
      refine v_sub [1, 2, 0] rfl ?_
      refine loopF_walk (Pσ := fun z => V p l e (rmd 1) s m args below meth c 0 0 D cA B 3 Q z.2 27 [(0, .ref (B + 234)), (1, .int x1), (2, .int z.1)] []) (Pρ := fun y => V p l e (rmd 1) s m args below meth c 0 0 D cA B 3 Q y 56 [(0, .ref (B + 234)), (1, .int x1)] []) ?_ FUEL (0, M) z6 hz6 ?_
      · intro z o hb hc he
        exact LB27 z.2 z.1 o hb hc he
      · refine v_aload_nR (j := 0) C dX8_image_56 rfl rfl ?_
        refine gf_X8_34 C ks_234 dX8_image_57 ?_
        refine v_iload_n (j := 1) C dX8_image_60 rfl rfl ?_
        refine v_iconst C dX8_image_61 ct_i_1 ?_
        replace h := chk_some h; obtain ⟨g7, h⟩ := h
        replace h := nm_ex h; obtain ⟨M8, eM8, h⟩ := h
        refine v_zast C ks_243 (inB_vp g7) dX8_image_62 ?_
        refine v_mem eM8 ?_
        refine v_iconst C dX8_image_63 ct_i_1 ?_
        refine v_pc (pc' := 64) rfl ?_
        replace h := Option.some.inj h; subst h
        subst hQ
        exact v_iret C hr hlk dX8_image_64
def b_X8_restore_27 (M : Mem) (x1 : Int32) (x2 : Int32) : Option ((Int32 × Mem) ⊕ Mem) :=
  if 39 ≤ x2 then (some (.inr M)) else (chk (inB ((39 * x1) + x2) 78) (chk (inB x2 39) (nm (mset M 239 x2.toNatClampNeg (M 242 ((39 * x1) + x2).toNatClampNeg)) fun M5 => some (.inl (x2 + 1, M5)))))
def m_X8_restore (M : Mem) (x1 : Int32) : Option (Int32 × Mem) :=
  (m_X8_in M x1.toInt64 0 1).bind fun r1 => if r1 = 0 then (some (((-1000001), M))) else (chk (inB x1 2) (if (M 243 x1.toNatClampNeg) = 0 then (some (((-1000002), M))) else ((loopF (fun z => b_X8_restore_27 z.2 x1 z.1) FUEL (0, M)).bind fun z6 => nm (mset z6 234 10 0) fun M7 => some ((1, M7)))))
set_option maxHeartbeats 4000000 in
set_option maxRecDepth 100000 in
theorem c_X8_restore (l : Launch) (D : va_G) (cA : cAt) (B : Nat) (aK aV : Nat → Nat) (M : Mem) (x1 : Int32) (R : Int32 × Mem) (h : m_X8_restore M x1 = some R) : CI l D cA B aK aV yX8_restore cX8_restore 3 .int 1 [.ref (B + 234), .int x1] M R.1 R.2 := by
  refine CI_of (by decide +kernel) (Nat.le_of_ble_eq_true rfl) ?_
  intro p e s m args below meth c C hr hlk
  have C : Cx p (rmd 1) s m args c 0 0 D cA B aK aV cX8_restore 3 RX8 := C
  generalize hQ : MQ below _ args s 0 0 _ = Q
  refine v_eq (M' := M) (pc' := 0) (L' := [(0, .ref (B + 234)), (1, .int x1)]) (st' := []) ?_
  unfold m_X8_restore at h
  refine v_iload_n (j := 1) C dX8_restore_0 rfl rfl ?_
  refine v_i2l C dX8_restore_1 ?_
  refine v_lconst (v := 0) C dX8_restore_2 rfl ?_
  refine v_lconst (v := 1) C dX8_restore_3 rfl ?_
  replace h := bind_ex h; obtain ⟨r1, hr1, h⟩ := h
  refine cs_I C tw_979 tw_111 tw_977 tw_978 pd_X8_in (Nat.le_of_ble_eq_true rfl) (Nat.le_of_ble_eq_true rfl) (As := [.long x1.toInt64, .long 0, .long 1]) (rest := []) rfl rfl (Nat.le_of_ble_eq_true rfl) (c_X8_in l D cA B aK aV M x1.toInt64 0 1 r1 hr1) dX8_restore_4 ?_
  refine v_if_ne (tgt := 13) C dX8_restore_7 (by decide) (fun g => ?_) (fun g => ?_)
  · replace h := ite_t g h
    refine v_pc (pc' := 10) rfl ?_
    refine v_ldc C tw_981 dX8_restore_10 ?_
    replace h := Option.some.inj h; subst h
    subst hQ
    exact v_iret C hr hlk dX8_restore_12
  · replace h := ite_f g h
    refine v_aload_nR (j := 0) C dX8_restore_13 rfl rfl ?_
    refine gf_X8_34 C ks_234 dX8_restore_14 ?_
    refine v_iload_n (j := 1) C dX8_restore_17 rfl rfl ?_
    replace h := chk_some h; obtain ⟨g2, h⟩ := h
    refine v_zald C ks_243 (inB_vp g2) dX8_restore_18 ?_
    refine v_if_ne (tgt := 25) C dX8_restore_19 (by decide) (fun g => ?_) (fun g => ?_)
    · replace h := ite_t g h
      refine v_ldc C tw_1079 dX8_restore_22 ?_
      refine v_pc (pc' := 24) rfl ?_
      replace h := Option.some.inj h; subst h
      subst hQ
      exact v_iret C hr hlk dX8_restore_24
    · replace h := ite_f g h
      refine v_iconst C dX8_restore_25 ct_i_0 ?_
      refine v_istore_n (L' := [(2, .int 0), (0, .ref (B + 234)), (1, .int x1)]) C dX8_restore_26 rfl (by decide) rfl ?_
      have LB27 : ∀ (M : Mem) (x2 : Int32) (o27 : (Int32 × Mem) ⊕ Mem) (h : b_X8_restore_27 M x1 x2 = some o27) (hc27 : ∀ z : Int32 × Mem, o27 = .inl z → V p l e (rmd 1) s m args below meth c 0 0 D cA B 3 Q z.2 27 [(0, .ref (B + 234)), (1, .int x1), (2, .int z.1)] []) (he27 : ∀ z : Mem, o27 = .inr z → V p l e (rmd 1) s m args below meth c 0 0 D cA B 3 Q z 56 [(0, .ref (B + 234))] []), V p l e (rmd 1) s m args below meth c 0 0 D cA B 3 Q M 27 [(0, .ref (B + 234)), (1, .int x1), (2, .int x2)] [] := by
        intro M x2 o27 h hc27 he27
        unfold b_X8_restore_27 at h
        refine v_iload_n (j := 2) C dX8_restore_27 rfl rfl ?_
        refine v_bipush C dX8_restore_28 ct_b_39 ?_
        refine v_icmp_ge (tgt := 56) C dX8_restore_30 (by decide) (fun g => ?_) (fun g => ?_)
        · replace h := ite_t g h
          replace h := Option.some.inj h; subst h
          refine v_sub [0] rfl ?_
          exact he27 M rfl
        · replace h := ite_f g h
          refine v_aload_nR (j := 0) C dX8_restore_33 rfl rfl ?_
          refine gf_X8_22 C ks_234 dX8_restore_34 ?_
          refine v_iload_n (j := 2) C dX8_restore_37 rfl rfl ?_
          refine v_pc (pc' := 38) rfl ?_
          refine v_aload_nR (j := 0) C dX8_restore_38 rfl rfl ?_
          refine gf_X8_31 C ks_234 dX8_restore_39 ?_
          refine v_bipush C dX8_restore_42 ct_b_39 ?_
          refine v_iload_n (j := 1) C dX8_restore_44 rfl rfl ?_
          refine v_imul C dX8_restore_45 ?_
          refine v_iload_n (j := 2) C dX8_restore_46 rfl rfl ?_
          refine v_iadd C dX8_restore_47 ?_
          refine v_pc (pc' := 48) rfl ?_
          replace h := chk_some h; obtain ⟨g3, h⟩ := h
          refine v_iald C ks_242 (inB_vp g3) dX8_restore_48 ?_
          replace h := chk_some h; obtain ⟨g4, h⟩ := h
          replace h := nm_ex h; obtain ⟨M5, eM5, h⟩ := h
          refine v_iast C ks_239 (inB_vp g4) dX8_restore_49 ?_
          refine v_mem eM5 ?_
          refine v_iinc (j := 2) (L' := [(2, .int (x2 + 1)), (0, .ref (B + 234)), (1, .int x1)]) C dX8_restore_50 rfl (congrArg (fun z => _ + z) ct_i_1) (by decide) rfl ?_
          refine v_goto (tgt := 27) C dX8_restore_53 (by decide) ?_
          replace h := Option.some.inj h; subst h
          refine v_sub [1, 2, 0] rfl ?_
          exact hc27 (x2 + 1, M5) rfl
      replace h := bind_ex h; obtain ⟨z6, hz6, h⟩ := h
      refine v_sub [1, 2, 0] rfl ?_
      refine loopF_walk (Pσ := fun z => V p l e (rmd 1) s m args below meth c 0 0 D cA B 3 Q z.2 27 [(0, .ref (B + 234)), (1, .int x1), (2, .int z.1)] []) (Pρ := fun y => V p l e (rmd 1) s m args below meth c 0 0 D cA B 3 Q y 56 [(0, .ref (B + 234))] []) ?_ FUEL (0, M) z6 hz6 ?_
      · intro z o hb hc he
        exact LB27 z.2 z.1 o hb hc he
      · refine v_aload_nR (j := 0) C dX8_restore_56 rfl rfl ?_
        refine v_iconst C dX8_restore_57 ct_i_0 ?_
        replace h := nm_ex h; obtain ⟨M7, eM7, h⟩ := h
        refine pf_X8_164 C ks_234 dX8_restore_58 ?_
        refine v_mem eM7 ?_
        refine v_iconst C dX8_restore_61 ct_i_1 ?_
        replace h := Option.some.inj h; subst h
        subst hQ
        exact v_iret C hr hlk dX8_restore_62
