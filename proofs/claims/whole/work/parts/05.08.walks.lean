def j_X8_readsChild_88 (M : Mem) (x1 : Int32) (s0 : Int32) : Option (Int32 × Mem) :=
  if s0 = 0 then ((m_X8_wrong M 1).bind fun r14 => chk (isZ r14.1) (some ((r14.1, r14.2)))) else ((m_X8_token M).bind fun r1 => (m_X8_cell r1).bind fun r2 => if r2.1 = 0 then (some ((0, r2.2))) else ((m_X8_number r2.2 (10 + x1) 1 9).bind fun r3 => if r3.1 = 0 then (some ((0, r3.2))) else ((m_X8_sign r3.2).bind fun r4 => if r4.1 = 0 then (some ((0, r4.2))) else (chk (inB (5 + x1) 39) (nm (mset r4.2 240 (5 + x1).toNatClampNeg s0) fun M6 => chk (inB 38 39) (chk (inB 37 39) (chk (inB (15 + x1) 39) (nm (mset M6 240 (15 + x1).toNatClampNeg ((6 * (M6 240 (38 : Int32).toNatClampNeg)) + (M6 240 (37 : Int32).toNatClampNeg))) fun M10 => chk (inB 3 39) (chk (inB 3 39) (nm (mset M10 240 (3 : Int32).toNatClampNeg ((M10 240 (3 : Int32).toNatClampNeg) + 1)) fun M13 => some ((1, M13))))))))))))
def m_X8_readsChild (M : Mem) : Option (Int32 × Mem) :=
  chk (inB 3 39) (nm (M 240 (3 : Int32).toNatClampNeg) fun y17 => if y17 = 5 then ((m_X8_wrong M 3).bind fun r20 => chk (isZ r20.1) (some ((r20.1, r20.2)))) else ((m_X8_token M).bind fun r18 => (m_X8_name r18).bind fun r19 => if (lg_cmp r19 495756340332) = 0 then (j_X8_readsChild_88 r18 y17 1) else (if (lg_cmp r19 6449511) = 0 then (j_X8_readsChild_88 r18 y17 2) else (if (lg_cmp r19 7563385) = 0 then (j_X8_readsChild_88 r18 y17 3) else (if (lg_cmp r19 444200875621) = 0 then (j_X8_readsChild_88 r18 y17 4) else (if (lg_cmp r19 418498375534) = 0 then (j_X8_readsChild_88 r18 y17 5) else (j_X8_readsChild_88 r18 y17 0)))))))
set_option maxHeartbeats 4000000 in
set_option maxRecDepth 100000 in
theorem c_X8_readsChild (l : Launch) (D : va_G) (cA : cAt) (B : Nat) (aK aV : Nat → Nat) (M : Mem) (R : Int32 × Mem) (h : m_X8_readsChild M = some R) : CI l D cA B aK aV yX8_readsChild cX8_readsChild 5 .boolean 5 [.ref (B + 234)] M R.1 R.2 := by
  refine CI_of (by decide +kernel) (Nat.le_of_ble_eq_true rfl) ?_
  intro p e s m args below meth c C hr hlk
  have C : Cx p (rmd 5) s m args c 0 0 D cA B aK aV cX8_readsChild 5 RX8 := C
  generalize hQ : MQ below _ args s 0 0 _ = Q
  refine v_eq (M' := M) (pc' := 0) (L' := [(0, .ref (B + 234))]) (st' := []) ?_
  unfold m_X8_readsChild at h
  have J88 : ∀ (M : Mem) (x1 : Int32) (s0 : Int32), j_X8_readsChild_88 M x1 s0 = some R → V p l e (rmd 5) s m args below meth c 0 0 D cA B 5 Q M 88 [(0, .ref (B + 234)), (1, .int x1)] [.int s0] := by
    intro M x1 s0 h
    unfold j_X8_readsChild_88 at h
    refine v_istore (L' := [(4, .int s0), (0, .ref (B + 234)), (1, .int x1)]) C dX8_readsChild_88 (by decide) rfl ?_
    refine v_iload (j := 0) C dX8_readsChild_90 rfl ?_
    refine v_if_ne (tgt := 101) C dX8_readsChild_92 (by decide) (fun g => ?_) (fun g => ?_)
    · replace h := ite_t g h
      refine v_aload_nR (j := 1) C dX8_readsChild_95 rfl rfl ?_
      refine v_iconst C dX8_readsChild_96 ct_i_1 ?_
      replace h := bind_ex h; obtain ⟨r14, hr14, h⟩ := h
      refine cv_I C tw_1042 tw_111 tw_1039 tw_1041 tw_79 pd_X8_wrong (Nat.le_of_ble_eq_true rfl) (Nat.le_of_ble_eq_true rfl) (q := 234) (kd_lt ks_234 (by decide)) (sh8 ks_234) rfl (As := [.int 1]) (rest := []) rfl rfl (Nat.le_of_ble_eq_true rfl) (c_X8_wrong l D cA B aK aV M 1 r14 hr14) dX8_readsChild_97 ?_
      refine v_pc (pc' := 100) rfl ?_
      replace h := chk_some h; obtain ⟨g15, h⟩ := h
      replace h := Option.some.inj h; subst h
      subst hQ
      exact v_zret C hr hlk (isZ_nar g15) dX8_readsChild_100
    · replace h := ite_f g h
      refine v_aload_nR (j := 1) C dX8_readsChild_101 rfl rfl ?_
      replace h := bind_ex h; obtain ⟨r1, hr1, h⟩ := h
      refine cv_V C tw_1021 tw_111 tw_1018 tw_1020 tw_76 pd_X8_token (Nat.le_of_ble_eq_true rfl) (Nat.le_of_ble_eq_true rfl) (q := 234) (kd_lt ks_234 (by decide)) (sh8 ks_234) rfl (As := []) (rest := []) rfl rfl (Nat.le_of_ble_eq_true rfl) (c_X8_token l D cA B aK aV M r1 hr1) dX8_readsChild_102 ?_
      refine v_aload_nR (j := 1) C dX8_readsChild_105 rfl rfl ?_
      replace h := bind_ex h; obtain ⟨r2, hr2, h⟩ := h
      refine cv_I C tw_1059 tw_111 tw_1056 tw_1058 tw_83 pd_X8_cell (Nat.le_of_ble_eq_true rfl) (Nat.le_of_ble_eq_true rfl) (q := 234) (kd_lt ks_234 (by decide)) (sh8 ks_234) rfl (As := []) (rest := []) rfl rfl (Nat.le_of_ble_eq_true rfl) (c_X8_cell l D cA B aK aV r1 r2 hr2) dX8_readsChild_106 ?_
      refine v_if_eq (tgt := 133) C dX8_readsChild_109 (by decide) (fun g => ?_) (fun g => ?_)
      · replace h := ite_t g h
        refine v_iconst C dX8_readsChild_133 ct_i_0 ?_
        replace h := Option.some.inj h; subst h
        subst hQ
        exact v_zret C hr hlk (show narrow .boolean (.int 0) = .int 0 from rfl) dX8_readsChild_134
      · replace h := ite_f g h
        refine v_aload_nR (j := 1) C dX8_readsChild_112 rfl rfl ?_
        refine v_pc (pc' := 113) rfl ?_
        refine v_bipush C dX8_readsChild_113 ct_b_10 ?_
        refine v_iload_n (j := 2) C dX8_readsChild_115 rfl rfl ?_
        refine v_iadd C dX8_readsChild_116 ?_
        refine v_iconst C dX8_readsChild_117 ct_i_1 ?_
        refine v_bipush C dX8_readsChild_118 ct_b_9 ?_
        replace h := bind_ex h; obtain ⟨r3, hr3, h⟩ := h
        refine cv_I C tw_1046 tw_111 tw_1043 tw_1045 tw_80 pd_X8_number (Nat.le_of_ble_eq_true rfl) (Nat.le_of_ble_eq_true rfl) (q := 234) (kd_lt ks_234 (by decide)) (sh8 ks_234) rfl (As := [.int (10 + x1), .int 1, .int 9]) (rest := []) rfl rfl (Nat.le_of_ble_eq_true rfl) (c_X8_number l D cA B aK aV r2.2 (10 + x1) 1 9 r3 hr3) dX8_readsChild_120 ?_
        refine v_if_eq (tgt := 133) C dX8_readsChild_123 (by decide) (fun g => ?_) (fun g => ?_)
        · replace h := ite_t g h
          refine v_iconst C dX8_readsChild_133 ct_i_0 ?_
          replace h := Option.some.inj h; subst h
          subst hQ
          exact v_zret C hr hlk (show narrow .boolean (.int 0) = .int 0 from rfl) dX8_readsChild_134
        · replace h := ite_f g h
          refine v_pc (pc' := 126) rfl ?_
          refine v_aload_nR (j := 1) C dX8_readsChild_126 rfl rfl ?_
          replace h := bind_ex h; obtain ⟨r4, hr4, h⟩ := h
          refine cv_I C tw_1050 tw_111 tw_1047 tw_1049 tw_81 pd_X8_sign (Nat.le_of_ble_eq_true rfl) (Nat.le_of_ble_eq_true rfl) (q := 234) (kd_lt ks_234 (by decide)) (sh8 ks_234) rfl (As := []) (rest := []) rfl rfl (Nat.le_of_ble_eq_true rfl) (c_X8_sign l D cA B aK aV r3.2 r4 hr4) dX8_readsChild_127 ?_
          refine v_if_ne (tgt := 135) C dX8_readsChild_130 (by decide) (fun g => ?_) (fun g => ?_)
          · replace h := ite_t g h
            refine v_iconst C dX8_readsChild_133 ct_i_0 ?_
            replace h := Option.some.inj h; subst h
            subst hQ
            exact v_zret C hr hlk (show narrow .boolean (.int 0) = .int 0 from rfl) dX8_readsChild_134
          · replace h := ite_f g h
            refine v_aload_nR (j := 1) C dX8_readsChild_135 rfl rfl ?_
            refine gf_X8_25 C ks_234 dX8_readsChild_136 ?_
            refine v_iconst C dX8_readsChild_139 ct_i_5 ?_
            refine v_iload_n (j := 2) C dX8_readsChild_140 rfl rfl ?_
            refine v_iadd C dX8_readsChild_141 ?_
            refine v_iload (j := 0) C dX8_readsChild_142 rfl ?_
            refine v_pc (pc' := 144) rfl ?_
            replace h := chk_some h; obtain ⟨g5, h⟩ := h
            replace h := nm_ex h; obtain ⟨M6, eM6, h⟩ := h
            refine v_iast C ks_240 (inB_vp g5) dX8_readsChild_144 ?_
            refine v_mem eM6 ?_
            refine v_aload_nR (j := 1) C dX8_readsChild_145 rfl rfl ?_
            refine gf_X8_25 C ks_234 dX8_readsChild_146 ?_
            refine v_bipush C dX8_readsChild_149 ct_b_15 ?_
            refine v_iload_n (j := 2) C dX8_readsChild_151 rfl rfl ?_
            refine v_iadd C dX8_readsChild_152 ?_
            refine v_bipush C dX8_readsChild_153 ct_b_6 ?_
            refine v_pc (pc' := 155) rfl ?_
            refine v_aload_nR (j := 1) C dX8_readsChild_155 rfl rfl ?_
            refine gf_X8_25 C ks_234 dX8_readsChild_156 ?_
            refine v_bipush C dX8_readsChild_159 ct_b_38 ?_
            replace h := chk_some h; obtain ⟨g7, h⟩ := h
            refine v_iald C ks_240 (inB_vp g7) dX8_readsChild_161 ?_
            refine v_imul C dX8_readsChild_162 ?_
            refine v_aload_nR (j := 1) C dX8_readsChild_163 rfl rfl ?_
            refine gf_X8_25 C ks_234 dX8_readsChild_164 ?_
            refine v_pc (pc' := 167) rfl ?_
            refine v_bipush C dX8_readsChild_167 ct_b_37 ?_
            replace h := chk_some h; obtain ⟨g8, h⟩ := h
            refine v_iald C ks_240 (inB_vp g8) dX8_readsChild_169 ?_
            refine v_iadd C dX8_readsChild_170 ?_
            replace h := chk_some h; obtain ⟨g9, h⟩ := h
            replace h := nm_ex h; obtain ⟨M10, eM10, h⟩ := h
            refine v_iast C ks_240 (inB_vp g9) dX8_readsChild_171 ?_
            refine v_mem eM10 ?_
            refine v_aload_nR (j := 1) C dX8_readsChild_172 rfl rfl ?_
            refine gf_X8_25 C ks_234 dX8_readsChild_173 ?_
            refine v_iconst C dX8_readsChild_176 ct_i_3 ?_
            refine v_pc (pc' := 177) rfl ?_
            refine v_dup2 C dX8_readsChild_177 rfl rfl ?_
            replace h := chk_some h; obtain ⟨g11, h⟩ := h
            refine v_iald C ks_240 (inB_vp g11) dX8_readsChild_178 ?_
            refine v_iconst C dX8_readsChild_179 ct_i_1 ?_
            refine v_iadd C dX8_readsChild_180 ?_
            replace h := chk_some h; obtain ⟨g12, h⟩ := h
            replace h := nm_ex h; obtain ⟨M13, eM13, h⟩ := h
            refine v_iast C ks_240 (inB_vp g12) dX8_readsChild_181 ?_
            refine v_mem eM13 ?_
            refine v_iconst C dX8_readsChild_182 ct_i_1 ?_
            replace h := Option.some.inj h; subst h
            subst hQ
            exact v_zret C hr hlk (show narrow .boolean (.int 1) = .int 1 from rfl) dX8_readsChild_183
  refine v_aload_nR (j := 0) C dX8_readsChild_0 rfl rfl ?_
  refine gf_X8_25 C ks_234 dX8_readsChild_1 ?_
  refine v_iconst C dX8_readsChild_4 ct_i_3 ?_
  replace h := chk_some h; obtain ⟨g16, h⟩ := h
  refine v_iald C ks_240 (inB_vp g16) dX8_readsChild_5 ?_
  replace h := nm_ex h; obtain ⟨y17, ey17, h⟩ := h
  refine v_topI ey17 ?_
  refine v_istore_n (L' := [(1, .int y17), (0, .ref (B + 234))]) C dX8_readsChild_6 rfl (by decide) rfl ?_
  refine v_iload_n (j := 0) C dX8_readsChild_7 rfl rfl ?_
  refine v_pc (pc' := 8) rfl ?_
  refine v_iconst C dX8_readsChild_8 ct_i_5 ?_
  refine v_icmp_ne (tgt := 18) C dX8_readsChild_9 (by decide) (fun g => ?_) (fun g => ?_)
  · replace h := ite_t g h
    refine v_aload_nR (j := 1) C dX8_readsChild_12 rfl rfl ?_
    refine v_iconst C dX8_readsChild_13 ct_i_3 ?_
    replace h := bind_ex h; obtain ⟨r20, hr20, h⟩ := h
    refine cv_I C tw_1042 tw_111 tw_1039 tw_1041 tw_79 pd_X8_wrong (Nat.le_of_ble_eq_true rfl) (Nat.le_of_ble_eq_true rfl) (q := 234) (kd_lt ks_234 (by decide)) (sh8 ks_234) rfl (As := [.int 3]) (rest := []) rfl rfl (Nat.le_of_ble_eq_true rfl) (c_X8_wrong l D cA B aK aV M 3 r20 hr20) dX8_readsChild_14 ?_
    replace h := chk_some h; obtain ⟨g21, h⟩ := h
    replace h := Option.some.inj h; subst h
    subst hQ
    exact v_zret C hr hlk (isZ_nar g21) dX8_readsChild_17
  · replace h := ite_f g h
    refine v_aload_nR (j := 1) C dX8_readsChild_18 rfl rfl ?_
    replace h := bind_ex h; obtain ⟨r18, hr18, h⟩ := h
    refine cv_V C tw_1021 tw_111 tw_1018 tw_1020 tw_76 pd_X8_token (Nat.le_of_ble_eq_true rfl) (Nat.le_of_ble_eq_true rfl) (q := 234) (kd_lt ks_234 (by decide)) (sh8 ks_234) rfl (As := []) (rest := []) rfl rfl (Nat.le_of_ble_eq_true rfl) (c_X8_token l D cA B aK aV M r18 hr18) dX8_readsChild_19 ?_
    refine v_aload_nR (j := 1) C dX8_readsChild_22 rfl rfl ?_
    replace h := bind_ex h; obtain ⟨r19, hr19, h⟩ := h
    refine cv_L C tw_1036 tw_111 tw_1033 tw_1035 tw_78 pd_X8_name (Nat.le_of_ble_eq_true rfl) (Nat.le_of_ble_eq_true rfl) (q := 234) (kd_lt ks_234 (by decide)) (sh8 ks_234) rfl (As := []) (rest := []) rfl rfl (Nat.le_of_ble_eq_true rfl) (c_X8_name l D cA B aK aV r18 r19 hr19) dX8_readsChild_23 ?_
    refine v_lstore_n (L' := [(2, .long r19), (1, .int y17), (0, .ref (B + 234))]) C dX8_readsChild_26 rfl (by decide) rfl ?_
    refine v_lload_n (j := 0) C dX8_readsChild_27 rfl rfl ?_
    refine v_pc (pc' := 28) rfl ?_
    refine v_ldc2 C tw_1065 dX8_readsChild_28 ?_
    refine v_lcmp C dX8_readsChild_31 ?_
    refine v_if_ne (tgt := 39) C dX8_readsChild_32 (by decide) (fun g => ?_) (fun g => ?_)
    · replace h := ite_t g h
      refine v_iconst C dX8_readsChild_35 ct_i_1 ?_
      refine v_goto (tgt := 88) C dX8_readsChild_36 (by decide) ?_
      refine v_sub [2, 1] rfl ?_
      exact J88 r18 y17 1 h
    · replace h := ite_f g h
      refine v_lload_n (j := 0) C dX8_readsChild_39 rfl rfl ?_
      refine v_ldc2 C tw_1066 dX8_readsChild_40 ?_
      refine v_lcmp C dX8_readsChild_43 ?_
      refine v_if_ne (tgt := 51) C dX8_readsChild_44 (by decide) (fun g => ?_) (fun g => ?_)
      · replace h := ite_t g h
        refine v_iconst C dX8_readsChild_47 ct_i_2 ?_
        refine v_goto (tgt := 88) C dX8_readsChild_48 (by decide) ?_
        refine v_sub [2, 1] rfl ?_
        exact J88 r18 y17 2 h
      · replace h := ite_f g h
        refine v_lload_n (j := 0) C dX8_readsChild_51 rfl rfl ?_
        refine v_ldc2 C tw_1067 dX8_readsChild_52 ?_
        refine v_lcmp C dX8_readsChild_55 ?_
        refine v_if_ne (tgt := 63) C dX8_readsChild_56 (by decide) (fun g => ?_) (fun g => ?_)
        · replace h := ite_t g h
          refine v_iconst C dX8_readsChild_59 ct_i_3 ?_
          refine v_goto (tgt := 88) C dX8_readsChild_60 (by decide) ?_
          refine v_sub [2, 1] rfl ?_
          exact J88 r18 y17 3 h
        · replace h := ite_f g h
          refine v_lload_n (j := 0) C dX8_readsChild_63 rfl rfl ?_
          refine v_ldc2 C tw_1068 dX8_readsChild_64 ?_
          refine v_lcmp C dX8_readsChild_67 ?_
          refine v_if_ne (tgt := 75) C dX8_readsChild_68 (by decide) (fun g => ?_) (fun g => ?_)
          · replace h := ite_t g h
            refine v_iconst C dX8_readsChild_71 ct_i_4 ?_
            refine v_goto (tgt := 88) C dX8_readsChild_72 (by decide) ?_
            refine v_sub [2, 1] rfl ?_
            exact J88 r18 y17 4 h
          · replace h := ite_f g h
            refine v_lload_n (j := 0) C dX8_readsChild_75 rfl rfl ?_
            refine v_ldc2 C tw_1069 dX8_readsChild_76 ?_
            refine v_lcmp C dX8_readsChild_79 ?_
            refine v_if_ne (tgt := 87) C dX8_readsChild_80 (by decide) (fun g => ?_) (fun g => ?_)
            · replace h := ite_t g h
              refine v_iconst C dX8_readsChild_83 ct_i_5 ?_
              refine v_goto (tgt := 88) C dX8_readsChild_84 (by decide) ?_
              refine v_sub [2, 1] rfl ?_
              exact J88 r18 y17 5 h
            · replace h := ite_f g h
              refine v_iconst C dX8_readsChild_87 ct_i_0 ?_
              refine v_sub [2, 1] rfl ?_
              exact J88 r18 y17 0 h
def b_X8_reads_2 (M : Mem) (x1 : Int32) : Option ((Int32 × Mem) ⊕ Mem) :=
  if 39 ≤ x1 then (some (.inr M)) else (chk (inB x1 39) (nm (mset M 240 x1.toNatClampNeg 0) fun M2 => some (.inl (x1 + 1, M2))))
def b_X8_reads_71 (M : Mem) : Option (Mem ⊕ (Mem ⊕ (Int32 × Mem))) :=
  (m_X8_name M).bind fun r10 => if (lg_cmp r10 431415716206) = 0 then ((m_X8_readsDrain M).bind fun r11 => if r11.1 = 0 then (some (.inr (.inr ((0, r11.2))))) else (some (.inl r11.2))) else (some (.inr (.inl M)))
def b_X8_reads_91 (M : Mem) : Option (Mem ⊕ (Mem ⊕ (Int32 × Mem))) :=
  (m_X8_name M).bind fun r14 => if (lg_cmp r14 426953501796) = 0 then ((m_X8_readsChild M).bind fun r15 => if r15.1 = 0 then (some (.inr (.inr ((0, r15.2))))) else (some (.inl r15.2))) else (some (.inr (.inl M)))
def m_X8_reads (M : Mem) : Option (Int32 × Mem) :=
  (loopF (fun z => b_X8_reads_2 z.2 z.1) FUEL (0, M)).bind fun z3 => nm (mset z3 234 15 0) fun M4 => (m_X8_token M4).bind fun r5 => (m_X8_name r5).bind fun r6 => if (lg_cmp r6 7102839) = 0 then ((m_X8_token r5).bind fun r7 => (m_X8_number r7 1 0 20).bind fun r8 => if r8.1 = 0 then (some ((0, r8.2))) else ((m_X8_sign r8.2).bind fun r9 => if r9.1 = 0 then (some ((0, r9.2))) else ((loopF (fun z => b_X8_reads_71 z) FUEL r9.2).bind fun z12 => sumC z12 (fun z13 => (loopF (fun z => b_X8_reads_91 z) FUEL z13).bind fun z16 => sumC z16 (fun z17 => if (z17 234 16) = 0 then (some ((1, z17))) else ((m_X8_wrong z17 1).bind fun r18 => if r18.1 = 0 then (some ((0, r18.2))) else (some ((1, r18.2))))) (fun z => some z)) (fun z => some z)))) else ((m_X8_wrong r5 1).bind fun r19 => chk (isZ r19.1) (some ((r19.1, r19.2))))
set_option maxHeartbeats 4000000 in
set_option maxRecDepth 100000 in
theorem c_X8_reads (l : Launch) (D : va_G) (cA : cAt) (B : Nat) (aK aV : Nat → Nat) (M : Mem) (R : Int32 × Mem) (h : m_X8_reads M = some R) : CI l D cA B aK aV yX8_reads cX8_reads 2 .boolean 6 [.ref (B + 234)] M R.1 R.2 := by
  refine CI_of (by decide +kernel) (Nat.le_of_ble_eq_true rfl) ?_
  intro p e s m args below meth c C hr hlk
  have C : Cx p (rmd 6) s m args c 0 0 D cA B aK aV cX8_reads 2 RX8 := C
  generalize hQ : MQ below _ args s 0 0 _ = Q
  refine v_eq (M' := M) (pc' := 0) (L' := [(0, .ref (B + 234))]) (st' := []) ?_
  unfold m_X8_reads at h
  refine v_iconst C dX8_reads_0 ct_i_0 ?_
  refine v_istore_n (L' := [(1, .int 0), (0, .ref (B + 234))]) C dX8_reads_1 rfl (by decide) rfl ?_
  have LB2 : ∀ (M : Mem) (x1 : Int32) (o2 : (Int32 × Mem) ⊕ Mem) (h : b_X8_reads_2 M x1 = some o2) (hc2 : ∀ z : Int32 × Mem, o2 = .inl z → V p l e (rmd 6) s m args below meth c 0 0 D cA B 2 Q z.2 2 [(0, .ref (B + 234)), (1, .int z.1)] []) (he2 : ∀ z : Mem, o2 = .inr z → V p l e (rmd 6) s m args below meth c 0 0 D cA B 2 Q z 21 [(0, .ref (B + 234))] []), V p l e (rmd 6) s m args below meth c 0 0 D cA B 2 Q M 2 [(0, .ref (B + 234)), (1, .int x1)] [] := by
    intro M x1 o2 h hc2 he2
    unfold b_X8_reads_2 at h
    refine v_iload_n (j := 1) C dX8_reads_2 rfl rfl ?_
    refine v_bipush C dX8_reads_3 ct_b_39 ?_
    refine v_icmp_ge (tgt := 21) C dX8_reads_5 (by decide) (fun g => ?_) (fun g => ?_)
    · replace h := ite_t g h
      replace h := Option.some.inj h; subst h
      refine v_sub [0] rfl ?_
      exact he2 M rfl
    · replace h := ite_f g h
      refine v_aload_nR (j := 0) C dX8_reads_8 rfl rfl ?_
      refine gf_X8_25 C ks_234 dX8_reads_9 ?_
      refine v_iload_n (j := 1) C dX8_reads_12 rfl rfl ?_
      refine v_pc (pc' := 13) rfl ?_
      refine v_iconst C dX8_reads_13 ct_i_0 ?_
      replace h := chk_some h; obtain ⟨g1, h⟩ := h
      replace h := nm_ex h; obtain ⟨M2, eM2, h⟩ := h
      refine v_iast C ks_240 (inB_vp g1) dX8_reads_14 ?_
      refine v_mem eM2 ?_
      refine v_iinc (j := 1) (L' := [(1, .int (x1 + 1)), (0, .ref (B + 234))]) C dX8_reads_15 rfl (congrArg (fun z => _ + z) ct_i_1) (by decide) rfl ?_
      refine v_goto (tgt := 2) C dX8_reads_18 (by decide) ?_
      replace h := Option.some.inj h; subst h
      refine v_sub [1, 0] rfl ?_
      exact hc2 (x1 + 1, M2) rfl
  replace h := bind_ex h; obtain ⟨z3, hz3, h⟩ := h
  refine v_sub [1, 0] rfl ?_
  refine loopF_walk (Pσ := fun z => V p l e (rmd 6) s m args below meth c 0 0 D cA B 2 Q z.2 2 [(0, .ref (B + 234)), (1, .int z.1)] []) (Pρ := fun y => V p l e (rmd 6) s m args below meth c 0 0 D cA B 2 Q y 21 [(0, .ref (B + 234))] []) ?_ FUEL (0, M) z3 hz3 ?_
  · intro z o hb hc he
    exact LB2 z.2 z.1 o hb hc he
  · refine v_aload_nR (j := 0) C dX8_reads_21 rfl rfl ?_
    refine v_iconst C dX8_reads_22 ct_i_0 ?_
    replace h := nm_ex h; obtain ⟨M4, eM4, h⟩ := h
    refine pf_X8_90 C ks_234 dX8_reads_23 ?_
    refine v_mem eM4 ?_
    refine v_aload_nR (j := 0) C dX8_reads_26 rfl rfl ?_
    replace h := bind_ex h; obtain ⟨r5, hr5, h⟩ := h
    refine cv_V C tw_1021 tw_111 tw_1018 tw_1020 tw_76 pd_X8_token (Nat.le_of_ble_eq_true rfl) (Nat.le_of_ble_eq_true rfl) (q := 234) (kd_lt ks_234 (by decide)) (sh8 ks_234) rfl (As := []) (rest := []) rfl rfl (Nat.le_of_ble_eq_true rfl) (c_X8_token l D cA B aK aV M4 r5 hr5) dX8_reads_27 ?_
    refine v_aload_nR (j := 0) C dX8_reads_30 rfl rfl ?_
    refine v_pc (pc' := 31) rfl ?_
    replace h := bind_ex h; obtain ⟨r6, hr6, h⟩ := h
    refine cv_L C tw_1036 tw_111 tw_1033 tw_1035 tw_78 pd_X8_name (Nat.le_of_ble_eq_true rfl) (Nat.le_of_ble_eq_true rfl) (q := 234) (kd_lt ks_234 (by decide)) (sh8 ks_234) rfl (As := []) (rest := []) rfl rfl (Nat.le_of_ble_eq_true rfl) (c_X8_name l D cA B aK aV r5 r6 hr6) dX8_reads_31 ?_
    refine v_ldc2 C tw_1038 dX8_reads_34 ?_
    refine v_lcmp C dX8_reads_37 ?_
    refine v_if_eq (tgt := 47) C dX8_reads_38 (by decide) (fun g => ?_) (fun g => ?_)
    · replace h := ite_t g h
      refine v_aload_nR (j := 0) C dX8_reads_47 rfl rfl ?_
      replace h := bind_ex h; obtain ⟨r7, hr7, h⟩ := h
      refine cv_V C tw_1021 tw_111 tw_1018 tw_1020 tw_76 pd_X8_token (Nat.le_of_ble_eq_true rfl) (Nat.le_of_ble_eq_true rfl) (q := 234) (kd_lt ks_234 (by decide)) (sh8 ks_234) rfl (As := []) (rest := []) rfl rfl (Nat.le_of_ble_eq_true rfl) (c_X8_token l D cA B aK aV r5 r7 hr7) dX8_reads_48 ?_
      refine v_aload_nR (j := 0) C dX8_reads_51 rfl rfl ?_
      refine v_iconst C dX8_reads_52 ct_i_1 ?_
      refine v_iconst C dX8_reads_53 ct_i_0 ?_
      refine v_bipush C dX8_reads_54 ct_b_20 ?_
      refine v_pc (pc' := 56) rfl ?_
      replace h := bind_ex h; obtain ⟨r8, hr8, h⟩ := h
      refine cv_I C tw_1046 tw_111 tw_1043 tw_1045 tw_80 pd_X8_number (Nat.le_of_ble_eq_true rfl) (Nat.le_of_ble_eq_true rfl) (q := 234) (kd_lt ks_234 (by decide)) (sh8 ks_234) rfl (As := [.int 1, .int 0, .int 20]) (rest := []) rfl rfl (Nat.le_of_ble_eq_true rfl) (c_X8_number l D cA B aK aV r7 1 0 20 r8 hr8) dX8_reads_56 ?_
      refine v_if_eq (tgt := 69) C dX8_reads_59 (by decide) (fun g => ?_) (fun g => ?_)
      · replace h := ite_t g h
        refine v_iconst C dX8_reads_69 ct_i_0 ?_
        replace h := Option.some.inj h; subst h
        subst hQ
        exact v_zret C hr hlk (show narrow .boolean (.int 0) = .int 0 from rfl) dX8_reads_70
      · replace h := ite_f g h
        refine v_aload_nR (j := 0) C dX8_reads_62 rfl rfl ?_
        replace h := bind_ex h; obtain ⟨r9, hr9, h⟩ := h
        refine cv_I C tw_1050 tw_111 tw_1047 tw_1049 tw_81 pd_X8_sign (Nat.le_of_ble_eq_true rfl) (Nat.le_of_ble_eq_true rfl) (q := 234) (kd_lt ks_234 (by decide)) (sh8 ks_234) rfl (As := []) (rest := []) rfl rfl (Nat.le_of_ble_eq_true rfl) (c_X8_sign l D cA B aK aV r8.2 r9 hr9) dX8_reads_63 ?_
        refine v_if_ne (tgt := 71) C dX8_reads_66 (by decide) (fun g => ?_) (fun g => ?_)
        · replace h := ite_t g h
          refine v_iconst C dX8_reads_69 ct_i_0 ?_
          replace h := Option.some.inj h; subst h
          subst hQ
          exact v_zret C hr hlk (show narrow .boolean (.int 0) = .int 0 from rfl) dX8_reads_70
        · replace h := ite_f g h
          have LB71 : ∀ (M : Mem) (o71 : Mem ⊕ (Mem ⊕ (Int32 × Mem))) (h : b_X8_reads_71 M = some o71) (hc71 : ∀ z : Mem, o71 = .inl z → V p l e (rmd 6) s m args below meth c 0 0 D cA B 2 Q z 71 [(0, .ref (B + 234))] []) (he71 : ∀ z : Mem, o71 = .inr (.inl z) → V p l e (rmd 6) s m args below meth c 0 0 D cA B 2 Q z 91 [(0, .ref (B + 234))] []) (hr71 : ∀ z : Int32 × Mem, o71 = .inr (.inr z) → z = R), V p l e (rmd 6) s m args below meth c 0 0 D cA B 2 Q M 71 [(0, .ref (B + 234))] [] := by
            intro M o71 h hc71 he71 hr71
            unfold b_X8_reads_71 at h
            refine v_aload_nR (j := 0) C dX8_reads_71 rfl rfl ?_
            replace h := bind_ex h; obtain ⟨r10, hr10, h⟩ := h
            refine cv_L C tw_1036 tw_111 tw_1033 tw_1035 tw_78 pd_X8_name (Nat.le_of_ble_eq_true rfl) (Nat.le_of_ble_eq_true rfl) (q := 234) (kd_lt ks_234 (by decide)) (sh8 ks_234) rfl (As := []) (rest := []) rfl rfl (Nat.le_of_ble_eq_true rfl) (c_X8_name l D cA B aK aV M r10 hr10) dX8_reads_72 ?_
            refine v_ldc2 C tw_1051 dX8_reads_75 ?_
            refine v_lcmp C dX8_reads_78 ?_
            refine v_if_ne (tgt := 91) C dX8_reads_79 (by decide) (fun g => ?_) (fun g => ?_)
            · replace h := ite_t g h
              refine v_aload_nR (j := 0) C dX8_reads_82 rfl rfl ?_
              refine v_pc (pc' := 83) rfl ?_
              replace h := bind_ex h; obtain ⟨r11, hr11, h⟩ := h
              refine cv_I C tw_1055 tw_111 tw_1052 tw_1054 tw_82 pd_X8_readsDrain (Nat.le_of_ble_eq_true rfl) (Nat.le_of_ble_eq_true rfl) (q := 234) (kd_lt ks_234 (by decide)) (sh8 ks_234) rfl (As := []) (rest := []) rfl rfl (Nat.le_of_ble_eq_true rfl) (c_X8_readsDrain l D cA B aK aV M r11 hr11) dX8_reads_83 ?_
              refine v_if_ne (tgt := 71) C dX8_reads_86 (by decide) (fun g => ?_) (fun g => ?_)
              · replace h := ite_t g h
                refine v_iconst C dX8_reads_89 ct_i_0 ?_
                replace h := Option.some.inj h; subst h
                have hR := hr71 _ rfl
                subst hR
                subst hQ
                exact v_zret C hr hlk (show narrow .boolean (.int 0) = .int 0 from rfl) dX8_reads_90
              · replace h := ite_f g h
                replace h := Option.some.inj h; subst h
                refine v_sub [0] rfl ?_
                exact hc71 r11.2 rfl
            · replace h := ite_f g h
              replace h := Option.some.inj h; subst h
              refine v_sub [0] rfl ?_
              exact he71 M rfl
          replace h := bind_ex h; obtain ⟨z12, hz12, h⟩ := h
          refine v_sub [0] rfl ?_
          refine loopF_walk (Pσ := fun z => V p l e (rmd 6) s m args below meth c 0 0 D cA B 2 Q z 71 [(0, .ref (B + 234))] []) (Pρ := fun r => (∀ y : Mem, r = .inl y → V p l e (rmd 6) s m args below meth c 0 0 D cA B 2 Q y 91 [(0, .ref (B + 234))] []) ∧ (∀ y : Int32 × Mem, r = .inr y → y = R)) ?_ FUEL r9.2 z12 hz12 ?_
          · intro z o hb hc he
            exact LB71 z o hb hc (fun y e => (he _ e).1 y rfl) (fun y e => (he _ e).2 y rfl)
          · refine ⟨fun z13 e => ?_, fun y e => ?_⟩
            · subst e
              replace h := sumC_l h
              have LB91 : ∀ (M : Mem) (o91 : Mem ⊕ (Mem ⊕ (Int32 × Mem))) (h : b_X8_reads_91 M = some o91) (hc91 : ∀ z : Mem, o91 = .inl z → V p l e (rmd 6) s m args below meth c 0 0 D cA B 2 Q z 91 [(0, .ref (B + 234))] []) (he91 : ∀ z : Mem, o91 = .inr (.inl z) → V p l e (rmd 6) s m args below meth c 0 0 D cA B 2 Q z 111 [(0, .ref (B + 234))] []) (hr91 : ∀ z : Int32 × Mem, o91 = .inr (.inr z) → z = R), V p l e (rmd 6) s m args below meth c 0 0 D cA B 2 Q M 91 [(0, .ref (B + 234))] [] := by
                intro M o91 h hc91 he91 hr91
                unfold b_X8_reads_91 at h
                refine v_aload_nR (j := 0) C dX8_reads_91 rfl rfl ?_
                replace h := bind_ex h; obtain ⟨r14, hr14, h⟩ := h
                refine cv_L C tw_1036 tw_111 tw_1033 tw_1035 tw_78 pd_X8_name (Nat.le_of_ble_eq_true rfl) (Nat.le_of_ble_eq_true rfl) (q := 234) (kd_lt ks_234 (by decide)) (sh8 ks_234) rfl (As := []) (rest := []) rfl rfl (Nat.le_of_ble_eq_true rfl) (c_X8_name l D cA B aK aV M r14 hr14) dX8_reads_92 ?_
                refine v_ldc2 C tw_1060 dX8_reads_95 ?_
                refine v_lcmp C dX8_reads_98 ?_
                refine v_if_ne (tgt := 111) C dX8_reads_99 (by decide) (fun g => ?_) (fun g => ?_)
                · replace h := ite_t g h
                  refine v_aload_nR (j := 0) C dX8_reads_102 rfl rfl ?_
                  refine v_pc (pc' := 103) rfl ?_
                  replace h := bind_ex h; obtain ⟨r15, hr15, h⟩ := h
                  refine cv_I C tw_1064 tw_111 tw_1061 tw_1063 tw_84 pd_X8_readsChild (Nat.le_of_ble_eq_true rfl) (Nat.le_of_ble_eq_true rfl) (q := 234) (kd_lt ks_234 (by decide)) (sh8 ks_234) rfl (As := []) (rest := []) rfl rfl (Nat.le_of_ble_eq_true rfl) (c_X8_readsChild l D cA B aK aV M r15 hr15) dX8_reads_103 ?_
                  refine v_if_ne (tgt := 91) C dX8_reads_106 (by decide) (fun g => ?_) (fun g => ?_)
                  · replace h := ite_t g h
                    refine v_iconst C dX8_reads_109 ct_i_0 ?_
                    replace h := Option.some.inj h; subst h
                    have hR := hr91 _ rfl
                    subst hR
                    subst hQ
                    exact v_zret C hr hlk (show narrow .boolean (.int 0) = .int 0 from rfl) dX8_reads_110
                  · replace h := ite_f g h
                    replace h := Option.some.inj h; subst h
                    refine v_sub [0] rfl ?_
                    exact hc91 r15.2 rfl
                · replace h := ite_f g h
                  replace h := Option.some.inj h; subst h
                  refine v_sub [0] rfl ?_
                  exact he91 M rfl
              replace h := bind_ex h; obtain ⟨z16, hz16, h⟩ := h
              refine v_sub [0] rfl ?_
              refine loopF_walk (Pσ := fun z => V p l e (rmd 6) s m args below meth c 0 0 D cA B 2 Q z 91 [(0, .ref (B + 234))] []) (Pρ := fun r => (∀ y : Mem, r = .inl y → V p l e (rmd 6) s m args below meth c 0 0 D cA B 2 Q y 111 [(0, .ref (B + 234))] []) ∧ (∀ y : Int32 × Mem, r = .inr y → y = R)) ?_ FUEL z13 z16 hz16 ?_
              · intro z o hb hc he
                exact LB91 z o hb hc (fun y e => (he _ e).1 y rfl) (fun y e => (he _ e).2 y rfl)
              · refine ⟨fun z17 e => ?_, fun y e => ?_⟩
                · subst e
                  replace h := sumC_l h
                  refine v_aload_nR (j := 0) C dX8_reads_111 rfl rfl ?_
                  refine gf_X8_102 C ks_234 dX8_reads_112 ?_
                  refine v_if_eq (tgt := 126) C dX8_reads_115 (by decide) (fun g => ?_) (fun g => ?_)
                  · replace h := ite_t g h
                    refine v_iconst C dX8_reads_126 ct_i_1 ?_
                    refine v_goto (tgt := 131) C dX8_reads_127 (by decide) ?_
                    replace h := Option.some.inj h; subst h
                    subst hQ
                    exact v_zret C hr hlk (show narrow .boolean (.int 1) = .int 1 from rfl) dX8_reads_131
                  · replace h := ite_f g h
                    refine v_aload_nR (j := 0) C dX8_reads_118 rfl rfl ?_
                    refine v_iconst C dX8_reads_119 ct_i_1 ?_
                    replace h := bind_ex h; obtain ⟨r18, hr18, h⟩ := h
                    refine cv_I C tw_1042 tw_111 tw_1039 tw_1041 tw_79 pd_X8_wrong (Nat.le_of_ble_eq_true rfl) (Nat.le_of_ble_eq_true rfl) (q := 234) (kd_lt ks_234 (by decide)) (sh8 ks_234) rfl (As := [.int 1]) (rest := []) rfl rfl (Nat.le_of_ble_eq_true rfl) (c_X8_wrong l D cA B aK aV z17 1 r18 hr18) dX8_reads_120 ?_
                    refine v_pc (pc' := 123) rfl ?_
                    refine v_if_eq (tgt := 130) C dX8_reads_123 (by decide) (fun g => ?_) (fun g => ?_)
                    · replace h := ite_t g h
                      refine v_iconst C dX8_reads_130 ct_i_0 ?_
                      replace h := Option.some.inj h; subst h
                      subst hQ
                      exact v_zret C hr hlk (show narrow .boolean (.int 0) = .int 0 from rfl) dX8_reads_131
                    · replace h := ite_f g h
                      refine v_iconst C dX8_reads_126 ct_i_1 ?_
                      refine v_goto (tgt := 131) C dX8_reads_127 (by decide) ?_
                      replace h := Option.some.inj h; subst h
                      subst hQ
                      exact v_zret C hr hlk (show narrow .boolean (.int 1) = .int 1 from rfl) dX8_reads_131
                · subst e
                  replace h := sumC_r h
                  exact Option.some.inj h
            · subst e
              replace h := sumC_r h
              exact Option.some.inj h
    · replace h := ite_f g h
      refine v_aload_nR (j := 0) C dX8_reads_41 rfl rfl ?_
      refine v_iconst C dX8_reads_42 ct_i_1 ?_
      replace h := bind_ex h; obtain ⟨r19, hr19, h⟩ := h
      refine cv_I C tw_1042 tw_111 tw_1039 tw_1041 tw_79 pd_X8_wrong (Nat.le_of_ble_eq_true rfl) (Nat.le_of_ble_eq_true rfl) (q := 234) (kd_lt ks_234 (by decide)) (sh8 ks_234) rfl (As := [.int 1]) (rest := []) rfl rfl (Nat.le_of_ble_eq_true rfl) (c_X8_wrong l D cA B aK aV r5 1 r19 hr19) dX8_reads_43 ?_
      refine v_pc (pc' := 46) rfl ?_
      replace h := chk_some h; obtain ⟨g20, h⟩ := h
      replace h := Option.some.inj h; subst h
      subst hQ
      exact v_zret C hr hlk (isZ_nar g20) dX8_reads_46
def b_X8_square_32 (M : Mem) (x2 : Int32) : Option ((Int32 × Mem) ⊕ Mem) :=
  if 39 ≤ x2 then (some (.inr M)) else (chk (inB x2 39) (chk (inB x2 39) (nm (mset M 239 x2.toNatClampNeg (M 240 x2.toNatClampNeg)) fun M6 => some (.inl (x2 + 1, M6)))))
def m_X8_square (M : Mem) : Option (Int32 × Mem) :=
  (m_X8_reads M).bind fun r1 => nm r1.1 fun y2 => nm (mset r1.2 234 5 0) fun M3 => if y2 = 0 then (nm (mset M3 234 6 (M3 234 19)) fun M12 => some (((-1000100) - (M12 234 17), M12))) else ((loopF (fun z => b_X8_square_32 z.2 z.1) FUEL (0, M3)).bind fun z7 => chk (inB 0 39) (nm (mset z7 239 (0 : Int32).toNatClampNeg 1) fun M9 => nm (mset M9 234 10 0) fun M10 => chk (inB 3 39) (some ((M10 239 (3 : Int32).toNatClampNeg, M10)))))
set_option maxHeartbeats 4000000 in
set_option maxRecDepth 100000 in
theorem c_X8_square (l : Launch) (D : va_G) (cA : cAt) (B : Nat) (aK aV : Nat → Nat) (M : Mem) (R : Int32 × Mem) (h : m_X8_square M = some R) : CI l D cA B aK aV yX8_square cX8_square 3 .int 7 [.ref (B + 234)] M R.1 R.2 := by
  refine CI_of (by decide +kernel) (Nat.le_of_ble_eq_true rfl) ?_
  intro p e s m args below meth c C hr hlk
  have C : Cx p (rmd 7) s m args c 0 0 D cA B aK aV cX8_square 3 RX8 := C
  generalize hQ : MQ below _ args s 0 0 _ = Q
  refine v_eq (M' := M) (pc' := 0) (L' := [(0, .ref (B + 234))]) (st' := []) ?_
  unfold m_X8_square at h
  refine v_aload_nR (j := 0) C dX8_square_0 rfl rfl ?_
  replace h := bind_ex h; obtain ⟨r1, hr1, h⟩ := h
  refine cv_I C tw_1017 tw_111 tw_1014 tw_1016 tw_75 pd_X8_reads (Nat.le_of_ble_eq_true rfl) (Nat.le_of_ble_eq_true rfl) (q := 234) (kd_lt ks_234 (by decide)) (sh8 ks_234) rfl (As := []) (rest := []) rfl rfl (Nat.le_of_ble_eq_true rfl) (c_X8_reads l D cA B aK aV M r1 hr1) dX8_square_1 ?_
  replace h := nm_ex h; obtain ⟨y2, ey2, h⟩ := h
  refine v_topI ey2 ?_
  refine v_istore_n (L' := [(1, .int y2), (0, .ref (B + 234))]) C dX8_square_4 rfl (by decide) rfl ?_
  refine v_aload_nR (j := 1) C dX8_square_5 rfl rfl ?_
  refine v_iconst C dX8_square_6 ct_i_0 ?_
  replace h := nm_ex h; obtain ⟨M3, eM3, h⟩ := h
  refine pf_X8_76 C ks_234 dX8_square_7 ?_
  refine v_mem eM3 ?_
  refine v_pc (pc' := 10) rfl ?_
  refine v_iload_n (j := 0) C dX8_square_10 rfl rfl ?_
  refine v_if_ne (tgt := 30) C dX8_square_11 (by decide) (fun g => ?_) (fun g => ?_)
  · replace h := ite_t g h
    refine v_aload_nR (j := 1) C dX8_square_14 rfl rfl ?_
    refine v_aload_nR (j := 1) C dX8_square_15 rfl rfl ?_
    refine gf_X8_110 C ks_234 dX8_square_16 ?_
    replace h := nm_ex h; obtain ⟨M12, eM12, h⟩ := h
    refine pf_X8_160 C ks_234 dX8_square_19 ?_
    refine v_mem eM12 ?_
    refine v_ldc C tw_1070 dX8_square_22 ?_
    refine v_pc (pc' := 24) rfl ?_
    refine v_aload_nR (j := 1) C dX8_square_24 rfl rfl ?_
    refine gf_X8_96 C ks_234 dX8_square_25 ?_
    refine v_isub C dX8_square_28 ?_
    replace h := Option.some.inj h; subst h
    subst hQ
    exact v_iret C hr hlk dX8_square_29
  · replace h := ite_f g h
    refine v_iconst C dX8_square_30 ct_i_0 ?_
    refine v_istore_n (L' := [(2, .int 0), (1, .int y2), (0, .ref (B + 234))]) C dX8_square_31 rfl (by decide) rfl ?_
    have LB32 : ∀ (M : Mem) (x2 : Int32) (o32 : (Int32 × Mem) ⊕ Mem) (h : b_X8_square_32 M x2 = some o32) (hc32 : ∀ z : Int32 × Mem, o32 = .inl z → V p l e (rmd 7) s m args below meth c 0 0 D cA B 3 Q z.2 32 [(0, .ref (B + 234)), (2, .int z.1)] []) (he32 : ∀ z : Mem, o32 = .inr z → V p l e (rmd 7) s m args below meth c 0 0 D cA B 3 Q z 56 [(0, .ref (B + 234))] []), V p l e (rmd 7) s m args below meth c 0 0 D cA B 3 Q M 32 [(0, .ref (B + 234)), (2, .int x2)] [] := by
      intro M x2 o32 h hc32 he32
      unfold b_X8_square_32 at h
      refine v_iload_n (j := 1) C dX8_square_32 rfl rfl ?_
      refine v_bipush C dX8_square_33 ct_b_39 ?_
      refine v_icmp_ge (tgt := 56) C dX8_square_35 (by decide) (fun g => ?_) (fun g => ?_)
      · replace h := ite_t g h
        replace h := Option.some.inj h; subst h
        refine v_sub [0] rfl ?_
        exact he32 M rfl
      · replace h := ite_f g h
        refine v_aload_nR (j := 0) C dX8_square_38 rfl rfl ?_
        refine gf_X8_22 C ks_234 dX8_square_39 ?_
        refine v_iload_n (j := 1) C dX8_square_42 rfl rfl ?_
        refine v_pc (pc' := 43) rfl ?_
        refine v_aload_nR (j := 0) C dX8_square_43 rfl rfl ?_
        refine gf_X8_25 C ks_234 dX8_square_44 ?_
        refine v_iload_n (j := 1) C dX8_square_47 rfl rfl ?_
        replace h := chk_some h; obtain ⟨g4, h⟩ := h
        refine v_iald C ks_240 (inB_vp g4) dX8_square_48 ?_
        replace h := chk_some h; obtain ⟨g5, h⟩ := h
        replace h := nm_ex h; obtain ⟨M6, eM6, h⟩ := h
        refine v_iast C ks_239 (inB_vp g5) dX8_square_49 ?_
        refine v_mem eM6 ?_
        refine v_iinc (j := 1) (L' := [(2, .int (x2 + 1)), (0, .ref (B + 234))]) C dX8_square_50 rfl (congrArg (fun z => _ + z) ct_i_1) (by decide) rfl ?_
        refine v_goto (tgt := 32) C dX8_square_53 (by decide) ?_
        replace h := Option.some.inj h; subst h
        refine v_sub [1, 0] rfl ?_
        exact hc32 (x2 + 1, M6) rfl
    replace h := bind_ex h; obtain ⟨z7, hz7, h⟩ := h
    refine v_sub [2, 0] rfl ?_
    refine loopF_walk (Pσ := fun z => V p l e (rmd 7) s m args below meth c 0 0 D cA B 3 Q z.2 32 [(0, .ref (B + 234)), (2, .int z.1)] []) (Pρ := fun y => V p l e (rmd 7) s m args below meth c 0 0 D cA B 3 Q y 56 [(0, .ref (B + 234))] []) ?_ FUEL (0, M3) z7 hz7 ?_
    · intro z o hb hc he
      exact LB32 z.2 z.1 o hb hc he
    · refine v_aload_nR (j := 0) C dX8_square_56 rfl rfl ?_
      refine gf_X8_22 C ks_234 dX8_square_57 ?_
      refine v_iconst C dX8_square_60 ct_i_0 ?_
      refine v_iconst C dX8_square_61 ct_i_1 ?_
      replace h := chk_some h; obtain ⟨g8, h⟩ := h
      replace h := nm_ex h; obtain ⟨M9, eM9, h⟩ := h
      refine v_iast C ks_239 (inB_vp g8) dX8_square_62 ?_
      refine v_mem eM9 ?_
      refine v_aload_nR (j := 0) C dX8_square_63 rfl rfl ?_
      refine v_pc (pc' := 64) rfl ?_
      refine v_iconst C dX8_square_64 ct_i_0 ?_
      replace h := nm_ex h; obtain ⟨M10, eM10, h⟩ := h
      refine pf_X8_164 C ks_234 dX8_square_65 ?_
      refine v_mem eM10 ?_
      refine v_aload_nR (j := 0) C dX8_square_68 rfl rfl ?_
      refine gf_X8_22 C ks_234 dX8_square_69 ?_
      refine v_iconst C dX8_square_72 ct_i_3 ?_
      replace h := chk_some h; obtain ⟨g11, h⟩ := h
      refine v_iald C ks_239 (inB_vp g11) dX8_square_73 ?_
      replace h := Option.some.inj h; subst h
      subst hQ
      exact v_iret C hr hlk dX8_square_74
def m_X8_fault (M : Mem) : Option Int32 :=
  some (M 234 6)
set_option maxHeartbeats 4000000 in
set_option maxRecDepth 100000 in
theorem c_X8_fault (l : Launch) (D : va_G) (cA : cAt) (B : Nat) (aK aV : Nat → Nat) (M : Mem) (R : Int32) (h : m_X8_fault M = some R) : CI l D cA B aK aV yX8_fault cX8_fault 1 .int 0 [.ref (B + 234)] M R M := by
  refine CI_of (by decide +kernel) (Nat.le_of_ble_eq_true rfl) ?_
  intro p e s m args below meth c C hr hlk
  have C : Cx p (rmd 0) s m args c 0 0 D cA B aK aV cX8_fault 1 RX8 := C
  generalize hQ : MQ below _ args s 0 0 _ = Q
  refine v_eq (M' := M) (pc' := 0) (L' := [(0, .ref (B + 234))]) (st' := []) ?_
  unfold m_X8_fault at h
  refine v_aload_nR (j := 0) C dX8_fault_0 rfl rfl ?_
  refine gf_X8_160 C ks_234 dX8_fault_1 ?_
  replace h := Option.some.inj h; subst h
  subst hQ
  exact v_iret C hr hlk dX8_fault_4
def m_X8_isChild (M : Mem) (x1 : Int32) : Option Int32 :=
  chk (inB 3 39) ((m_X8_in M x1.toInt64 0 (((M 239 (3 : Int32).toNatClampNeg) - 1).toInt64)).bind fun r2 => chk (isZ r2) (some r2))
set_option maxHeartbeats 4000000 in
set_option maxRecDepth 100000 in
theorem c_X8_isChild (l : Launch) (D : va_G) (cA : cAt) (B : Nat) (aK aV : Nat → Nat) (M : Mem) (x1 : Int32) (R : Int32) (h : m_X8_isChild M x1 = some R) : CI l D cA B aK aV yX8_isChild cX8_isChild 2 .boolean 1 [.ref (B + 234), .int x1] M R M := by
  refine CI_of (by decide +kernel) (Nat.le_of_ble_eq_true rfl) ?_
  intro p e s m args below meth c C hr hlk
  have C : Cx p (rmd 1) s m args c 0 0 D cA B aK aV cX8_isChild 2 RX8 := C
  generalize hQ : MQ below _ args s 0 0 _ = Q
  refine v_eq (M' := M) (pc' := 0) (L' := [(0, .ref (B + 234)), (1, .int x1)]) (st' := []) ?_
  unfold m_X8_isChild at h
  refine v_iload_n (j := 1) C dX8_isChild_0 rfl rfl ?_
  refine v_i2l C dX8_isChild_1 ?_
  refine v_lconst (v := 0) C dX8_isChild_2 rfl ?_
  refine v_aload_nR (j := 0) C dX8_isChild_3 rfl rfl ?_
  refine gf_X8_22 C ks_234 dX8_isChild_4 ?_
  refine v_iconst C dX8_isChild_7 ct_i_3 ?_
  refine v_pc (pc' := 8) rfl ?_
  replace h := chk_some h; obtain ⟨g1, h⟩ := h
  refine v_iald C ks_239 (inB_vp g1) dX8_isChild_8 ?_
  refine v_iconst C dX8_isChild_9 ct_i_1 ?_
  refine v_isub C dX8_isChild_10 ?_
  refine v_i2l C dX8_isChild_11 ?_
  replace h := bind_ex h; obtain ⟨r2, hr2, h⟩ := h
  refine cs_I C tw_979 tw_111 tw_977 tw_978 pd_X8_in (Nat.le_of_ble_eq_true rfl) (Nat.le_of_ble_eq_true rfl) (As := [.long x1.toInt64, .long 0, .long (((M 239 (3 : Int32).toNatClampNeg) - 1).toInt64)]) (rest := []) rfl rfl (Nat.le_of_ble_eq_true rfl) (c_X8_in l D cA B aK aV M x1.toInt64 0 (((M 239 (3 : Int32).toNatClampNeg) - 1).toInt64) r2 hr2) dX8_isChild_12 ?_
  replace h := chk_some h; obtain ⟨g3, h⟩ := h
  replace h := Option.some.inj h; subst h
  subst hQ
  exact v_zret C hr hlk (isZ_nar g3) dX8_isChild_15
def m_X8_isCell (M : Mem) (x0 : Int32) : Option Int32 :=
  (m_X8_in M x0.toInt64 0 29).bind fun r1 => chk (isZ r1) (some r1)
set_option maxHeartbeats 4000000 in
set_option maxRecDepth 100000 in
theorem c_X8_isCell (l : Launch) (D : va_G) (cA : cAt) (B : Nat) (aK aV : Nat → Nat) (M : Mem) (x0 : Int32) (R : Int32) (h : m_X8_isCell M x0 = some R) : CI l D cA B aK aV yX8_isCell cX8_isCell 1 .boolean 1 [.int x0] M R M := by
  refine CI_of (by decide +kernel) (Nat.le_of_ble_eq_true rfl) ?_
  intro p e s m args below meth c C hr hlk
  have C : Cx p (rmd 1) s m args c 0 0 D cA B aK aV cX8_isCell 1 RX8 := C
  generalize hQ : MQ below _ args s 0 0 _ = Q
  refine v_eq (M' := M) (pc' := 0) (L' := [(0, .int x0)]) (st' := []) ?_
  unfold m_X8_isCell at h
  refine v_iload_n (j := 0) C dX8_isCell_0 rfl rfl ?_
  refine v_i2l C dX8_isCell_1 ?_
  refine v_lconst (v := 0) C dX8_isCell_2 rfl ?_
  refine v_ldc2 C tw_1086 dX8_isCell_3 ?_
  replace h := bind_ex h; obtain ⟨r1, hr1, h⟩ := h
  refine cs_I C tw_979 tw_111 tw_977 tw_978 pd_X8_in (Nat.le_of_ble_eq_true rfl) (Nat.le_of_ble_eq_true rfl) (As := [.long x0.toInt64, .long 0, .long 29]) (rest := []) rfl rfl (Nat.le_of_ble_eq_true rfl) (c_X8_in l D cA B aK aV M x0.toInt64 0 29 r1 hr1) dX8_isCell_6 ?_
  replace h := chk_some h; obtain ⟨g2, h⟩ := h
  replace h := Option.some.inj h; subst h
  subst hQ
  exact v_zret C hr hlk (isZ_nar g2) dX8_isCell_9
def m_X8_isThrow (M : Mem) (x0 : Int32) (x1 : Int32) : Option Int32 :=
  (m_X8_isCell M x0).bind fun r1 => if r1 = 0 then (some 0) else ((m_X8_in M x1.toInt64 0 2).bind fun r2 => if r2 = 0 then (some 0) else (some 1))
set_option maxHeartbeats 4000000 in
set_option maxRecDepth 100000 in
theorem c_X8_isThrow (l : Launch) (D : va_G) (cA : cAt) (B : Nat) (aK aV : Nat → Nat) (M : Mem) (x0 : Int32) (x1 : Int32) (R : Int32) (h : m_X8_isThrow M x0 x1 = some R) : CI l D cA B aK aV yX8_isThrow cX8_isThrow 2 .boolean 2 [.int x0, .int x1] M R M := by
  refine CI_of (by decide +kernel) (Nat.le_of_ble_eq_true rfl) ?_
  intro p e s m args below meth c C hr hlk
  have C : Cx p (rmd 2) s m args c 0 0 D cA B aK aV cX8_isThrow 2 RX8 := C
  generalize hQ : MQ below _ args s 0 0 _ = Q
  refine v_eq (M' := M) (pc' := 0) (L' := [(0, .int x0), (1, .int x1)]) (st' := []) ?_
  unfold m_X8_isThrow at h
  refine v_iload_n (j := 0) C dX8_isThrow_0 rfl rfl ?_
  replace h := bind_ex h; obtain ⟨r1, hr1, h⟩ := h
  refine cs_I C tw_1085 tw_111 tw_1083 tw_1084 pd_X8_isCell (Nat.le_of_ble_eq_true rfl) (Nat.le_of_ble_eq_true rfl) (As := [.int x0]) (rest := []) rfl rfl (Nat.le_of_ble_eq_true rfl) (c_X8_isCell l D cA B aK aV M x0 r1 hr1) dX8_isThrow_1 ?_
  refine v_if_eq (tgt := 23) C dX8_isThrow_4 (by decide) (fun g => ?_) (fun g => ?_)
  · replace h := ite_t g h
    refine v_iconst C dX8_isThrow_23 ct_i_0 ?_
    replace h := Option.some.inj h; subst h
    subst hQ
    exact v_zret C hr hlk (show narrow .boolean (.int 0) = .int 0 from rfl) dX8_isThrow_24
  · replace h := ite_f g h
    refine v_iload_n (j := 1) C dX8_isThrow_7 rfl rfl ?_
    refine v_i2l C dX8_isThrow_8 ?_
    refine v_lconst (v := 0) C dX8_isThrow_9 rfl ?_
    refine v_pc (pc' := 10) rfl ?_
    refine v_ldc2 C tw_980 dX8_isThrow_10 ?_
    replace h := bind_ex h; obtain ⟨r2, hr2, h⟩ := h
    refine cs_I C tw_979 tw_111 tw_977 tw_978 pd_X8_in (Nat.le_of_ble_eq_true rfl) (Nat.le_of_ble_eq_true rfl) (As := [.long x1.toInt64, .long 0, .long 2]) (rest := []) rfl rfl (Nat.le_of_ble_eq_true rfl) (c_X8_in l D cA B aK aV M x1.toInt64 0 2 r2 hr2) dX8_isThrow_13 ?_
    refine v_if_eq (tgt := 23) C dX8_isThrow_16 (by decide) (fun g => ?_) (fun g => ?_)
    · replace h := ite_t g h
      refine v_iconst C dX8_isThrow_23 ct_i_0 ?_
      replace h := Option.some.inj h; subst h
      subst hQ
      exact v_zret C hr hlk (show narrow .boolean (.int 0) = .int 0 from rfl) dX8_isThrow_24
    · replace h := ite_f g h
      refine v_iconst C dX8_isThrow_19 ct_i_1 ?_
      refine v_goto (tgt := 24) C dX8_isThrow_20 (by decide) ?_
      replace h := Option.some.inj h; subst h
      subst hQ
      exact v_zret C hr hlk (show narrow .boolean (.int 1) = .int 1 from rfl) dX8_isThrow_24
def b_X8_lays_12 (M : Mem) (x1 : Int32) : Option ((Int32 × Mem) ⊕ Mem) :=
  if 5 ≤ x1 then (some (.inr M)) else (chk (inB (15 + x1) 39) (chk (inB x1 5) (nm (mset M 245 x1.toNatClampNeg (M 239 (15 + x1).toNatClampNeg)) fun M5 => some (.inl (x1 + 1, M5)))))
def m_X8_lays (M : Mem) : Option Mem :=
  chk (inB 1 39) (nm (mset M 234 21 (M 239 (1 : Int32).toNatClampNeg)) fun M2 => (loopF (fun z => b_X8_lays_12 z.2 z.1) FUEL (0, M2)).bind fun z6 => some z6)
set_option maxHeartbeats 4000000 in
set_option maxRecDepth 100000 in
theorem c_X8_lays (l : Launch) (D : va_G) (cA : cAt) (B : Nat) (aK aV : Nat → Nat) (M : Mem) (R : Mem) (h : m_X8_lays M = some R) : CV l D cA B aK aV yX8_lays cX8_lays 2 0 [.ref (B + 234)] M R := by
  refine CV_of (by decide +kernel) (Nat.le_of_ble_eq_true rfl) ?_
  intro p e s m args below meth c C hr hlk
  have C : Cx p (rmd 0) s m args c 0 0 D cA B aK aV cX8_lays 2 RX8 := C
  generalize hQ : MQ below _ args s 0 0 _ = Q
  refine v_eq (M' := M) (pc' := 0) (L' := [(0, .ref (B + 234))]) (st' := []) ?_
  unfold m_X8_lays at h
  refine v_aload_nR (j := 0) C dX8_lays_0 rfl rfl ?_
  refine v_aload_nR (j := 0) C dX8_lays_1 rfl rfl ?_
  refine gf_X8_22 C ks_234 dX8_lays_2 ?_
  refine v_iconst C dX8_lays_5 ct_i_1 ?_
  replace h := chk_some h; obtain ⟨g1, h⟩ := h
  refine v_iald C ks_239 (inB_vp g1) dX8_lays_6 ?_
  replace h := nm_ex h; obtain ⟨M2, eM2, h⟩ := h
  refine pf_X8_172 C ks_234 dX8_lays_7 ?_
  refine v_mem eM2 ?_
  refine v_pc (pc' := 10) rfl ?_
  refine v_iconst C dX8_lays_10 ct_i_0 ?_
  refine v_istore_n (L' := [(1, .int 0), (0, .ref (B + 234))]) C dX8_lays_11 rfl (by decide) rfl ?_
  have LB12 : ∀ (M : Mem) (x1 : Int32) (o12 : (Int32 × Mem) ⊕ Mem) (h : b_X8_lays_12 M x1 = some o12) (hc12 : ∀ z : Int32 × Mem, o12 = .inl z → V p l e (rmd 0) s m args below meth c 0 0 D cA B 2 Q z.2 12 [(0, .ref (B + 234)), (1, .int z.1)] []) (he12 : ∀ z : Mem, o12 = .inr z → V p l e (rmd 0) s m args below meth c 0 0 D cA B 2 Q z 38 [] []), V p l e (rmd 0) s m args below meth c 0 0 D cA B 2 Q M 12 [(0, .ref (B + 234)), (1, .int x1)] [] := by
    intro M x1 o12 h hc12 he12
    unfold b_X8_lays_12 at h
    refine v_iload_n (j := 1) C dX8_lays_12 rfl rfl ?_
    refine v_iconst C dX8_lays_13 ct_i_5 ?_
    refine v_icmp_ge (tgt := 38) C dX8_lays_14 (by decide) (fun g => ?_) (fun g => ?_)
    · replace h := ite_t g h
      replace h := Option.some.inj h; subst h
      refine v_sub [] rfl ?_
      exact he12 M rfl
    · replace h := ite_f g h
      refine v_aload_nR (j := 0) C dX8_lays_17 rfl rfl ?_
      refine gf_X8_41 C ks_234 dX8_lays_18 ?_
      refine v_iload_n (j := 1) C dX8_lays_21 rfl rfl ?_
      refine v_pc (pc' := 22) rfl ?_
      refine v_aload_nR (j := 0) C dX8_lays_22 rfl rfl ?_
      refine gf_X8_22 C ks_234 dX8_lays_23 ?_
      refine v_bipush C dX8_lays_26 ct_b_15 ?_
      refine v_iload_n (j := 1) C dX8_lays_28 rfl rfl ?_
      refine v_iadd C dX8_lays_29 ?_
      replace h := chk_some h; obtain ⟨g3, h⟩ := h
      refine v_iald C ks_239 (inB_vp g3) dX8_lays_30 ?_
      replace h := chk_some h; obtain ⟨g4, h⟩ := h
      replace h := nm_ex h; obtain ⟨M5, eM5, h⟩ := h
      refine v_iast C ks_245 (inB_vp g4) dX8_lays_31 ?_
      refine v_mem eM5 ?_
      refine v_pc (pc' := 32) rfl ?_
      refine v_iinc (j := 1) (L' := [(1, .int (x1 + 1)), (0, .ref (B + 234))]) C dX8_lays_32 rfl (congrArg (fun z => _ + z) ct_i_1) (by decide) rfl ?_
      refine v_goto (tgt := 12) C dX8_lays_35 (by decide) ?_
      replace h := Option.some.inj h; subst h
      refine v_sub [1, 0] rfl ?_
      exact hc12 (x1 + 1, M5) rfl
  replace h := bind_ex h; obtain ⟨z6, hz6, h⟩ := h
  refine v_sub [1, 0] rfl ?_
  refine loopF_walk (Pσ := fun z => V p l e (rmd 0) s m args below meth c 0 0 D cA B 2 Q z.2 12 [(0, .ref (B + 234)), (1, .int z.1)] []) (Pρ := fun y => V p l e (rmd 0) s m args below meth c 0 0 D cA B 2 Q y 38 [] []) ?_ FUEL (0, M2) z6 hz6 ?_
  · intro z o hb hc he
    exact LB12 z.2 z.1 o hb hc he
  · replace h := Option.some.inj h; subst h
    subst hQ
    exact v_vret C hr hlk dX8_lays_38
def j_X8_far_30 (M : Mem) (x3 : Int32) (s0 : Int32) : Option Int32 :=
  if 0 ≤ x3 then (some (s0 + x3)) else (some (s0 + (-x3)))
def m_X8_far (M : Mem) (x0 : Int32) (x1 : Int32) : Option Int32 :=
  nm ((x0 % 6) - (x1 % 6)) fun y1 => nm ((x0 / 6) - (x1 / 6)) fun y2 => if 0 ≤ y1 then (j_X8_far_30 M y2 y1) else (j_X8_far_30 M y2 (-y1))
set_option maxHeartbeats 4000000 in
set_option maxRecDepth 100000 in
theorem c_X8_far (l : Launch) (D : va_G) (cA : cAt) (B : Nat) (aK aV : Nat → Nat) (M : Mem) (x0 : Int32) (x1 : Int32) (R : Int32) (h : m_X8_far M x0 x1 = some R) : CI l D cA B aK aV yX8_far cX8_far 4 .int 0 [.int x0, .int x1] M R M := by
  refine CI_of (by decide +kernel) (Nat.le_of_ble_eq_true rfl) ?_
  intro p e s m args below meth c C hr hlk
  have C : Cx p (rmd 0) s m args c 0 0 D cA B aK aV cX8_far 4 RX8 := C
  generalize hQ : MQ below _ args s 0 0 _ = Q
  refine v_eq (M' := M) (pc' := 0) (L' := [(0, .int x0), (1, .int x1)]) (st' := []) ?_
  unfold m_X8_far at h
  have J30 : ∀ (x3 : Int32) (s0 : Int32), j_X8_far_30 M x3 s0 = some R → V p l e (rmd 0) s m args below meth c 0 0 D cA B 4 Q M 30 [(3, .int x3)] [.int s0] := by
    intro x3 s0 h
    unfold j_X8_far_30 at h
    refine v_iload_n (j := 0) C dX8_far_30 rfl rfl ?_
    refine v_if_ge (tgt := 39) C dX8_far_31 (by decide) (fun g => ?_) (fun g => ?_)
    · replace h := ite_t g h
      refine v_iload_n (j := 0) C dX8_far_39 rfl rfl ?_
      refine v_iadd C dX8_far_40 ?_
      replace h := Option.some.inj h; subst h
      subst hQ
      exact v_iret C hr hlk dX8_far_41
    · replace h := ite_f g h
      refine v_iload_n (j := 0) C dX8_far_34 rfl rfl ?_
      refine v_ineg C dX8_far_35 ?_
      refine v_goto (tgt := 40) C dX8_far_36 (by decide) ?_
      refine v_iadd C dX8_far_40 ?_
      replace h := Option.some.inj h; subst h
      subst hQ
      exact v_iret C hr hlk dX8_far_41
  refine v_iload_n (j := 0) C dX8_far_0 rfl rfl ?_
  refine v_bipush C dX8_far_1 ct_b_6 ?_
  refine v_irem C dX8_far_3 (by decide) ?_
  refine v_iload_n (j := 1) C dX8_far_4 rfl rfl ?_
  refine v_bipush C dX8_far_5 ct_b_6 ?_
  refine v_irem C dX8_far_7 (by decide) ?_
  refine v_pc (pc' := 8) rfl ?_
  refine v_isub C dX8_far_8 ?_
  replace h := nm_ex h; obtain ⟨y1, ey1, h⟩ := h
  refine v_topI ey1 ?_
  refine v_istore_n (L' := [(2, .int y1), (0, .int x0), (1, .int x1)]) C dX8_far_9 rfl (by decide) rfl ?_
  refine v_iload_n (j := 1) C dX8_far_10 rfl rfl ?_
  refine v_bipush C dX8_far_11 ct_b_6 ?_
  refine v_idiv C dX8_far_13 (by decide) ?_
  refine v_iload_n (j := 2) C dX8_far_14 rfl rfl ?_
  refine v_bipush C dX8_far_15 ct_b_6 ?_
  refine v_pc (pc' := 17) rfl ?_
  refine v_idiv C dX8_far_17 (by decide) ?_
  refine v_isub C dX8_far_18 ?_
  replace h := nm_ex h; obtain ⟨y2, ey2, h⟩ := h
  refine v_topI ey2 ?_
  refine v_istore_n (L' := [(3, .int y2), (2, .int y1), (0, .int x0), (1, .int x1)]) C dX8_far_19 rfl (by decide) rfl ?_
  refine v_iload_n (j := 1) C dX8_far_20 rfl rfl ?_
  refine v_if_ge (tgt := 29) C dX8_far_21 (by decide) (fun g => ?_) (fun g => ?_)
  · replace h := ite_t g h
    refine v_iload_n (j := 1) C dX8_far_29 rfl rfl ?_
    refine v_sub [0] rfl ?_
    exact J30 y2 y1 h
  · replace h := ite_f g h
    refine v_iload_n (j := 1) C dX8_far_24 rfl rfl ?_
    refine v_ineg C dX8_far_25 ?_
    refine v_pc (pc' := 26) rfl ?_
    refine v_goto (tgt := 30) C dX8_far_26 (by decide) ?_
    refine v_sub [0] rfl ?_
    exact J30 y2 (-y1) h
def j_X8_powerOf_95 (M : Mem) (x3 : Int32) (x4 : Int32) (s0 : Int32) : Option Int32 :=
  if x4 = 3 then (if 0 < x3 then (some 0) else (if 0 ≤ s0 then (some s0) else (some 0))) else (if 0 ≤ s0 then (some s0) else (some 0))
def m_X8_powerOf (M : Mem) (x1 : Int32) (x2 : Int32) : Option Int32 :=
  chk (inB x1 5) ((m_X8_far M (M 245 x1.toNatClampNeg) x2).bind fun r2 => chk (inB (5 + x1) 39) (nm (M 239 (5 + x1).toNatClampNeg) fun y4 => chk (inB (10 + x1) 39) (nm (M 239 (10 + x1).toNatClampNeg) fun y6 => if y4 = 5 then (j_X8_powerOf_95 M r2 y4 (y6 * (3 - r2))) else (if y4 = 4 then (j_X8_powerOf_95 M r2 y4 (y6 * (2 - r2))) else (if y4 = 2 then (j_X8_powerOf_95 M r2 y4 (((2 * y6) * (2 - r2)) - (M 234 21))) else (j_X8_powerOf_95 M r2 y4 ((y6 * (2 - r2)) - (M 234 21))))))))
set_option maxHeartbeats 4000000 in
set_option maxRecDepth 100000 in
theorem c_X8_powerOf (l : Launch) (D : va_G) (cA : cAt) (B : Nat) (aK aV : Nat → Nat) (M : Mem) (x1 : Int32) (x2 : Int32) (R : Int32) (h : m_X8_powerOf M x1 x2 = some R) : CI l D cA B aK aV yX8_powerOf cX8_powerOf 7 .int 1 [.ref (B + 234), .int x1, .int x2] M R M := by
  refine CI_of (by decide +kernel) (Nat.le_of_ble_eq_true rfl) ?_
  intro p e s m args below meth c C hr hlk
  have C : Cx p (rmd 1) s m args c 0 0 D cA B aK aV cX8_powerOf 7 RX8 := C
  generalize hQ : MQ below _ args s 0 0 _ = Q
  refine v_eq (M' := M) (pc' := 0) (L' := [(0, .ref (B + 234)), (1, .int x1), (2, .int x2)]) (st' := []) ?_
  unfold m_X8_powerOf at h
  have J95 : ∀ (x3 : Int32) (x4 : Int32) (s0 : Int32), j_X8_powerOf_95 M x3 x4 s0 = some R → V p l e (rmd 1) s m args below meth c 0 0 D cA B 7 Q M 95 [(3, .int x3), (4, .int x4)] [.int s0] := by
    intro x3 x4 s0 h
    unfold j_X8_powerOf_95 at h
    refine v_istore (L' := [(6, .int s0), (3, .int x3), (4, .int x4)]) C dX8_powerOf_95 (by decide) rfl ?_
    refine v_iload (j := 2) C dX8_powerOf_97 rfl ?_
    refine v_iconst C dX8_powerOf_99 ct_i_3 ?_
    refine v_icmp_ne (tgt := 107) C dX8_powerOf_100 (by decide) (fun g => ?_) (fun g => ?_)
    · replace h := ite_t g h
      refine v_iload_n (j := 1) C dX8_powerOf_103 rfl rfl ?_
      refine v_if_gt (tgt := 112) C dX8_powerOf_104 (by decide) (fun g => ?_) (fun g => ?_)
      · replace h := ite_t g h
        refine v_iconst C dX8_powerOf_112 ct_i_0 ?_
        refine v_goto (tgt := 118) C dX8_powerOf_113 (by decide) ?_
        replace h := Option.some.inj h; subst h
        subst hQ
        exact v_iret C hr hlk dX8_powerOf_118
      · replace h := ite_f g h
        refine v_pc (pc' := 107) rfl ?_
        refine v_iload (j := 0) C dX8_powerOf_107 rfl ?_
        refine v_if_ge (tgt := 116) C dX8_powerOf_109 (by decide) (fun g => ?_) (fun g => ?_)
        · replace h := ite_t g h
          refine v_iload (j := 0) C dX8_powerOf_116 rfl ?_
          replace h := Option.some.inj h; subst h
          subst hQ
          exact v_iret C hr hlk dX8_powerOf_118
        · replace h := ite_f g h
          refine v_iconst C dX8_powerOf_112 ct_i_0 ?_
          refine v_goto (tgt := 118) C dX8_powerOf_113 (by decide) ?_
          replace h := Option.some.inj h; subst h
          subst hQ
          exact v_iret C hr hlk dX8_powerOf_118
    · replace h := ite_f g h
      refine v_iload (j := 0) C dX8_powerOf_107 rfl ?_
      refine v_if_ge (tgt := 116) C dX8_powerOf_109 (by decide) (fun g => ?_) (fun g => ?_)
      · replace h := ite_t g h
        refine v_iload (j := 0) C dX8_powerOf_116 rfl ?_
        replace h := Option.some.inj h; subst h
        subst hQ
        exact v_iret C hr hlk dX8_powerOf_118
      · replace h := ite_f g h
        refine v_iconst C dX8_powerOf_112 ct_i_0 ?_
        refine v_goto (tgt := 118) C dX8_powerOf_113 (by decide) ?_
        replace h := Option.some.inj h; subst h
        subst hQ
        exact v_iret C hr hlk dX8_powerOf_118
  refine v_aload_nR (j := 0) C dX8_powerOf_0 rfl rfl ?_
  refine gf_X8_41 C ks_234 dX8_powerOf_1 ?_
  refine v_iload_n (j := 1) C dX8_powerOf_4 rfl rfl ?_
  replace h := chk_some h; obtain ⟨g1, h⟩ := h
  refine v_iald C ks_245 (inB_vp g1) dX8_powerOf_5 ?_
  refine v_iload_n (j := 2) C dX8_powerOf_6 rfl rfl ?_
  replace h := bind_ex h; obtain ⟨r2, hr2, h⟩ := h
  refine cs_I C tw_1112 tw_111 tw_1110 tw_1111 pd_X8_far (Nat.le_of_ble_eq_true rfl) (Nat.le_of_ble_eq_true rfl) (As := [.int (M 245 x1.toNatClampNeg), .int x2]) (rest := []) rfl rfl (Nat.le_of_ble_eq_true rfl) (c_X8_far l D cA B aK aV M (M 245 x1.toNatClampNeg) x2 r2 hr2) dX8_powerOf_7 ?_
  refine v_pc (pc' := 10) rfl ?_
  refine v_istore_n (L' := [(3, .int r2), (0, .ref (B + 234)), (1, .int x1), (2, .int x2)]) C dX8_powerOf_10 rfl (by decide) rfl ?_
  refine v_aload_nR (j := 1) C dX8_powerOf_11 rfl rfl ?_
  refine gf_X8_22 C ks_234 dX8_powerOf_12 ?_
  refine v_iconst C dX8_powerOf_15 ct_i_5 ?_
  refine v_iload_n (j := 2) C dX8_powerOf_16 rfl rfl ?_
  refine v_iadd C dX8_powerOf_17 ?_
  replace h := chk_some h; obtain ⟨g3, h⟩ := h
  refine v_iald C ks_239 (inB_vp g3) dX8_powerOf_18 ?_
  refine v_pc (pc' := 19) rfl ?_
  replace h := nm_ex h; obtain ⟨y4, ey4, h⟩ := h
  refine v_topI ey4 ?_
  refine v_istore (L' := [(4, .int y4), (3, .int r2), (0, .ref (B + 234)), (1, .int x1), (2, .int x2)]) C dX8_powerOf_19 (by decide) rfl ?_
  refine v_aload_nR (j := 2) C dX8_powerOf_21 rfl rfl ?_
  refine gf_X8_22 C ks_234 dX8_powerOf_22 ?_
  refine v_bipush C dX8_powerOf_25 ct_b_10 ?_
  refine v_iload_n (j := 3) C dX8_powerOf_27 rfl rfl ?_
  refine v_iadd C dX8_powerOf_28 ?_
  replace h := chk_some h; obtain ⟨g5, h⟩ := h
  refine v_iald C ks_239 (inB_vp g5) dX8_powerOf_29 ?_
  refine v_pc (pc' := 30) rfl ?_
  replace h := nm_ex h; obtain ⟨y6, ey6, h⟩ := h
  refine v_topI ey6 ?_
  refine v_istore (L' := [(5, .int y6), (4, .int y4), (3, .int r2), (0, .ref (B + 234)), (1, .int x1), (2, .int x2)]) C dX8_powerOf_30 (by decide) rfl ?_
  refine v_iload (j := 1) C dX8_powerOf_32 rfl ?_
  refine v_iconst C dX8_powerOf_34 ct_i_5 ?_
  refine v_icmp_ne (tgt := 47) C dX8_powerOf_35 (by decide) (fun g => ?_) (fun g => ?_)
  · replace h := ite_t g h
    refine v_iload (j := 0) C dX8_powerOf_38 rfl ?_
    refine v_iconst C dX8_powerOf_40 ct_i_3 ?_
    refine v_iload_n (j := 2) C dX8_powerOf_41 rfl rfl ?_
    refine v_pc (pc' := 42) rfl ?_
    refine v_isub C dX8_powerOf_42 ?_
    refine v_imul C dX8_powerOf_43 ?_
    refine v_goto (tgt := 95) C dX8_powerOf_44 (by decide) ?_
    refine v_sub [2, 1] rfl ?_
    exact J95 r2 y4 (y6 * (3 - r2)) h
  · replace h := ite_f g h
    refine v_iload (j := 1) C dX8_powerOf_47 rfl ?_
    refine v_iconst C dX8_powerOf_49 ct_i_4 ?_
    refine v_icmp_ne (tgt := 62) C dX8_powerOf_50 (by decide) (fun g => ?_) (fun g => ?_)
    · replace h := ite_t g h
      refine v_iload (j := 0) C dX8_powerOf_53 rfl ?_
      refine v_iconst C dX8_powerOf_55 ct_i_2 ?_
      refine v_iload_n (j := 2) C dX8_powerOf_56 rfl rfl ?_
      refine v_pc (pc' := 57) rfl ?_
      refine v_isub C dX8_powerOf_57 ?_
      refine v_imul C dX8_powerOf_58 ?_
      refine v_goto (tgt := 95) C dX8_powerOf_59 (by decide) ?_
      refine v_sub [2, 1] rfl ?_
      exact J95 r2 y4 (y6 * (2 - r2)) h
    · replace h := ite_f g h
      refine v_iload (j := 1) C dX8_powerOf_62 rfl ?_
      refine v_iconst C dX8_powerOf_64 ct_i_2 ?_
      refine v_icmp_ne (tgt := 84) C dX8_powerOf_65 (by decide) (fun g => ?_) (fun g => ?_)
      · replace h := ite_t g h
        refine v_iconst C dX8_powerOf_68 ct_i_2 ?_
        refine v_iload (j := 0) C dX8_powerOf_69 rfl ?_
        refine v_imul C dX8_powerOf_71 ?_
        refine v_pc (pc' := 72) rfl ?_
        refine v_iconst C dX8_powerOf_72 ct_i_2 ?_
        refine v_iload_n (j := 2) C dX8_powerOf_73 rfl rfl ?_
        refine v_isub C dX8_powerOf_74 ?_
        refine v_imul C dX8_powerOf_75 ?_
        refine v_aload_nR (j := 3) C dX8_powerOf_76 rfl rfl ?_
        refine gf_X8_172 C ks_234 dX8_powerOf_77 ?_
        refine v_isub C dX8_powerOf_80 ?_
        refine v_pc (pc' := 81) rfl ?_
        refine v_goto (tgt := 95) C dX8_powerOf_81 (by decide) ?_
        refine v_sub [2, 1] rfl ?_
        exact J95 r2 y4 (((2 * y6) * (2 - r2)) - (M 234 21)) h
      · replace h := ite_f g h
        refine v_iload (j := 0) C dX8_powerOf_84 rfl ?_
        refine v_iconst C dX8_powerOf_86 ct_i_2 ?_
        refine v_iload_n (j := 2) C dX8_powerOf_87 rfl rfl ?_
        refine v_isub C dX8_powerOf_88 ?_
        refine v_imul C dX8_powerOf_89 ?_
        refine v_aload_nR (j := 3) C dX8_powerOf_90 rfl rfl ?_
        refine v_pc (pc' := 91) rfl ?_
        refine gf_X8_172 C ks_234 dX8_powerOf_91 ?_
        refine v_isub C dX8_powerOf_94 ?_
        refine v_sub [2, 1] rfl ?_
        exact J95 r2 y4 ((y6 * (2 - r2)) - (M 234 21)) h
def j_X8_pickerOf_53 (M : Mem) (x1 : Int32) (x3 : Int32) (x4 : Int32) (x5 : Int32) (s0 : Int32) : Option ((Int32 × Int32 × Int32) ⊕ Int32) :=
  if x5 ≤ x3 then (some (.inl (s0, x3, x4 + 1))) else (some (.inl (s0, x5, x4 + 1)))
def b_X8_pickerOf_8 (M : Mem) (x1 : Int32) (x2 : Int32) (x3 : Int32) (x4 : Int32) : Option ((Int32 × Int32 × Int32) ⊕ Int32) :=
  chk (inB 3 39) (if (M 239 (3 : Int32).toNatClampNeg) ≤ x4 then (some (.inr x2)) else (chk (inB 4 39) (if (((M 239 (4 : Int32).toNatClampNeg) >>> (x1 &&& 31)) &&& 1) = 0 then ((m_X8_powerOf M x4 x1).bind fun r3 => if r3 ≤ x3 then (j_X8_pickerOf_53 M x1 x3 x4 r3 x2) else (j_X8_pickerOf_53 M x1 x3 x4 r3 x4)) else (some (.inr x2)))))
def m_X8_pickerOf (M : Mem) (x1 : Int32) : Option Int32 :=
  (loopF (fun z => b_X8_pickerOf_8 M x1 z.1 z.2.1 z.2.2) FUEL ((-1000000), 0, 0)).bind fun z4 => some z4
set_option maxHeartbeats 4000000 in
set_option maxRecDepth 100000 in
theorem c_X8_pickerOf (l : Launch) (D : va_G) (cA : cAt) (B : Nat) (aK aV : Nat → Nat) (M : Mem) (x1 : Int32) (R : Int32) (h : m_X8_pickerOf M x1 = some R) : CI l D cA B aK aV yX8_pickerOf cX8_pickerOf 6 .int 2 [.ref (B + 234), .int x1] M R M := by
  refine CI_of (by decide +kernel) (Nat.le_of_ble_eq_true rfl) ?_
  intro p e s m args below meth c C hr hlk
  have C : Cx p (rmd 2) s m args c 0 0 D cA B aK aV cX8_pickerOf 6 RX8 := C
  generalize hQ : MQ below _ args s 0 0 _ = Q
  refine v_eq (M' := M) (pc' := 0) (L' := [(0, .ref (B + 234)), (1, .int x1)]) (st' := []) ?_
  unfold m_X8_pickerOf at h
  refine v_ldc C tw_1105 dX8_pickerOf_0 ?_
  refine v_istore_n (L' := [(2, .int (-1000000)), (0, .ref (B + 234)), (1, .int x1)]) C dX8_pickerOf_2 rfl (by decide) rfl ?_
  refine v_iconst C dX8_pickerOf_3 ct_i_0 ?_
  refine v_istore_n (L' := [(3, .int 0), (2, .int (-1000000)), (0, .ref (B + 234)), (1, .int x1)]) C dX8_pickerOf_4 rfl (by decide) rfl ?_
  refine v_iconst C dX8_pickerOf_5 ct_i_0 ?_
  refine v_istore (L' := [(4, .int 0), (3, .int 0), (2, .int (-1000000)), (0, .ref (B + 234)), (1, .int x1)]) C dX8_pickerOf_6 (by decide) rfl ?_
  have LB8 : ∀  (x2 : Int32) (x3 : Int32) (x4 : Int32) (o8 : (Int32 × Int32 × Int32) ⊕ Int32) (h : b_X8_pickerOf_8 M x1 x2 x3 x4 = some o8) (hc8 : ∀ z : Int32 × Int32 × Int32, o8 = .inl z → V p l e (rmd 2) s m args below meth c 0 0 D cA B 6 Q M 8 [(0, .ref (B + 234)), (1, .int x1), (2, .int z.1), (3, .int z.2.1), (4, .int z.2.2)] []) (he8 : ∀ z : Int32, o8 = .inr z → V p l e (rmd 2) s m args below meth c 0 0 D cA B 6 Q M 73 [(2, .int z)] []), V p l e (rmd 2) s m args below meth c 0 0 D cA B 6 Q M 8 [(0, .ref (B + 234)), (1, .int x1), (2, .int x2), (3, .int x3), (4, .int x4)] [] := by
    intro x2 x3 x4 o8 h hc8 he8
    unfold b_X8_pickerOf_8 at h
    have J53 : ∀ (x3 : Int32) (x4 : Int32) (x5 : Int32) (s0 : Int32), j_X8_pickerOf_53 M x1 x3 x4 x5 s0 = some o8 → V p l e (rmd 2) s m args below meth c 0 0 D cA B 6 Q M 53 [(0, .ref (B + 234)), (1, .int x1), (3, .int x3), (4, .int x4), (5, .int x5)] [.int s0] := by
      intro x3 x4 x5 s0 h
      unfold j_X8_pickerOf_53 at h
      refine v_istore_n (L' := [(2, .int s0), (0, .ref (B + 234)), (1, .int x1), (3, .int x3), (4, .int x4), (5, .int x5)]) C dX8_pickerOf_53 rfl (by decide) rfl ?_
      refine v_iload (j := 5) C dX8_pickerOf_54 rfl ?_
      refine v_iload_n (j := 3) C dX8_pickerOf_56 rfl rfl ?_
      refine v_icmp_le (tgt := 65) C dX8_pickerOf_57 (by decide) (fun g => ?_) (fun g => ?_)
      · replace h := ite_t g h
        refine v_iload_n (j := 3) C dX8_pickerOf_65 rfl rfl ?_
        refine v_istore_n (L' := [(3, .int x3), (2, .int s0), (0, .ref (B + 234)), (1, .int x1), (4, .int x4), (5, .int x5)]) C dX8_pickerOf_66 rfl (by decide) rfl ?_
        refine v_iinc (j := 4) (L' := [(4, .int (x4 + 1)), (3, .int x3), (2, .int s0), (0, .ref (B + 234)), (1, .int x1), (5, .int x5)]) C dX8_pickerOf_67 rfl (congrArg (fun z => _ + z) ct_i_1) (by decide) rfl ?_
        refine v_goto (tgt := 8) C dX8_pickerOf_70 (by decide) ?_
        replace h := Option.some.inj h; subst h
        refine v_sub [3, 4, 2, 1, 0] rfl ?_
        exact hc8 (s0, x3, x4 + 1) rfl
      · replace h := ite_f g h
        refine v_iload (j := 5) C dX8_pickerOf_60 rfl ?_
        refine v_goto (tgt := 66) C dX8_pickerOf_62 (by decide) ?_
        refine v_istore_n (L' := [(3, .int x5), (2, .int s0), (0, .ref (B + 234)), (1, .int x1), (4, .int x4), (5, .int x5)]) C dX8_pickerOf_66 rfl (by decide) rfl ?_
        refine v_iinc (j := 4) (L' := [(4, .int (x4 + 1)), (3, .int x5), (2, .int s0), (0, .ref (B + 234)), (1, .int x1), (5, .int x5)]) C dX8_pickerOf_67 rfl (congrArg (fun z => _ + z) ct_i_1) (by decide) rfl ?_
        refine v_goto (tgt := 8) C dX8_pickerOf_70 (by decide) ?_
        replace h := Option.some.inj h; subst h
        refine v_sub [3, 4, 2, 1, 0] rfl ?_
        exact hc8 (s0, x5, x4 + 1) rfl
    refine v_iload (j := 4) C dX8_pickerOf_8 rfl ?_
    refine v_aload_nR (j := 0) C dX8_pickerOf_10 rfl rfl ?_
    refine gf_X8_22 C ks_234 dX8_pickerOf_11 ?_
    refine v_iconst C dX8_pickerOf_14 ct_i_3 ?_
    replace h := chk_some h; obtain ⟨g1, h⟩ := h
    refine v_iald C ks_239 (inB_vp g1) dX8_pickerOf_15 ?_
    refine v_icmp_ge (tgt := 73) C dX8_pickerOf_16 (by decide) (fun g => ?_) (fun g => ?_)
    · replace h := ite_t g h
      replace h := Option.some.inj h; subst h
      refine v_sub [2] rfl ?_
      exact he8 x2 rfl
    · replace h := ite_f g h
      refine v_pc (pc' := 19) rfl ?_
      refine v_aload_nR (j := 0) C dX8_pickerOf_19 rfl rfl ?_
      refine gf_X8_22 C ks_234 dX8_pickerOf_20 ?_
      refine v_iconst C dX8_pickerOf_23 ct_i_4 ?_
      replace h := chk_some h; obtain ⟨g2, h⟩ := h
      refine v_iald C ks_239 (inB_vp g2) dX8_pickerOf_24 ?_
      refine v_iload_n (j := 1) C dX8_pickerOf_25 rfl rfl ?_
      refine v_ishr C dX8_pickerOf_26 ?_
      refine v_iconst C dX8_pickerOf_27 ct_i_1 ?_
      refine v_pc (pc' := 28) rfl ?_
      refine v_iand C dX8_pickerOf_28 ?_
      refine v_if_ne (tgt := 73) C dX8_pickerOf_29 (by decide) (fun g => ?_) (fun g => ?_)
      · replace h := ite_t g h
        refine v_aload_nR (j := 0) C dX8_pickerOf_32 rfl rfl ?_
        refine v_iload (j := 4) C dX8_pickerOf_33 rfl ?_
        refine v_iload_n (j := 1) C dX8_pickerOf_35 rfl rfl ?_
        replace h := bind_ex h; obtain ⟨r3, hr3, h⟩ := h
        refine cv_I C tw_1109 tw_111 tw_1106 tw_1108 tw_89 pd_X8_powerOf (Nat.le_of_ble_eq_true rfl) (Nat.le_of_ble_eq_true rfl) (q := 234) (kd_lt ks_234 (by decide)) (sh8 ks_234) rfl (As := [.int x4, .int x1]) (rest := []) rfl rfl (Nat.le_of_ble_eq_true rfl) (c_X8_powerOf l D cA B aK aV M x4 x1 r3 hr3) dX8_pickerOf_36 ?_
        refine v_istore (L' := [(5, .int r3), (0, .ref (B + 234)), (1, .int x1), (2, .int x2), (3, .int x3), (4, .int x4)]) C dX8_pickerOf_39 (by decide) rfl ?_
        refine v_pc (pc' := 41) rfl ?_
        refine v_iload (j := 0) C dX8_pickerOf_41 rfl ?_
        refine v_iload_n (j := 4) C dX8_pickerOf_43 rfl rfl ?_
        refine v_icmp_le (tgt := 52) C dX8_pickerOf_44 (by decide) (fun g => ?_) (fun g => ?_)
        · replace h := ite_t g h
          refine v_iload_n (j := 3) C dX8_pickerOf_52 rfl rfl ?_
          refine v_sub [1, 2, 4, 5, 0] rfl ?_
          exact J53 x3 x4 r3 x2 h
        · replace h := ite_f g h
          refine v_iload (j := 5) C dX8_pickerOf_47 rfl ?_
          refine v_goto (tgt := 53) C dX8_pickerOf_49 (by decide) ?_
          refine v_sub [1, 2, 4, 5, 0] rfl ?_
          exact J53 x3 x4 r3 x4 h
      · replace h := ite_f g h
        replace h := Option.some.inj h; subst h
        refine v_sub [2] rfl ?_
        exact he8 x2 rfl
  replace h := bind_ex h; obtain ⟨z4, hz4, h⟩ := h
  refine v_sub [3, 4, 2, 1, 0] rfl ?_
  refine loopF_walk (Pσ := fun z => V p l e (rmd 2) s m args below meth c 0 0 D cA B 6 Q M 8 [(0, .ref (B + 234)), (1, .int x1), (2, .int z.1), (3, .int z.2.1), (4, .int z.2.2)] []) (Pρ := fun y => V p l e (rmd 2) s m args below meth c 0 0 D cA B 6 Q M 73 [(2, .int y)] []) ?_ FUEL ((-1000000), 0, 0) z4 hz4 ?_
  · intro z o hb hc he
    exact LB8 z.1 z.2.1 z.2.2 o hb hc he
  · refine v_iload_n (j := 0) C dX8_pickerOf_73 rfl rfl ?_
    replace h := Option.some.inj h; subst h
    subst hQ
    exact v_iret C hr hlk dX8_pickerOf_74
def b_X8_laysPicks_2 (M : Mem) (x1 : Int32) : Option ((Int32 × Mem) ⊕ Mem) :=
  if 30 ≤ x1 then (some (.inr M)) else ((m_X8_pickerOf M x1).bind fun r1 => chk (inB x1 30) (nm (mset M 246 x1.toNatClampNeg r1) fun M3 => some (.inl (x1 + 1, M3))))
def m_X8_laysPicks (M : Mem) : Option Mem :=
  (loopF (fun z => b_X8_laysPicks_2 z.2 z.1) FUEL (0, M)).bind fun z4 => some z4
set_option maxHeartbeats 4000000 in
set_option maxRecDepth 100000 in
theorem c_X8_laysPicks (l : Launch) (D : va_G) (cA : cAt) (B : Nat) (aK aV : Nat → Nat) (M : Mem) (R : Mem) (h : m_X8_laysPicks M = some R) : CV l D cA B aK aV yX8_laysPicks cX8_laysPicks 2 3 [.ref (B + 234)] M R := by
  refine CV_of (by decide +kernel) (Nat.le_of_ble_eq_true rfl) ?_
  intro p e s m args below meth c C hr hlk
  have C : Cx p (rmd 3) s m args c 0 0 D cA B aK aV cX8_laysPicks 2 RX8 := C
  generalize hQ : MQ below _ args s 0 0 _ = Q
  refine v_eq (M' := M) (pc' := 0) (L' := [(0, .ref (B + 234))]) (st' := []) ?_
  unfold m_X8_laysPicks at h
  refine v_iconst C dX8_laysPicks_0 ct_i_0 ?_
  refine v_istore_n (L' := [(1, .int 0), (0, .ref (B + 234))]) C dX8_laysPicks_1 rfl (by decide) rfl ?_
  have LB2 : ∀ (M : Mem) (x1 : Int32) (o2 : (Int32 × Mem) ⊕ Mem) (h : b_X8_laysPicks_2 M x1 = some o2) (hc2 : ∀ z : Int32 × Mem, o2 = .inl z → V p l e (rmd 3) s m args below meth c 0 0 D cA B 2 Q z.2 2 [(0, .ref (B + 234)), (1, .int z.1)] []) (he2 : ∀ z : Mem, o2 = .inr z → V p l e (rmd 3) s m args below meth c 0 0 D cA B 2 Q z 25 [] []), V p l e (rmd 3) s m args below meth c 0 0 D cA B 2 Q M 2 [(0, .ref (B + 234)), (1, .int x1)] [] := by
    intro M x1 o2 h hc2 he2
    unfold b_X8_laysPicks_2 at h
    refine v_iload_n (j := 1) C dX8_laysPicks_2 rfl rfl ?_
    refine v_bipush C dX8_laysPicks_3 ct_b_30 ?_
    refine v_icmp_ge (tgt := 25) C dX8_laysPicks_5 (by decide) (fun g => ?_) (fun g => ?_)
    · replace h := ite_t g h
      replace h := Option.some.inj h; subst h
      refine v_sub [] rfl ?_
      exact he2 M rfl
    · replace h := ite_f g h
      refine v_aload_nR (j := 0) C dX8_laysPicks_8 rfl rfl ?_
      refine gf_X8_44 C ks_234 dX8_laysPicks_9 ?_
      refine v_iload_n (j := 1) C dX8_laysPicks_12 rfl rfl ?_
      refine v_pc (pc' := 13) rfl ?_
      refine v_aload_nR (j := 0) C dX8_laysPicks_13 rfl rfl ?_
      refine v_iload_n (j := 1) C dX8_laysPicks_14 rfl rfl ?_
      replace h := bind_ex h; obtain ⟨r1, hr1, h⟩ := h
      refine cv_I C tw_1104 tw_111 tw_1101 tw_1103 tw_88 pd_X8_pickerOf (Nat.le_of_ble_eq_true rfl) (Nat.le_of_ble_eq_true rfl) (q := 234) (kd_lt ks_234 (by decide)) (sh8 ks_234) rfl (As := [.int x1]) (rest := [.int x1, .ref (B + 246)]) rfl rfl (Nat.le_of_ble_eq_true rfl) (c_X8_pickerOf l D cA B aK aV M x1 r1 hr1) dX8_laysPicks_15 ?_
      replace h := chk_some h; obtain ⟨g2, h⟩ := h
      replace h := nm_ex h; obtain ⟨M3, eM3, h⟩ := h
      refine v_iast C ks_246 (inB_vp g2) dX8_laysPicks_18 ?_
      refine v_mem eM3 ?_
      refine v_iinc (j := 1) (L' := [(1, .int (x1 + 1)), (0, .ref (B + 234))]) C dX8_laysPicks_19 rfl (congrArg (fun z => _ + z) ct_i_1) (by decide) rfl ?_
      refine v_goto (tgt := 2) C dX8_laysPicks_22 (by decide) ?_
      replace h := Option.some.inj h; subst h
      refine v_sub [1, 0] rfl ?_
      exact hc2 (x1 + 1, M3) rfl
  replace h := bind_ex h; obtain ⟨z4, hz4, h⟩ := h
  refine v_sub [1, 0] rfl ?_
  refine loopF_walk (Pσ := fun z => V p l e (rmd 3) s m args below meth c 0 0 D cA B 2 Q z.2 2 [(0, .ref (B + 234)), (1, .int z.1)] []) (Pρ := fun y => V p l e (rmd 3) s m args below meth c 0 0 D cA B 2 Q y 25 [] []) ?_ FUEL (0, M) z4 hz4 ?_
  · intro z o hb hc he
    exact LB2 z.2 z.1 o hb hc he
  · replace h := Option.some.inj h; subst h
    subst hQ
    exact v_vret C hr hlk dX8_laysPicks_25
