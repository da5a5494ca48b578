def j_X8_copy_155 (M : Mem) (x1 : Int32) (x2 : Int32) (x3 : Int32) (x4 : Int32) (x5 : Int32) (x6 : Int32) (s0 : Int32) : Option ((Int32 × Mem) ⊕ Mem) :=
  chk (inB (((40 * x1) + x2) + s0) 320) (chk (inB (((40 * x3) + x4) + s0) 320) (nm (mset M 237 (((40 * x3) + x4) + s0).toNatClampNeg (M 237 (((40 * x1) + x2) + s0).toNatClampNeg)) fun M16 => some (.inl (x6 + 1, M16))))
def b_X8_copy_130 (M : Mem) (x1 : Int32) (x2 : Int32) (x3 : Int32) (x4 : Int32) (x5 : Int32) (x6 : Int32) : Option ((Int32 × Mem) ⊕ Mem) :=
  if x5 ≤ x6 then (some (.inr M)) else (if x4 ≤ x2 then (j_X8_copy_155 M x1 x2 x3 x4 x5 x6 x6) else (j_X8_copy_155 M x1 x2 x3 x4 x5 x6 ((x5 - 1) - x6)))
def m_X8_copy (M : Mem) (x1 : Int32) (x2 : Int32) (x3 : Int32) (x4 : Int32) (x5 : Int32) : Option (Int32 × Mem) :=
  (m_X8_in M x1.toInt64 0 7).bind fun r1 => if r1 = 0 then (some (((-1000001), M))) else ((m_X8_in M x3.toInt64 0 7).bind fun r2 => if r2 = 0 then (some (((-1000001), M))) else (chk (inB x1 8) (if (M 235 x1.toNatClampNeg) < 0 then ((m_X8_finds M 1).bind fun r4 => some ((r4.1, r4.2))) else (chk (inB x3 8) (if 0 ≤ (M 235 x3.toNatClampNeg) then (chk (inB x1 8) (chk (inB x3 8) (if (M 235 x1.toNatClampNeg) = (M 235 x3.toNatClampNeg) then (if x2 < 0 then ((m_X8_finds M 2).bind fun r8 => some ((r8.1, r8.2))) else (if x4 < 0 then ((m_X8_finds M 2).bind fun r9 => some ((r9.1, r9.2))) else (if x5 < 0 then ((m_X8_finds M 2).bind fun r10 => some ((r10.1, r10.2))) else (chk (inB x1 8) (if 0 < (lg_cmp (x2.toInt64 + x5.toInt64) ((M 236 x1.toNatClampNeg).toInt64)) then ((m_X8_finds M 2).bind fun r12 => some ((r12.1, r12.2))) else (chk (inB x3 8) (if (lg_cmp (x4.toInt64 + x5.toInt64) ((M 236 x3.toNatClampNeg).toInt64)) ≤ 0 then ((loopF (fun z => b_X8_copy_130 z.2 x1 x2 x3 x4 x5 z.1) FUEL (0, M)).bind fun z17 => (m_X8_well z17 x5).bind fun r18 => some ((r18.1, r18.2))) else ((m_X8_finds M 2).bind fun r19 => some ((r19.1, r19.2)))))))))) else ((m_X8_finds M 5).bind fun r20 => some ((r20.1, r20.2)))))) else ((m_X8_finds M 1).bind fun r21 => some ((r21.1, r21.2))))))))
set_option maxHeartbeats 4000000 in
set_option maxRecDepth 100000 in
theorem c_X8_copy (l : Launch) (D : va_G) (cA : cAt) (B : Nat) (aK aV : Nat → Nat) (M : Mem) (x1 : Int32) (x2 : Int32) (x3 : Int32) (x4 : Int32) (x5 : Int32) (R : Int32 × Mem) (h : m_X8_copy M x1 x2 x3 x4 x5 = some R) : CI l D cA B aK aV yX8_copy cX8_copy 8 .int 1 [.ref (B + 234), .int x1, .int x2, .int x3, .int x4, .int x5] M R.1 R.2 := by
  refine CI_of (by decide +kernel) (Nat.le_of_ble_eq_true rfl) ?_
  intro p e s m args below meth c C hr hlk
  have C : Cx p (rmd 1) s m args c 0 0 D cA B aK aV cX8_copy 8 RX8 := C
  generalize hQ : MQ below _ args s 0 0 _ = Q
  refine v_eq (M' := M) (pc' := 0) (L' := [(0, .ref (B + 234)), (1, .int x1), (2, .int x2), (3, .int x3), (4, .int x4), (5, .int x5)]) (st' := []) ?_
  unfold m_X8_copy at h
  refine v_iload_n (j := 1) C dX8_copy_0 rfl rfl ?_
  refine v_i2l C dX8_copy_1 ?_
  refine v_lconst (v := 0) C dX8_copy_2 rfl ?_
  refine v_ldc2 C tw_976 dX8_copy_3 ?_
  replace h := bind_ex h; obtain ⟨r1, hr1, h⟩ := h
  refine cs_I C tw_979 tw_111 tw_977 tw_978 pd_X8_in (Nat.le_of_ble_eq_true rfl) (Nat.le_of_ble_eq_true rfl) (As := [.long x1.toInt64, .long 0, .long 7]) (rest := []) rfl rfl (Nat.le_of_ble_eq_true rfl) (c_X8_in l D cA B aK aV M x1.toInt64 0 7 r1 hr1) dX8_copy_6 ?_
  refine v_if_eq (tgt := 24) C dX8_copy_9 (by decide) (fun g => ?_) (fun g => ?_)
  · replace h := ite_t g h
    refine v_ldc C tw_981 dX8_copy_24 ?_
    replace h := Option.some.inj h; subst h
    subst hQ
    exact v_iret C hr hlk dX8_copy_26
  · replace h := ite_f g h
    refine v_pc (pc' := 12) rfl ?_
    refine v_iload_n (j := 3) C dX8_copy_12 rfl rfl ?_
    refine v_i2l C dX8_copy_13 ?_
    refine v_lconst (v := 0) C dX8_copy_14 rfl ?_
    refine v_ldc2 C tw_976 dX8_copy_15 ?_
    replace h := bind_ex h; obtain ⟨r2, hr2, h⟩ := h
    refine cs_I C tw_979 tw_111 tw_977 tw_978 pd_X8_in (Nat.le_of_ble_eq_true rfl) (Nat.le_of_ble_eq_true rfl) (As := [.long x3.toInt64, .long 0, .long 7]) (rest := []) rfl rfl (Nat.le_of_ble_eq_true rfl) (c_X8_in l D cA B aK aV M x3.toInt64 0 7 r2 hr2) dX8_copy_18 ?_
    refine v_if_ne (tgt := 27) C dX8_copy_21 (by decide) (fun g => ?_) (fun g => ?_)
    · replace h := ite_t g h
      refine v_ldc C tw_981 dX8_copy_24 ?_
      refine v_pc (pc' := 26) rfl ?_
      replace h := Option.some.inj h; subst h
      subst hQ
      exact v_iret C hr hlk dX8_copy_26
    · replace h := ite_f g h
      refine v_aload_nR (j := 0) C dX8_copy_27 rfl rfl ?_
      refine gf_X8_7 C ks_234 dX8_copy_28 ?_
      refine v_iload_n (j := 1) C dX8_copy_31 rfl rfl ?_
      replace h := chk_some h; obtain ⟨g3, h⟩ := h
      refine v_iald C ks_235 (inB_vp g3) dX8_copy_32 ?_
      refine v_if_lt (tgt := 45) C dX8_copy_33 (by decide) (fun g => ?_) (fun g => ?_)
      · replace h := ite_t g h
        refine v_aload_nR (j := 0) C dX8_copy_45 rfl rfl ?_
        refine v_iconst C dX8_copy_46 ct_i_1 ?_
        replace h := bind_ex h; obtain ⟨r4, hr4, h⟩ := h
        refine cv_I C tw_985 tw_111 tw_982 tw_984 tw_73 pd_X8_finds (Nat.le_of_ble_eq_true rfl) (Nat.le_of_ble_eq_true rfl) (q := 234) (kd_lt ks_234 (by decide)) (sh8 ks_234) rfl (As := [.int 1]) (rest := []) rfl rfl (Nat.le_of_ble_eq_true rfl) (c_X8_finds l D cA B aK aV M 1 r4 hr4) dX8_copy_47 ?_
        replace h := Option.some.inj h; subst h
        subst hQ
        exact v_iret C hr hlk dX8_copy_50
      · replace h := ite_f g h
        refine v_aload_nR (j := 0) C dX8_copy_36 rfl rfl ?_
        refine v_pc (pc' := 37) rfl ?_
        refine gf_X8_7 C ks_234 dX8_copy_37 ?_
        refine v_iload_n (j := 3) C dX8_copy_40 rfl rfl ?_
        replace h := chk_some h; obtain ⟨g5, h⟩ := h
        refine v_iald C ks_235 (inB_vp g5) dX8_copy_41 ?_
        refine v_if_ge (tgt := 51) C dX8_copy_42 (by decide) (fun g => ?_) (fun g => ?_)
        · replace h := ite_t g h
          refine v_aload_nR (j := 0) C dX8_copy_51 rfl rfl ?_
          refine gf_X8_7 C ks_234 dX8_copy_52 ?_
          refine v_iload_n (j := 1) C dX8_copy_55 rfl rfl ?_
          replace h := chk_some h; obtain ⟨g6, h⟩ := h
          refine v_iald C ks_235 (inB_vp g6) dX8_copy_56 ?_
          refine v_aload_nR (j := 0) C dX8_copy_57 rfl rfl ?_
          refine gf_X8_7 C ks_234 dX8_copy_58 ?_
          refine v_pc (pc' := 61) rfl ?_
          refine v_iload_n (j := 3) C dX8_copy_61 rfl rfl ?_
          replace h := chk_some h; obtain ⟨g7, h⟩ := h
          refine v_iald C ks_235 (inB_vp g7) dX8_copy_62 ?_
          refine v_icmp_eq (tgt := 72) C dX8_copy_63 (by decide) (fun g => ?_) (fun g => ?_)
          · replace h := ite_t g h
            refine v_iload_n (j := 2) C dX8_copy_72 rfl rfl ?_
            refine v_if_lt (tgt := 121) C dX8_copy_73 (by decide) (fun g => ?_) (fun g => ?_)
            · replace h := ite_t g h
              refine v_aload_nR (j := 0) C dX8_copy_121 rfl rfl ?_
              refine v_iconst C dX8_copy_122 ct_i_2 ?_
              replace h := bind_ex h; obtain ⟨r8, hr8, h⟩ := h
              refine cv_I C tw_985 tw_111 tw_982 tw_984 tw_73 pd_X8_finds (Nat.le_of_ble_eq_true rfl) (Nat.le_of_ble_eq_true rfl) (q := 234) (kd_lt ks_234 (by decide)) (sh8 ks_234) rfl (As := [.int 2]) (rest := []) rfl rfl (Nat.le_of_ble_eq_true rfl) (c_X8_finds l D cA B aK aV M 2 r8 hr8) dX8_copy_123 ?_
              replace h := Option.some.inj h; subst h
              subst hQ
              exact v_iret C hr hlk dX8_copy_126
            · replace h := ite_f g h
              refine v_iload (j := 4) C dX8_copy_76 rfl ?_
              refine v_if_lt (tgt := 121) C dX8_copy_78 (by decide) (fun g => ?_) (fun g => ?_)
              · replace h := ite_t g h
                refine v_aload_nR (j := 0) C dX8_copy_121 rfl rfl ?_
                refine v_iconst C dX8_copy_122 ct_i_2 ?_
                replace h := bind_ex h; obtain ⟨r9, hr9, h⟩ := h
                refine cv_I C tw_985 tw_111 tw_982 tw_984 tw_73 pd_X8_finds (Nat.le_of_ble_eq_true rfl) (Nat.le_of_ble_eq_true rfl) (q := 234) (kd_lt ks_234 (by decide)) (sh8 ks_234) rfl (As := [.int 2]) (rest := []) rfl rfl (Nat.le_of_ble_eq_true rfl) (c_X8_finds l D cA B aK aV M 2 r9 hr9) dX8_copy_123 ?_
                replace h := Option.some.inj h; subst h
                subst hQ
                exact v_iret C hr hlk dX8_copy_126
              · replace h := ite_f g h
                refine v_iload (j := 5) C dX8_copy_81 rfl ?_
                refine v_if_lt (tgt := 121) C dX8_copy_83 (by decide) (fun g => ?_) (fun g => ?_)
                · replace h := ite_t g h
                  refine v_aload_nR (j := 0) C dX8_copy_121 rfl rfl ?_
                  refine v_iconst C dX8_copy_122 ct_i_2 ?_
                  replace h := bind_ex h; obtain ⟨r10, hr10, h⟩ := h
                  refine cv_I C tw_985 tw_111 tw_982 tw_984 tw_73 pd_X8_finds (Nat.le_of_ble_eq_true rfl) (Nat.le_of_ble_eq_true rfl) (q := 234) (kd_lt ks_234 (by decide)) (sh8 ks_234) rfl (As := [.int 2]) (rest := []) rfl rfl (Nat.le_of_ble_eq_true rfl) (c_X8_finds l D cA B aK aV M 2 r10 hr10) dX8_copy_123 ?_
                  replace h := Option.some.inj h; subst h
                  subst hQ
                  exact v_iret C hr hlk dX8_copy_126
                · replace h := ite_f g h
                  refine v_pc (pc' := 86) rfl ?_
                  refine v_iload_n (j := 2) C dX8_copy_86 rfl rfl ?_
                  refine v_i2l C dX8_copy_87 ?_
                  refine v_iload (j := 5) C dX8_copy_88 rfl ?_
                  refine v_i2l C dX8_copy_90 ?_
                  refine v_ladd C dX8_copy_91 ?_
                  refine v_aload_nR (j := 0) C dX8_copy_92 rfl rfl ?_
                  refine gf_X8_13 C ks_234 dX8_copy_93 ?_
                  refine v_pc (pc' := 96) rfl ?_
                  refine v_iload_n (j := 1) C dX8_copy_96 rfl rfl ?_
                  replace h := chk_some h; obtain ⟨g11, h⟩ := h
                  refine v_iald C ks_236 (inB_vp g11) dX8_copy_97 ?_
                  refine v_i2l C dX8_copy_98 ?_
                  refine v_lcmp C dX8_copy_99 ?_
                  refine v_if_gt (tgt := 121) C dX8_copy_100 (by decide) (fun g => ?_) (fun g => ?_)
                  · replace h := ite_t g h
                    refine v_aload_nR (j := 0) C dX8_copy_121 rfl rfl ?_
                    refine v_iconst C dX8_copy_122 ct_i_2 ?_
                    replace h := bind_ex h; obtain ⟨r12, hr12, h⟩ := h
                    refine cv_I C tw_985 tw_111 tw_982 tw_984 tw_73 pd_X8_finds (Nat.le_of_ble_eq_true rfl) (Nat.le_of_ble_eq_true rfl) (q := 234) (kd_lt ks_234 (by decide)) (sh8 ks_234) rfl (As := [.int 2]) (rest := []) rfl rfl (Nat.le_of_ble_eq_true rfl) (c_X8_finds l D cA B aK aV M 2 r12 hr12) dX8_copy_123 ?_
                    replace h := Option.some.inj h; subst h
                    subst hQ
                    exact v_iret C hr hlk dX8_copy_126
                  · replace h := ite_f g h
                    refine v_iload (j := 4) C dX8_copy_103 rfl ?_
                    refine v_i2l C dX8_copy_105 ?_
                    refine v_pc (pc' := 106) rfl ?_
                    refine v_iload (j := 5) C dX8_copy_106 rfl ?_
                    refine v_i2l C dX8_copy_108 ?_
                    refine v_ladd C dX8_copy_109 ?_
                    refine v_aload_nR (j := 0) C dX8_copy_110 rfl rfl ?_
                    refine gf_X8_13 C ks_234 dX8_copy_111 ?_
                    refine v_iload_n (j := 3) C dX8_copy_114 rfl rfl ?_
                    replace h := chk_some h; obtain ⟨g13, h⟩ := h
                    refine v_iald C ks_236 (inB_vp g13) dX8_copy_115 ?_
                    refine v_pc (pc' := 116) rfl ?_
                    refine v_i2l C dX8_copy_116 ?_
                    refine v_lcmp C dX8_copy_117 ?_
                    refine v_if_le (tgt := 127) C dX8_copy_118 (by decide) (fun g => ?_) (fun g => ?_)
                    · replace h := ite_t g h
                      refine v_iconst C dX8_copy_127 ct_i_0 ?_
                      refine v_istore (L' := [(6, .int 0), (0, .ref (B + 234)), (1, .int x1), (2, .int x2), (3, .int x3), (4, .int x4), (5, .int x5)]) C dX8_copy_128 (by decide) rfl ?_
                      have LB130 : ∀ (M : Mem) (x6 : Int32) (o130 : (Int32 × Mem) ⊕ Mem) (h : b_X8_copy_130 M x1 x2 x3 x4 x5 x6 = some o130) (hc130 : ∀ z : Int32 × Mem, o130 = .inl z → V p l e (rmd 1) s m args below meth c 0 0 D cA B 8 Q z.2 130 [(0, .ref (B + 234)), (1, .int x1), (2, .int x2), (3, .int x3), (4, .int x4), (5, .int x5), (6, .int z.1)] []) (he130 : ∀ z : Mem, o130 = .inr z → V p l e (rmd 1) s m args below meth c 0 0 D cA B 8 Q z 192 [(0, .ref (B + 234)), (5, .int x5)] []), V p l e (rmd 1) s m args below meth c 0 0 D cA B 8 Q M 130 [(0, .ref (B + 234)), (1, .int x1), (2, .int x2), (3, .int x3), (4, .int x4), (5, .int x5), (6, .int x6)] [] := by
                        intro M x6 o130 h hc130 he130
                        unfold b_X8_copy_130 at h
                        have J155 : ∀ (M : Mem) (x6 : Int32) (s0 : Int32), j_X8_copy_155 M x1 x2 x3 x4 x5 x6 s0 = some o130 → V p l e (rmd 1) s m args below meth c 0 0 D cA B 8 Q M 155 [(0, .ref (B + 234)), (1, .int x1), (2, .int x2), (3, .int x3), (4, .int x4), (5, .int x5), (6, .int x6)] [.int s0] := by
                          intro M x6 s0 h
                          unfold j_X8_copy_155 at h
                          refine v_istore (L' := [(7, .int s0), (0, .ref (B + 234)), (1, .int x1), (2, .int x2), (3, .int x3), (4, .int x4), (5, .int x5), (6, .int x6)]) C dX8_copy_155 (by decide) rfl ?_
                          refine v_aload_nR (j := 1) C dX8_copy_157 rfl rfl ?_
                          refine gf_X8_16 C ks_234 dX8_copy_158 ?_
                          refine v_bipush C dX8_copy_161 ct_b_40 ?_
                          refine v_iload_n (j := 4) C dX8_copy_163 rfl rfl ?_
                          refine v_imul C dX8_copy_164 ?_
                          refine v_pc (pc' := 165) rfl ?_
                          refine v_iload (j := 5) C dX8_copy_165 rfl ?_
                          refine v_iadd C dX8_copy_167 ?_
                          refine v_iload (j := 0) C dX8_copy_168 rfl ?_
                          refine v_iadd C dX8_copy_170 ?_
                          refine v_aload_nR (j := 1) C dX8_copy_171 rfl rfl ?_
                          refine gf_X8_16 C ks_234 dX8_copy_172 ?_
                          refine v_bipush C dX8_copy_175 ct_b_40 ?_
                          refine v_pc (pc' := 177) rfl ?_
                          refine v_iload_n (j := 2) C dX8_copy_177 rfl rfl ?_
                          refine v_imul C dX8_copy_178 ?_
                          refine v_iload_n (j := 3) C dX8_copy_179 rfl rfl ?_
                          refine v_iadd C dX8_copy_180 ?_
                          refine v_iload (j := 0) C dX8_copy_181 rfl ?_
                          refine v_iadd C dX8_copy_183 ?_
                          replace h := chk_some h; obtain ⟨g14, h⟩ := h
                          refine v_iald C ks_237 (inB_vp g14) dX8_copy_184 ?_
                          refine v_pc (pc' := 185) rfl ?_
                          replace h := chk_some h; obtain ⟨g15, h⟩ := h
                          replace h := nm_ex h; obtain ⟨M16, eM16, h⟩ := h
                          refine v_iast C ks_237 (inB_vp g15) dX8_copy_185 ?_
                          refine v_mem eM16 ?_
                          refine v_iinc (j := 7) (L' := [(6, .int (x6 + 1)), (7, .int s0), (0, .ref (B + 234)), (1, .int x1), (2, .int x2), (3, .int x3), (4, .int x4), (5, .int x5)]) C dX8_copy_186 rfl (congrArg (fun z => _ + z) ct_i_1) (by decide) rfl ?_
                          refine v_goto (tgt := 130) C dX8_copy_189 (by decide) ?_
                          replace h := Option.some.inj h; subst h
                          refine v_sub [2, 3, 4, 5, 6, 7, 0] rfl ?_
                          exact hc130 (x6 + 1, M16) rfl
                        refine v_iload (j := 6) C dX8_copy_130 rfl ?_
                        refine v_iload (j := 5) C dX8_copy_132 rfl ?_
                        refine v_icmp_ge (tgt := 192) C dX8_copy_134 (by decide) (fun g => ?_) (fun g => ?_)
                        · replace h := ite_t g h
                          replace h := Option.some.inj h; subst h
                          refine v_sub [0, 5] rfl ?_
                          exact he130 M rfl
                        · replace h := ite_f g h
                          refine v_iload_n (j := 2) C dX8_copy_137 rfl rfl ?_
                          refine v_iload (j := 4) C dX8_copy_138 rfl ?_
                          refine v_icmp_ge (tgt := 153) C dX8_copy_140 (by decide) (fun g => ?_) (fun g => ?_)
                          · replace h := ite_t g h
                            refine v_iload (j := 6) C dX8_copy_153 rfl ?_
                            refine v_sub [0, 1, 2, 3, 4, 5, 6] rfl ?_
                            exact J155 M x6 x6 h
                          · replace h := ite_f g h
                            refine v_pc (pc' := 143) rfl ?_
                            refine v_iload (j := 5) C dX8_copy_143 rfl ?_
                            refine v_iconst C dX8_copy_145 ct_i_1 ?_
                            refine v_isub C dX8_copy_146 ?_
                            refine v_iload (j := 6) C dX8_copy_147 rfl ?_
                            refine v_isub C dX8_copy_149 ?_
                            refine v_goto (tgt := 155) C dX8_copy_150 (by decide) ?_
                            refine v_sub [0, 1, 2, 3, 4, 5, 6] rfl ?_
                            exact J155 M x6 ((x5 - 1) - x6) h
                      replace h := bind_ex h; obtain ⟨z17, hz17, h⟩ := h
                      refine v_sub [1, 2, 3, 4, 5, 6, 0] rfl ?_
                      refine loopF_walk (Pσ := fun z => V p l e (rmd 1) s m args below meth c 0 0 D cA B 8 Q z.2 130 [(0, .ref (B + 234)), (1, .int x1), (2, .int x2), (3, .int x3), (4, .int x4), (5, .int x5), (6, .int z.1)] []) (Pρ := fun y => V p l e (rmd 1) s m args below meth c 0 0 D cA B 8 Q y 192 [(0, .ref (B + 234)), (5, .int x5)] []) ?_ FUEL (0, M) z17 hz17 ?_
                      · intro z o hb hc he
                        exact LB130 z.2 z.1 o hb hc he
                      · refine v_aload_nR (j := 0) C dX8_copy_192 rfl rfl ?_
                        refine v_iload (j := 1) C dX8_copy_193 rfl ?_
                        replace h := bind_ex h; obtain ⟨r18, hr18, h⟩ := h
                        refine cv_I C tw_990 tw_111 tw_987 tw_989 tw_74 pd_X8_well (Nat.le_of_ble_eq_true rfl) (Nat.le_of_ble_eq_true rfl) (q := 234) (kd_lt ks_234 (by decide)) (sh8 ks_234) rfl (As := [.int x5]) (rest := []) rfl rfl (Nat.le_of_ble_eq_true rfl) (c_X8_well l D cA B aK aV z17 x5 r18 hr18) dX8_copy_195 ?_
                        replace h := Option.some.inj h; subst h
                        subst hQ
                        exact v_iret C hr hlk dX8_copy_198
                    · replace h := ite_f g h
                      refine v_aload_nR (j := 0) C dX8_copy_121 rfl rfl ?_
                      refine v_iconst C dX8_copy_122 ct_i_2 ?_
                      replace h := bind_ex h; obtain ⟨r19, hr19, h⟩ := h
                      refine cv_I C tw_985 tw_111 tw_982 tw_984 tw_73 pd_X8_finds (Nat.le_of_ble_eq_true rfl) (Nat.le_of_ble_eq_true rfl) (q := 234) (kd_lt ks_234 (by decide)) (sh8 ks_234) rfl (As := [.int 2]) (rest := []) rfl rfl (Nat.le_of_ble_eq_true rfl) (c_X8_finds l D cA B aK aV M 2 r19 hr19) dX8_copy_123 ?_
                      replace h := Option.some.inj h; subst h
                      subst hQ
                      exact v_iret C hr hlk dX8_copy_126
          · replace h := ite_f g h
            refine v_aload_nR (j := 0) C dX8_copy_66 rfl rfl ?_
            refine v_iconst C dX8_copy_67 ct_i_5 ?_
            replace h := bind_ex h; obtain ⟨r20, hr20, h⟩ := h
            refine cv_I C tw_985 tw_111 tw_982 tw_984 tw_73 pd_X8_finds (Nat.le_of_ble_eq_true rfl) (Nat.le_of_ble_eq_true rfl) (q := 234) (kd_lt ks_234 (by decide)) (sh8 ks_234) rfl (As := [.int 5]) (rest := []) rfl rfl (Nat.le_of_ble_eq_true rfl) (c_X8_finds l D cA B aK aV M 5 r20 hr20) dX8_copy_68 ?_
            replace h := Option.some.inj h; subst h
            subst hQ
            exact v_iret C hr hlk dX8_copy_71
        · replace h := ite_f g h
          refine v_aload_nR (j := 0) C dX8_copy_45 rfl rfl ?_
          refine v_iconst C dX8_copy_46 ct_i_1 ?_
          replace h := bind_ex h; obtain ⟨r21, hr21, h⟩ := h
          refine cv_I C tw_985 tw_111 tw_982 tw_984 tw_73 pd_X8_finds (Nat.le_of_ble_eq_true rfl) (Nat.le_of_ble_eq_true rfl) (q := 234) (kd_lt ks_234 (by decide)) (sh8 ks_234) rfl (As := [.int 1]) (rest := []) rfl rfl (Nat.le_of_ble_eq_true rfl) (c_X8_finds l D cA B aK aV M 1 r21 hr21) dX8_copy_47 ?_
          refine v_pc (pc' := 50) rfl ?_
          replace h := Option.some.inj h; subst h
          subst hQ
          exact v_iret C hr hlk dX8_copy_50
def m_X8_drop (M : Mem) (x1 : Int32) : Option (Int32 × Mem) :=
  (m_X8_in M x1.toInt64 0 7).bind fun r1 => if r1 = 0 then (some (((-1000001), M))) else (chk (inB x1 8) (if 0 ≤ (M 235 x1.toNatClampNeg) then (chk (inB x1 8) (nm (mset M 235 x1.toNatClampNeg (-1)) fun M4 => chk (inB x1 8) ((m_X8_well M4 (M4 236 x1.toNatClampNeg)).bind fun r6 => some ((r6.1, r6.2))))) else ((m_X8_finds M 1).bind fun r7 => some ((r7.1, r7.2)))))
set_option maxHeartbeats 4000000 in
set_option maxRecDepth 100000 in
theorem c_X8_drop (l : Launch) (D : va_G) (cA : cAt) (B : Nat) (aK aV : Nat → Nat) (M : Mem) (x1 : Int32) (R : Int32 × Mem) (h : m_X8_drop M x1 = some R) : CI l D cA B aK aV yX8_drop cX8_drop 2 .int 1 [.ref (B + 234), .int x1] M R.1 R.2 := by
  refine CI_of (by decide +kernel) (Nat.le_of_ble_eq_true rfl) ?_
  intro p e s m args below meth c C hr hlk
  have C : Cx p (rmd 1) s m args c 0 0 D cA B aK aV cX8_drop 2 RX8 := C
  generalize hQ : MQ below _ args s 0 0 _ = Q
  refine v_eq (M' := M) (pc' := 0) (L' := [(0, .ref (B + 234)), (1, .int x1)]) (st' := []) ?_
  unfold m_X8_drop at h
  refine v_iload_n (j := 1) C dX8_drop_0 rfl rfl ?_
  refine v_i2l C dX8_drop_1 ?_
  refine v_lconst (v := 0) C dX8_drop_2 rfl ?_
  refine v_ldc2 C tw_976 dX8_drop_3 ?_
  replace h := bind_ex h; obtain ⟨r1, hr1, h⟩ := h
  refine cs_I C tw_979 tw_111 tw_977 tw_978 pd_X8_in (Nat.le_of_ble_eq_true rfl) (Nat.le_of_ble_eq_true rfl) (As := [.long x1.toInt64, .long 0, .long 7]) (rest := []) rfl rfl (Nat.le_of_ble_eq_true rfl) (c_X8_in l D cA B aK aV M x1.toInt64 0 7 r1 hr1) dX8_drop_6 ?_
  refine v_if_ne (tgt := 15) C dX8_drop_9 (by decide) (fun g => ?_) (fun g => ?_)
  · replace h := ite_t g h
    refine v_pc (pc' := 12) rfl ?_
    refine v_ldc C tw_981 dX8_drop_12 ?_
    replace h := Option.some.inj h; subst h
    subst hQ
    exact v_iret C hr hlk dX8_drop_14
  · replace h := ite_f g h
    refine v_aload_nR (j := 0) C dX8_drop_15 rfl rfl ?_
    refine gf_X8_7 C ks_234 dX8_drop_16 ?_
    refine v_iload_n (j := 1) C dX8_drop_19 rfl rfl ?_
    replace h := chk_some h; obtain ⟨g2, h⟩ := h
    refine v_iald C ks_235 (inB_vp g2) dX8_drop_20 ?_
    refine v_if_ge (tgt := 30) C dX8_drop_21 (by decide) (fun g => ?_) (fun g => ?_)
    · replace h := ite_t g h
      refine v_aload_nR (j := 0) C dX8_drop_30 rfl rfl ?_
      refine gf_X8_7 C ks_234 dX8_drop_31 ?_
      refine v_iload_n (j := 1) C dX8_drop_34 rfl rfl ?_
      refine v_iconst C dX8_drop_35 ct_i_m1 ?_
      replace h := chk_some h; obtain ⟨g3, h⟩ := h
      replace h := nm_ex h; obtain ⟨M4, eM4, h⟩ := h
      refine v_iast C ks_235 (inB_vp g3) dX8_drop_36 ?_
      refine v_mem eM4 ?_
      refine v_aload_nR (j := 0) C dX8_drop_37 rfl rfl ?_
      refine v_pc (pc' := 38) rfl ?_
      refine v_aload_nR (j := 0) C dX8_drop_38 rfl rfl ?_
      refine gf_X8_13 C ks_234 dX8_drop_39 ?_
      refine v_iload_n (j := 1) C dX8_drop_42 rfl rfl ?_
      replace h := chk_some h; obtain ⟨g5, h⟩ := h
      refine v_iald C ks_236 (inB_vp g5) dX8_drop_43 ?_
      replace h := bind_ex h; obtain ⟨r6, hr6, h⟩ := h
      refine cv_I C tw_990 tw_111 tw_987 tw_989 tw_74 pd_X8_well (Nat.le_of_ble_eq_true rfl) (Nat.le_of_ble_eq_true rfl) (q := 234) (kd_lt ks_234 (by decide)) (sh8 ks_234) rfl (As := [.int (M4 236 x1.toNatClampNeg)]) (rest := []) rfl rfl (Nat.le_of_ble_eq_true rfl) (c_X8_well l D cA B aK aV M4 (M4 236 x1.toNatClampNeg) r6 hr6) dX8_drop_44 ?_
      replace h := Option.some.inj h; subst h
      subst hQ
      exact v_iret C hr hlk dX8_drop_47
    · replace h := ite_f g h
      refine v_aload_nR (j := 0) C dX8_drop_24 rfl rfl ?_
      refine v_pc (pc' := 25) rfl ?_
      refine v_iconst C dX8_drop_25 ct_i_1 ?_
      replace h := bind_ex h; obtain ⟨r7, hr7, h⟩ := h
      refine cv_I C tw_985 tw_111 tw_982 tw_984 tw_73 pd_X8_finds (Nat.le_of_ble_eq_true rfl) (Nat.le_of_ble_eq_true rfl) (q := 234) (kd_lt ks_234 (by decide)) (sh8 ks_234) rfl (As := [.int 1]) (rest := []) rfl rfl (Nat.le_of_ble_eq_true rfl) (c_X8_finds l D cA B aK aV M 1 r7 hr7) dX8_drop_26 ?_
      replace h := Option.some.inj h; subst h
      subst hQ
      exact v_iret C hr hlk dX8_drop_29
def b_X8_feed_35 (M : Mem) (x1 : Int64) (x4 : Int32) : Option ((Int32 × Mem) ⊕ Mem) :=
  if x4 < 0 then (some (.inr M)) else (chk (inB (M 234 5) 300) (nm (mset M 238 (M 234 5).toNatClampNeg (((x1 >>> ((8 * x4).toInt64 &&& 63)) &&& 255).toInt32)) fun M4 => nm (mset M4 234 5 ((M4 234 5) + 1)) fun M5 => some (.inl (x4 + (-1), M5))))
def m_X8_feed (M : Mem) (x1 : Int64) (x3 : Int32) : Option (Int32 × Mem) :=
  (m_X8_in M x3.toInt64 1 8).bind fun r1 => if r1 = 0 then (some (((-1000001), M))) else (if ((M 234 5) + x3) ≤ 300 then (nm (x3 - 1) fun y2 => (loopF (fun z => b_X8_feed_35 z.2 x1 z.1) FUEL (y2, M)).bind fun z6 => some ((z6 234 5, z6))) else (some (((-1000003), M))))
set_option maxHeartbeats 4000000 in
set_option maxRecDepth 100000 in
theorem c_X8_feed (l : Launch) (D : va_G) (cA : cAt) (B : Nat) (aK aV : Nat → Nat) (M : Mem) (x1 : Int64) (x3 : Int32) (R : Int32 × Mem) (h : m_X8_feed M x1 x3 = some R) : CI l D cA B aK aV yX8_feed cX8_feed 5 .int 1 [.ref (B + 234), .long x1, .int x3] M R.1 R.2 := by
  refine CI_of (by decide +kernel) (Nat.le_of_ble_eq_true rfl) ?_
  intro p e s m args below meth c C hr hlk
  have C : Cx p (rmd 1) s m args c 0 0 D cA B aK aV cX8_feed 5 RX8 := C
  generalize hQ : MQ below _ args s 0 0 _ = Q
  refine v_eq (M' := M) (pc' := 0) (L' := [(0, .ref (B + 234)), (1, .long x1), (3, .int x3)]) (st' := []) ?_
  unfold m_X8_feed at h
  refine v_iload_n (j := 2) C dX8_feed_0 rfl rfl ?_
  refine v_i2l C dX8_feed_1 ?_
  refine v_lconst (v := 1) C dX8_feed_2 rfl ?_
  refine v_ldc2 C tw_1007 dX8_feed_3 ?_
  replace h := bind_ex h; obtain ⟨r1, hr1, h⟩ := h
  refine cs_I C tw_979 tw_111 tw_977 tw_978 pd_X8_in (Nat.le_of_ble_eq_true rfl) (Nat.le_of_ble_eq_true rfl) (As := [.long x3.toInt64, .long 1, .long 8]) (rest := []) rfl rfl (Nat.le_of_ble_eq_true rfl) (c_X8_in l D cA B aK aV M x3.toInt64 1 8 r1 hr1) dX8_feed_6 ?_
  refine v_if_ne (tgt := 15) C dX8_feed_9 (by decide) (fun g => ?_) (fun g => ?_)
  · replace h := ite_t g h
    refine v_pc (pc' := 12) rfl ?_
    refine v_ldc C tw_981 dX8_feed_12 ?_
    replace h := Option.some.inj h; subst h
    subst hQ
    exact v_iret C hr hlk dX8_feed_14
  · replace h := ite_f g h
    refine v_aload_nR (j := 0) C dX8_feed_15 rfl rfl ?_
    refine gf_X8_76 C ks_234 dX8_feed_16 ?_
    refine v_iload_n (j := 2) C dX8_feed_19 rfl rfl ?_
    refine v_iadd C dX8_feed_20 ?_
    refine v_sipush C dX8_feed_21 ct_s_300 ?_
    refine v_icmp_le (tgt := 30) C dX8_feed_24 (by decide) (fun g => ?_) (fun g => ?_)
    · replace h := ite_t g h
      refine v_iload_n (j := 2) C dX8_feed_30 rfl rfl ?_
      refine v_iconst C dX8_feed_31 ct_i_1 ?_
      refine v_isub C dX8_feed_32 ?_
      replace h := nm_ex h; obtain ⟨y2, ey2, h⟩ := h
      refine v_topI ey2 ?_
      refine v_istore (L' := [(4, .int y2), (0, .ref (B + 234)), (1, .long x1), (3, .int x3)]) C dX8_feed_33 (by decide) rfl ?_
      have LB35 : ∀ (M : Mem) (x4 : Int32) (o35 : (Int32 × Mem) ⊕ Mem) (h : b_X8_feed_35 M x1 x4 = some o35) (hc35 : ∀ z : Int32 × Mem, o35 = .inl z → V p l e (rmd 1) s m args below meth c 0 0 D cA B 5 Q z.2 35 [(0, .ref (B + 234)), (1, .long x1), (4, .int z.1)] []) (he35 : ∀ z : Mem, o35 = .inr z → V p l e (rmd 1) s m args below meth c 0 0 D cA B 5 Q z 77 [(0, .ref (B + 234))] []), V p l e (rmd 1) s m args below meth c 0 0 D cA B 5 Q M 35 [(0, .ref (B + 234)), (1, .long x1), (4, .int x4)] [] := by
        intro M x4 o35 h hc35 he35
        unfold b_X8_feed_35 at h
        refine v_iload (j := 2) C dX8_feed_35 rfl ?_
        refine v_if_lt (tgt := 77) C dX8_feed_37 (by decide) (fun g => ?_) (fun g => ?_)
        · replace h := ite_t g h
          replace h := Option.some.inj h; subst h
          refine v_sub [0] rfl ?_
          exact he35 M rfl
        · replace h := ite_f g h
          refine v_aload_nR (j := 0) C dX8_feed_40 rfl rfl ?_
          refine gf_X8_19 C ks_234 dX8_feed_41 ?_
          refine v_aload_nR (j := 0) C dX8_feed_44 rfl rfl ?_
          refine gf_X8_76 C ks_234 dX8_feed_45 ?_
          refine v_pc (pc' := 48) rfl ?_
          refine v_lload_n (j := 1) C dX8_feed_48 rfl rfl ?_
          refine v_bipush C dX8_feed_49 ct_b_8 ?_
          refine v_iload (j := 2) C dX8_feed_51 rfl ?_
          refine v_imul C dX8_feed_53 ?_
          refine v_lshr C dX8_feed_54 ?_
          refine v_ldc2 C tw_1009 dX8_feed_55 ?_
          refine v_land C dX8_feed_58 ?_
          refine v_pc (pc' := 59) rfl ?_
          refine v_l2i C dX8_feed_59 ?_
          replace h := chk_some h; obtain ⟨g3, h⟩ := h
          replace h := nm_ex h; obtain ⟨M4, eM4, h⟩ := h
          refine v_iast C ks_238 (inB_vp g3) dX8_feed_60 ?_
          refine v_mem eM4 ?_
          refine v_aload_nR (j := 0) C dX8_feed_61 rfl rfl ?_
          refine v_dup C dX8_feed_62 rfl ?_
          refine gf_X8_76 C ks_234 dX8_feed_63 ?_
          refine v_iconst C dX8_feed_66 ct_i_1 ?_
          refine v_iadd C dX8_feed_67 ?_
          refine v_pc (pc' := 68) rfl ?_
          replace h := nm_ex h; obtain ⟨M5, eM5, h⟩ := h
          refine pf_X8_76 C ks_234 dX8_feed_68 ?_
          refine v_mem eM5 ?_
          refine v_iinc (j := 2) (L' := [(4, .int (x4 + (-1))), (0, .ref (B + 234)), (1, .long x1)]) C dX8_feed_71 rfl (congrArg (fun z => _ + z) ct_i_m1) (by decide) rfl ?_
          refine v_goto (tgt := 35) C dX8_feed_74 (by decide) ?_
          replace h := Option.some.inj h; subst h
          refine v_sub [1, 2, 0] rfl ?_
          exact hc35 (x4 + (-1), M5) rfl
      replace h := bind_ex h; obtain ⟨z6, hz6, h⟩ := h
      refine v_sub [1, 2, 0] rfl ?_
      refine loopF_walk (Pσ := fun z => V p l e (rmd 1) s m args below meth c 0 0 D cA B 5 Q z.2 35 [(0, .ref (B + 234)), (1, .long x1), (4, .int z.1)] []) (Pρ := fun y => V p l e (rmd 1) s m args below meth c 0 0 D cA B 5 Q y 77 [(0, .ref (B + 234))] []) ?_ FUEL (y2, M) z6 hz6 ?_
      · intro z o hb hc he
        exact LB35 z.2 z.1 o hb hc he
      · refine v_aload_nR (j := 0) C dX8_feed_77 rfl rfl ?_
        refine gf_X8_76 C ks_234 dX8_feed_78 ?_
        replace h := Option.some.inj h; subst h
        subst hQ
        exact v_iret C hr hlk dX8_feed_81
    · replace h := ite_f g h
      refine v_pc (pc' := 27) rfl ?_
      refine v_ldc C tw_1008 dX8_feed_27 ?_
      replace h := Option.some.inj h; subst h
      subst hQ
      exact v_iret C hr hlk dX8_feed_29
def m_X8_byteAt (M : Mem) (x1 : Int32) : Option Int32 :=
  if (M 234 5) ≤ x1 then (some (-1)) else (chk (inB x1 300) (some (M 238 x1.toNatClampNeg)))
set_option maxHeartbeats 4000000 in
set_option maxRecDepth 100000 in
theorem c_X8_byteAt (l : Launch) (D : va_G) (cA : cAt) (B : Nat) (aK aV : Nat → Nat) (M : Mem) (x1 : Int32) (R : Int32) (h : m_X8_byteAt M x1 = some R) : CI l D cA B aK aV yX8_byteAt cX8_byteAt 2 .int 0 [.ref (B + 234), .int x1] M R M := by
  refine CI_of (by decide +kernel) (Nat.le_of_ble_eq_true rfl) ?_
  intro p e s m args below meth c C hr hlk
  have C : Cx p (rmd 0) s m args c 0 0 D cA B aK aV cX8_byteAt 2 RX8 := C
  generalize hQ : MQ below _ args s 0 0 _ = Q
  refine v_eq (M' := M) (pc' := 0) (L' := [(0, .ref (B + 234)), (1, .int x1)]) (st' := []) ?_
  unfold m_X8_byteAt at h
  refine v_iload_n (j := 1) C dX8_byteAt_0 rfl rfl ?_
  refine v_aload_nR (j := 0) C dX8_byteAt_1 rfl rfl ?_
  refine gf_X8_76 C ks_234 dX8_byteAt_2 ?_
  refine v_icmp_ge (tgt := 17) C dX8_byteAt_5 (by decide) (fun g => ?_) (fun g => ?_)
  · replace h := ite_t g h
    refine v_iconst C dX8_byteAt_17 ct_i_m1 ?_
    replace h := Option.some.inj h; subst h
    subst hQ
    exact v_iret C hr hlk dX8_byteAt_18
  · replace h := ite_f g h
    refine v_aload_nR (j := 0) C dX8_byteAt_8 rfl rfl ?_
    refine gf_X8_19 C ks_234 dX8_byteAt_9 ?_
    refine v_pc (pc' := 12) rfl ?_
    refine v_iload_n (j := 1) C dX8_byteAt_12 rfl rfl ?_
    replace h := chk_some h; obtain ⟨g1, h⟩ := h
    refine v_iald C ks_238 (inB_vp g1) dX8_byteAt_13 ?_
    refine v_goto (tgt := 18) C dX8_byteAt_14 (by decide) ?_
    replace h := Option.some.inj h; subst h
    subst hQ
    exact v_iret C hr hlk dX8_byteAt_18
def m_X8_sortOf (M : Mem) (x0 : Int32) : Option Int32 :=
  if 0 ≤ x0 then ((m_X8_in M x0.toInt64 97 122).bind fun r1 => if r1 = 0 then ((m_X8_in M x0.toInt64 48 57).bind fun r2 => if r2 = 0 then (if x0 = 59 then (some 3) else (some 4)) else (some 2)) else (some 1)) else (some 0)
set_option maxHeartbeats 4000000 in
set_option maxRecDepth 100000 in
theorem c_X8_sortOf (l : Launch) (D : va_G) (cA : cAt) (B : Nat) (aK aV : Nat → Nat) (M : Mem) (x0 : Int32) (R : Int32) (h : m_X8_sortOf M x0 = some R) : CI l D cA B aK aV yX8_sortOf cX8_sortOf 1 .int 1 [.int x0] M R M := by
  refine CI_of (by decide +kernel) (Nat.le_of_ble_eq_true rfl) ?_
  intro p e s m args below meth c C hr hlk
  have C : Cx p (rmd 1) s m args c 0 0 D cA B aK aV cX8_sortOf 1 RX8 := C
  generalize hQ : MQ below _ args s 0 0 _ = Q
  refine v_eq (M' := M) (pc' := 0) (L' := [(0, .int x0)]) (st' := []) ?_
  unfold m_X8_sortOf at h
  refine v_iload_n (j := 0) C dX8_sortOf_0 rfl rfl ?_
  refine v_if_ge (tgt := 8) C dX8_sortOf_1 (by decide) (fun g => ?_) (fun g => ?_)
  · replace h := ite_t g h
    refine v_iload_n (j := 0) C dX8_sortOf_8 rfl rfl ?_
    refine v_i2l C dX8_sortOf_9 ?_
    refine v_ldc2 C tw_1029 dX8_sortOf_10 ?_
    refine v_ldc2 C tw_1030 dX8_sortOf_13 ?_
    replace h := bind_ex h; obtain ⟨r1, hr1, h⟩ := h
    refine cs_I C tw_979 tw_111 tw_977 tw_978 pd_X8_in (Nat.le_of_ble_eq_true rfl) (Nat.le_of_ble_eq_true rfl) (As := [.long x0.toInt64, .long 97, .long 122]) (rest := []) rfl rfl (Nat.le_of_ble_eq_true rfl) (c_X8_in l D cA B aK aV M x0.toInt64 97 122 r1 hr1) dX8_sortOf_16 ?_
    refine v_if_eq (tgt := 26) C dX8_sortOf_19 (by decide) (fun g => ?_) (fun g => ?_)
    · replace h := ite_t g h
      refine v_iload_n (j := 0) C dX8_sortOf_26 rfl rfl ?_
      refine v_i2l C dX8_sortOf_27 ?_
      refine v_ldc2 C tw_1031 dX8_sortOf_28 ?_
      refine v_ldc2 C tw_1032 dX8_sortOf_31 ?_
      replace h := bind_ex h; obtain ⟨r2, hr2, h⟩ := h
      refine cs_I C tw_979 tw_111 tw_977 tw_978 pd_X8_in (Nat.le_of_ble_eq_true rfl) (Nat.le_of_ble_eq_true rfl) (As := [.long x0.toInt64, .long 48, .long 57]) (rest := []) rfl rfl (Nat.le_of_ble_eq_true rfl) (c_X8_in l D cA B aK aV M x0.toInt64 48 57 r2 hr2) dX8_sortOf_34 ?_
      refine v_if_eq (tgt := 44) C dX8_sortOf_37 (by decide) (fun g => ?_) (fun g => ?_)
      · replace h := ite_t g h
        refine v_iload_n (j := 0) C dX8_sortOf_44 rfl rfl ?_
        refine v_bipush C dX8_sortOf_45 ct_b_59 ?_
        refine v_icmp_ne (tgt := 54) C dX8_sortOf_47 (by decide) (fun g => ?_) (fun g => ?_)
        · replace h := ite_t g h
          refine v_iconst C dX8_sortOf_50 ct_i_3 ?_
          refine v_goto (tgt := 55) C dX8_sortOf_51 (by decide) ?_
          replace h := Option.some.inj h; subst h
          subst hQ
          exact v_iret C hr hlk dX8_sortOf_55
        · replace h := ite_f g h
          refine v_iconst C dX8_sortOf_54 ct_i_4 ?_
          replace h := Option.some.inj h; subst h
          subst hQ
          exact v_iret C hr hlk dX8_sortOf_55
      · replace h := ite_f g h
        refine v_pc (pc' := 40) rfl ?_
        refine v_iconst C dX8_sortOf_40 ct_i_2 ?_
        refine v_goto (tgt := 55) C dX8_sortOf_41 (by decide) ?_
        replace h := Option.some.inj h; subst h
        subst hQ
        exact v_iret C hr hlk dX8_sortOf_55
    · replace h := ite_f g h
      refine v_pc (pc' := 22) rfl ?_
      refine v_iconst C dX8_sortOf_22 ct_i_1 ?_
      refine v_goto (tgt := 55) C dX8_sortOf_23 (by decide) ?_
      replace h := Option.some.inj h; subst h
      subst hQ
      exact v_iret C hr hlk dX8_sortOf_55
  · replace h := ite_f g h
    refine v_iconst C dX8_sortOf_4 ct_i_0 ?_
    refine v_goto (tgt := 55) C dX8_sortOf_5 (by decide) ?_
    replace h := Option.some.inj h; subst h
    subst hQ
    exact v_iret C hr hlk dX8_sortOf_55
def j_X8_token_26 (M : Mem) : Option (Mem ⊕ Mem) :=
  nm (mset M 234 15 ((M 234 15) + 1)) fun M1 => some (.inl M1)
def b_X8_token_0 (M : Mem) : Option (Mem ⊕ Mem) :=
  (m_X8_byteAt M (M 234 15)).bind fun r2 => if r2 = 32 then (j_X8_token_26 M) else ((m_X8_byteAt M (M 234 15)).bind fun r3 => if r3 = 10 then (j_X8_token_26 M) else (some (.inr M)))
def j_X8_token_108 (M : Mem) (x1 : Int32) : Option (Mem ⊕ Mem) :=
  nm (mset M 234 15 ((M 234 15) + 1)) fun M11 => nm (mset M11 234 18 ((M11 234 18) + 1)) fun M12 => some (.inl M12)
def j_X8_token_93 (M : Mem) (x1 : Int32) : Option (Mem ⊕ Mem) :=
  (m_X8_byteAt M (M 234 15)).bind fun r13 => (m_X8_sortOf M r13).bind fun r14 => if r14 = x1 then (j_X8_token_108 M x1) else (some (.inr M))
def j_X8_token_83 (M : Mem) (x1 : Int32) : Option (Mem ⊕ Mem) :=
  if x1 = 1 then (j_X8_token_93 M x1) else (if x1 = 2 then (j_X8_token_93 M x1) else (some (.inr M)))
def b_X8_token_72 (M : Mem) (x1 : Int32) : Option (Mem ⊕ Mem) :=
  if (M 234 18) = 0 then (if x1 = 0 then (j_X8_token_83 M x1) else (j_X8_token_108 M x1)) else (j_X8_token_83 M x1)
def m_X8_token (M : Mem) : Option Mem :=
  (loopF (fun z => b_X8_token_0 z) FUEL M).bind fun z4 => nm (mset z4 234 17 (z4 234 15)) fun M5 => (m_X8_byteAt M5 (M5 234 15)).bind fun r6 => (m_X8_sortOf M5 r6).bind fun r7 => nm (mset M5 234 16 r7) fun M8 => nm (M8 234 16) fun y9 => nm (mset M8 234 18 0) fun M10 => (loopF (fun z => b_X8_token_72 z y9) FUEL M10).bind fun z15 => if y9 = 2 then (if (z15 234 18) ≤ 3 then (nm (mset z15 234 16 y9) fun M17 => some M17) else (nm (mset z15 234 16 4) fun M18 => some M18)) else (nm (mset z15 234 16 y9) fun M16 => some M16)
set_option maxHeartbeats 4000000 in
set_option maxRecDepth 100000 in
theorem c_X8_token (l : Launch) (D : va_G) (cA : cAt) (B : Nat) (aK aV : Nat → Nat) (M : Mem) (R : Mem) (h : m_X8_token M = some R) : CV l D cA B aK aV yX8_token cX8_token 2 2 [.ref (B + 234)] M R := by
  refine CV_of (by decide +kernel) (Nat.le_of_ble_eq_true rfl) ?_
  intro p e s m args below meth c C hr hlk
  have C : Cx p (rmd 2) s m args c 0 0 D cA B aK aV cX8_token 2 RX8 := C
  generalize hQ : MQ below _ args s 0 0 _ = Q
  refine v_eq (M' := M) (pc' := 0) (L' := [(0, .ref (B + 234))]) (st' := []) ?_
  unfold m_X8_token at h
  have LB0 : ∀ (M : Mem) (o0 : Mem ⊕ Mem) (h : b_X8_token_0 M = some o0) (hc0 : ∀ z : Mem, o0 = .inl z → V p l e (rmd 2) s m args below meth c 0 0 D cA B 2 Q z 0 [(0, .ref (B + 234))] []) (he0 : ∀ z : Mem, o0 = .inr z → V p l e (rmd 2) s m args below meth c 0 0 D cA B 2 Q z 39 [(0, .ref (B + 234))] []), V p l e (rmd 2) s m args below meth c 0 0 D cA B 2 Q M 0 [(0, .ref (B + 234))] [] := by
    intro M o0 h hc0 he0
    unfold b_X8_token_0 at h
    have J26 : ∀ (M : Mem), j_X8_token_26 M = some o0 → V p l e (rmd 2) s m args below meth c 0 0 D cA B 2 Q M 26 [(0, .ref (B + 234))] [] := by
      intro M h
      unfold j_X8_token_26 at h
      refine v_aload_nR (j := 0) C dX8_token_26 rfl rfl ?_
      refine v_dup C dX8_token_27 rfl ?_
      refine gf_X8_90 C ks_234 dX8_token_28 ?_
      refine v_iconst C dX8_token_31 ct_i_1 ?_
      refine v_iadd C dX8_token_32 ?_
      replace h := nm_ex h; obtain ⟨M1, eM1, h⟩ := h
      refine pf_X8_90 C ks_234 dX8_token_33 ?_
      refine v_mem eM1 ?_
      refine v_pc (pc' := 36) rfl ?_
      refine v_goto (tgt := 0) C dX8_token_36 (by decide) ?_
      replace h := Option.some.inj h; subst h
      refine v_sub [0] rfl ?_
      exact hc0 M1 rfl
    refine v_aload_nR (j := 0) C dX8_token_0 rfl rfl ?_
    refine v_aload_nR (j := 0) C dX8_token_1 rfl rfl ?_
    refine gf_X8_90 C ks_234 dX8_token_2 ?_
    replace h := bind_ex h; obtain ⟨r2, hr2, h⟩ := h
    refine cv_I C tw_1025 tw_111 tw_1022 tw_1024 tw_77 pd_X8_byteAt (Nat.le_of_ble_eq_true rfl) (Nat.le_of_ble_eq_true rfl) (q := 234) (kd_lt ks_234 (by decide)) (sh8 ks_234) rfl (As := [.int (M 234 15)]) (rest := []) rfl rfl (Nat.le_of_ble_eq_true rfl) (c_X8_byteAt l D cA B aK aV M (M 234 15) r2 hr2) dX8_token_5 ?_
    refine v_bipush C dX8_token_8 ct_b_32 ?_
    refine v_icmp_eq (tgt := 26) C dX8_token_10 (by decide) (fun g => ?_) (fun g => ?_)
    · replace h := ite_t g h
      refine v_sub [0] rfl ?_
      exact J26 M h
    · replace h := ite_f g h
      refine v_pc (pc' := 13) rfl ?_
      refine v_aload_nR (j := 0) C dX8_token_13 rfl rfl ?_
      refine v_aload_nR (j := 0) C dX8_token_14 rfl rfl ?_
      refine gf_X8_90 C ks_234 dX8_token_15 ?_
      replace h := bind_ex h; obtain ⟨r3, hr3, h⟩ := h
      refine cv_I C tw_1025 tw_111 tw_1022 tw_1024 tw_77 pd_X8_byteAt (Nat.le_of_ble_eq_true rfl) (Nat.le_of_ble_eq_true rfl) (q := 234) (kd_lt ks_234 (by decide)) (sh8 ks_234) rfl (As := [.int (M 234 15)]) (rest := []) rfl rfl (Nat.le_of_ble_eq_true rfl) (c_X8_byteAt l D cA B aK aV M (M 234 15) r3 hr3) dX8_token_18 ?_
      refine v_bipush C dX8_token_21 ct_b_10 ?_
      refine v_icmp_ne (tgt := 39) C dX8_token_23 (by decide) (fun g => ?_) (fun g => ?_)
      · replace h := ite_t g h
        refine v_sub [0] rfl ?_
        exact J26 M h
      · replace h := ite_f g h
        replace h := Option.some.inj h; subst h
        refine v_sub [0] rfl ?_
        exact he0 M rfl
  replace h := bind_ex h; obtain ⟨z4, hz4, h⟩ := h
  refine v_sub [0] rfl ?_
  refine loopF_walk (Pσ := fun z => V p l e (rmd 2) s m args below meth c 0 0 D cA B 2 Q z 0 [(0, .ref (B + 234))] []) (Pρ := fun y => V p l e (rmd 2) s m args below meth c 0 0 D cA B 2 Q y 39 [(0, .ref (B + 234))] []) ?_ FUEL M z4 hz4 ?_
  · intro z o hb hc he
    exact LB0 z o hb hc he
  · refine v_aload_nR (j := 0) C dX8_token_39 rfl rfl ?_
    refine v_aload_nR (j := 0) C dX8_token_40 rfl rfl ?_
    refine gf_X8_90 C ks_234 dX8_token_41 ?_
    replace h := nm_ex h; obtain ⟨M5, eM5, h⟩ := h
    refine pf_X8_96 C ks_234 dX8_token_44 ?_
    refine v_mem eM5 ?_
    refine v_aload_nR (j := 0) C dX8_token_47 rfl rfl ?_
    refine v_aload_nR (j := 0) C dX8_token_48 rfl rfl ?_
    refine v_pc (pc' := 49) rfl ?_
    refine v_aload_nR (j := 0) C dX8_token_49 rfl rfl ?_
    refine gf_X8_90 C ks_234 dX8_token_50 ?_
    replace h := bind_ex h; obtain ⟨r6, hr6, h⟩ := h
    refine cv_I C tw_1025 tw_111 tw_1022 tw_1024 tw_77 pd_X8_byteAt (Nat.le_of_ble_eq_true rfl) (Nat.le_of_ble_eq_true rfl) (q := 234) (kd_lt ks_234 (by decide)) (sh8 ks_234) rfl (As := [.int (M5 234 15)]) (rest := [.ref (B + 234)]) rfl rfl (Nat.le_of_ble_eq_true rfl) (c_X8_byteAt l D cA B aK aV M5 (M5 234 15) r6 hr6) dX8_token_53 ?_
    replace h := bind_ex h; obtain ⟨r7, hr7, h⟩ := h
    refine cs_I C tw_1028 tw_111 tw_1026 tw_1027 pd_X8_sortOf (Nat.le_of_ble_eq_true rfl) (Nat.le_of_ble_eq_true rfl) (As := [.int r6]) (rest := [.ref (B + 234)]) rfl rfl (Nat.le_of_ble_eq_true rfl) (c_X8_sortOf l D cA B aK aV M5 r6 r7 hr7) dX8_token_56 ?_
    replace h := nm_ex h; obtain ⟨M8, eM8, h⟩ := h
    refine pf_X8_102 C ks_234 dX8_token_59 ?_
    refine v_mem eM8 ?_
    refine v_aload_nR (j := 0) C dX8_token_62 rfl rfl ?_
    refine gf_X8_102 C ks_234 dX8_token_63 ?_
    refine v_pc (pc' := 66) rfl ?_
    replace h := nm_ex h; obtain ⟨y9, ey9, h⟩ := h
    refine v_topI ey9 ?_
    refine v_istore_n (L' := [(1, .int y9), (0, .ref (B + 234))]) C dX8_token_66 rfl (by decide) rfl ?_
    refine v_aload_nR (j := 1) C dX8_token_67 rfl rfl ?_
    refine v_iconst C dX8_token_68 ct_i_0 ?_
    replace h := nm_ex h; obtain ⟨M10, eM10, h⟩ := h
    refine pf_X8_105 C ks_234 dX8_token_69 ?_
    refine v_mem eM10 ?_
    have LB72 : ∀ (M : Mem) (x1 : Int32) (o72 : Mem ⊕ Mem) (h : b_X8_token_72 M x1 = some o72) (hc72 : ∀ z : Mem, o72 = .inl z → V p l e (rmd 2) s m args below meth c 0 0 D cA B 2 Q z 72 [(0, .ref (B + 234)), (1, .int x1)] []) (he72 : ∀ z : Mem, o72 = .inr z → V p l e (rmd 2) s m args below meth c 0 0 D cA B 2 Q z 131 [(0, .ref (B + 234)), (1, .int x1)] []), V p l e (rmd 2) s m args below meth c 0 0 D cA B 2 Q M 72 [(0, .ref (B + 234)), (1, .int x1)] [] := by
      intro M x1 o72 h hc72 he72
      unfold b_X8_token_72 at h
      have J108 : ∀ (M : Mem), j_X8_token_108 M x1 = some o72 → V p l e (rmd 2) s m args below meth c 0 0 D cA B 2 Q M 108 [(0, .ref (B + 234)), (1, .int x1)] [] := by
        intro M h
        unfold j_X8_token_108 at h
        refine v_aload_nR (j := 0) C dX8_token_108 rfl rfl ?_
        refine v_dup C dX8_token_109 rfl ?_
        refine gf_X8_90 C ks_234 dX8_token_110 ?_
        refine v_iconst C dX8_token_113 ct_i_1 ?_
        refine v_iadd C dX8_token_114 ?_
        replace h := nm_ex h; obtain ⟨M11, eM11, h⟩ := h
        refine pf_X8_90 C ks_234 dX8_token_115 ?_
        refine v_mem eM11 ?_
        refine v_pc (pc' := 118) rfl ?_
        refine v_aload_nR (j := 0) C dX8_token_118 rfl rfl ?_
        refine v_dup C dX8_token_119 rfl ?_
        refine gf_X8_105 C ks_234 dX8_token_120 ?_
        refine v_iconst C dX8_token_123 ct_i_1 ?_
        refine v_iadd C dX8_token_124 ?_
        replace h := nm_ex h; obtain ⟨M12, eM12, h⟩ := h
        refine pf_X8_105 C ks_234 dX8_token_125 ?_
        refine v_mem eM12 ?_
        refine v_goto (tgt := 72) C dX8_token_128 (by decide) ?_
        replace h := Option.some.inj h; subst h
        refine v_sub [0, 1] rfl ?_
        exact hc72 M12 rfl
      have J93 : ∀ (M : Mem), j_X8_token_93 M x1 = some o72 → V p l e (rmd 2) s m args below meth c 0 0 D cA B 2 Q M 93 [(0, .ref (B + 234)), (1, .int x1)] [] := by
        intro M h
        unfold j_X8_token_93 at h
        refine v_aload_nR (j := 0) C dX8_token_93 rfl rfl ?_
        refine v_aload_nR (j := 0) C dX8_token_94 rfl rfl ?_
        refine gf_X8_90 C ks_234 dX8_token_95 ?_
        replace h := bind_ex h; obtain ⟨r13, hr13, h⟩ := h
        refine cv_I C tw_1025 tw_111 tw_1022 tw_1024 tw_77 pd_X8_byteAt (Nat.le_of_ble_eq_true rfl) (Nat.le_of_ble_eq_true rfl) (q := 234) (kd_lt ks_234 (by decide)) (sh8 ks_234) rfl (As := [.int (M 234 15)]) (rest := []) rfl rfl (Nat.le_of_ble_eq_true rfl) (c_X8_byteAt l D cA B aK aV M (M 234 15) r13 hr13) dX8_token_98 ?_
        replace h := bind_ex h; obtain ⟨r14, hr14, h⟩ := h
        refine cs_I C tw_1028 tw_111 tw_1026 tw_1027 pd_X8_sortOf (Nat.le_of_ble_eq_true rfl) (Nat.le_of_ble_eq_true rfl) (As := [.int r13]) (rest := []) rfl rfl (Nat.le_of_ble_eq_true rfl) (c_X8_sortOf l D cA B aK aV M r13 r14 hr14) dX8_token_101 ?_
        refine v_iload_n (j := 1) C dX8_token_104 rfl rfl ?_
        refine v_pc (pc' := 105) rfl ?_
        refine v_icmp_ne (tgt := 131) C dX8_token_105 (by decide) (fun g => ?_) (fun g => ?_)
        · replace h := ite_t g h
          refine v_sub [0, 1] rfl ?_
          exact J108 M h
        · replace h := ite_f g h
          replace h := Option.some.inj h; subst h
          refine v_sub [0, 1] rfl ?_
          exact he72 M rfl
      have J83 : ∀ (M : Mem), j_X8_token_83 M x1 = some o72 → V p l e (rmd 2) s m args below meth c 0 0 D cA B 2 Q M 83 [(0, .ref (B + 234)), (1, .int x1)] [] := by
        intro M h
        unfold j_X8_token_83 at h
        refine v_iload_n (j := 1) C dX8_token_83 rfl rfl ?_
        refine v_iconst C dX8_token_84 ct_i_1 ?_
        refine v_icmp_eq (tgt := 93) C dX8_token_85 (by decide) (fun g => ?_) (fun g => ?_)
        · replace h := ite_t g h
          refine v_sub [0, 1] rfl ?_
          exact J93 M h
        · replace h := ite_f g h
          refine v_iload_n (j := 1) C dX8_token_88 rfl rfl ?_
          refine v_iconst C dX8_token_89 ct_i_2 ?_
          refine v_icmp_ne (tgt := 131) C dX8_token_90 (by decide) (fun g => ?_) (fun g => ?_)
          · replace h := ite_t g h
            refine v_sub [0, 1] rfl ?_
            exact J93 M h
          · replace h := ite_f g h
            replace h := Option.some.inj h; subst h
            refine v_sub [0, 1] rfl ?_
            exact he72 M rfl
      refine v_aload_nR (j := 0) C dX8_token_72 rfl rfl ?_
      refine gf_X8_105 C ks_234 dX8_token_73 ?_
      refine v_if_ne (tgt := 83) C dX8_token_76 (by decide) (fun g => ?_) (fun g => ?_)
      · replace h := ite_t g h
        refine v_iload_n (j := 1) C dX8_token_79 rfl rfl ?_
        refine v_if_ne (tgt := 108) C dX8_token_80 (by decide) (fun g => ?_) (fun g => ?_)
        · replace h := ite_t g h
          refine v_sub [0, 1] rfl ?_
          exact J83 M h
        · replace h := ite_f g h
          refine v_sub [0, 1] rfl ?_
          exact J108 M h
      · replace h := ite_f g h
        refine v_sub [0, 1] rfl ?_
        exact J83 M h
    replace h := bind_ex h; obtain ⟨z15, hz15, h⟩ := h
    refine v_sub [1, 0] rfl ?_
    refine loopF_walk (Pσ := fun z => V p l e (rmd 2) s m args below meth c 0 0 D cA B 2 Q z 72 [(0, .ref (B + 234)), (1, .int y9)] []) (Pρ := fun y => V p l e (rmd 2) s m args below meth c 0 0 D cA B 2 Q y 131 [(0, .ref (B + 234)), (1, .int y9)] []) ?_ FUEL M10 z15 hz15 ?_
    · intro z o hb hc he
      exact LB72 z y9 o hb hc he
    · refine v_aload_nR (j := 0) C dX8_token_131 rfl rfl ?_
      refine v_iload_n (j := 1) C dX8_token_132 rfl rfl ?_
      refine v_iconst C dX8_token_133 ct_i_2 ?_
      refine v_icmp_ne (tgt := 149) C dX8_token_134 (by decide) (fun g => ?_) (fun g => ?_)
      · replace h := ite_t g h
        refine v_aload_nR (j := 0) C dX8_token_137 rfl rfl ?_
        refine gf_X8_105 C ks_234 dX8_token_138 ?_
        refine v_pc (pc' := 141) rfl ?_
        refine v_iconst C dX8_token_141 ct_i_3 ?_
        refine v_icmp_le (tgt := 149) C dX8_token_142 (by decide) (fun g => ?_) (fun g => ?_)
        · replace h := ite_t g h
          refine v_iload_n (j := 1) C dX8_token_149 rfl rfl ?_
          replace h := nm_ex h; obtain ⟨M17, eM17, h⟩ := h
          refine pf_X8_102 C ks_234 dX8_token_150 ?_
          refine v_mem eM17 ?_
          replace h := Option.some.inj h; subst h
          subst hQ
          exact v_vret C hr hlk dX8_token_153
        · replace h := ite_f g h
          refine v_iconst C dX8_token_145 ct_i_4 ?_
          refine v_goto (tgt := 150) C dX8_token_146 (by decide) ?_
          replace h := nm_ex h; obtain ⟨M18, eM18, h⟩ := h
          refine pf_X8_102 C ks_234 dX8_token_150 ?_
          refine v_mem eM18 ?_
          replace h := Option.some.inj h; subst h
          subst hQ
          exact v_vret C hr hlk dX8_token_153
      · replace h := ite_f g h
        refine v_iload_n (j := 1) C dX8_token_149 rfl rfl ?_
        replace h := nm_ex h; obtain ⟨M16, eM16, h⟩ := h
        refine pf_X8_102 C ks_234 dX8_token_150 ?_
        refine v_mem eM16 ?_
        replace h := Option.some.inj h; subst h
        subst hQ
        exact v_vret C hr hlk dX8_token_153
def b_X8_name_4 (M : Mem) (x1 : Int64) (x3 : Int32) : Option ((Int64 × Int32) ⊕ Int64) :=
  if (M 234 18) ≤ x3 then (some (.inr x1)) else (if 8 ≤ (M 234 18) then (some (.inr x1)) else (if (M 234 16) = 1 then ((m_X8_byteAt M ((M 234 17) + x3)).bind fun r1 => nm ((256 * x1) + r1.toInt64) fun y2 => some (.inl (y2, x3 + 1))) else (some (.inr x1))))
def m_X8_name (M : Mem) : Option Int64 :=
  (loopF (fun z => b_X8_name_4 M z.1 z.2) FUEL (0, 0)).bind fun z3 => some z3
set_option maxHeartbeats 4000000 in
set_option maxRecDepth 100000 in
theorem c_X8_name (l : Launch) (D : va_G) (cA : cAt) (B : Nat) (aK aV : Nat → Nat) (M : Mem) (R : Int64) (h : m_X8_name M = some R) : CL l D cA B aK aV yX8_name cX8_name 4 .long 1 [.ref (B + 234)] M R M := by
  refine CL_of (by decide +kernel) (Nat.le_of_ble_eq_true rfl) ?_
  intro p e s m args below meth c C hr hlk
  have C : Cx p (rmd 1) s m args c 0 0 D cA B aK aV cX8_name 4 RX8 := C
  generalize hQ : MQ below _ args s 0 0 _ = Q
  refine v_eq (M' := M) (pc' := 0) (L' := [(0, .ref (B + 234))]) (st' := []) ?_
  unfold m_X8_name at h
  refine v_lconst (v := 0) C dX8_name_0 rfl ?_
  refine v_lstore_n (L' := [(1, .long 0), (0, .ref (B + 234))]) C dX8_name_1 rfl (by decide) rfl ?_
  refine v_iconst C dX8_name_2 ct_i_0 ?_
  refine v_istore_n (L' := [(3, .int 0), (1, .long 0), (0, .ref (B + 234))]) C dX8_name_3 rfl (by decide) rfl ?_
  have LB4 : ∀  (x1 : Int64) (x3 : Int32) (o4 : (Int64 × Int32) ⊕ Int64) (h : b_X8_name_4 M x1 x3 = some o4) (hc4 : ∀ z : Int64 × Int32, o4 = .inl z → V p l e (rmd 1) s m args below meth c 0 0 D cA B 4 Q M 4 [(0, .ref (B + 234)), (1, .long z.1), (3, .int z.2)] []) (he4 : ∀ z : Int64, o4 = .inr z → V p l e (rmd 1) s m args below meth c 0 0 D cA B 4 Q M 53 [(1, .long z)] []), V p l e (rmd 1) s m args below meth c 0 0 D cA B 4 Q M 4 [(0, .ref (B + 234)), (1, .long x1), (3, .int x3)] [] := by
    intro x1 x3 o4 h hc4 he4
    unfold b_X8_name_4 at h
    refine v_iload_n (j := 2) C dX8_name_4 rfl rfl ?_
    refine v_aload_nR (j := 0) C dX8_name_5 rfl rfl ?_
    refine gf_X8_105 C ks_234 dX8_name_6 ?_
    refine v_icmp_ge (tgt := 53) C dX8_name_9 (by decide) (fun g => ?_) (fun g => ?_)
    · replace h := ite_t g h
      replace h := Option.some.inj h; subst h
      refine v_sub [1] rfl ?_
      exact he4 x1 rfl
    · replace h := ite_f g h
      refine v_aload_nR (j := 0) C dX8_name_12 rfl rfl ?_
      refine gf_X8_105 C ks_234 dX8_name_13 ?_
      refine v_pc (pc' := 16) rfl ?_
      refine v_bipush C dX8_name_16 ct_b_8 ?_
      refine v_icmp_ge (tgt := 53) C dX8_name_18 (by decide) (fun g => ?_) (fun g => ?_)
      · replace h := ite_t g h
        replace h := Option.some.inj h; subst h
        refine v_sub [1] rfl ?_
        exact he4 x1 rfl
      · replace h := ite_f g h
        refine v_aload_nR (j := 0) C dX8_name_21 rfl rfl ?_
        refine gf_X8_102 C ks_234 dX8_name_22 ?_
        refine v_iconst C dX8_name_25 ct_i_1 ?_
        refine v_icmp_ne (tgt := 53) C dX8_name_26 (by decide) (fun g => ?_) (fun g => ?_)
        · replace h := ite_t g h
          refine v_ldc2 C tw_1037 dX8_name_29 ?_
          refine v_pc (pc' := 32) rfl ?_
          refine v_lload_n (j := 1) C dX8_name_32 rfl rfl ?_
          refine v_lmul C dX8_name_33 ?_
          refine v_aload_nR (j := 0) C dX8_name_34 rfl rfl ?_
          refine v_aload_nR (j := 0) C dX8_name_35 rfl rfl ?_
          refine gf_X8_96 C ks_234 dX8_name_36 ?_
          refine v_iload_n (j := 2) C dX8_name_39 rfl rfl ?_
          refine v_iadd C dX8_name_40 ?_
          refine v_pc (pc' := 41) rfl ?_
          replace h := bind_ex h; obtain ⟨r1, hr1, h⟩ := h
          refine cv_I C tw_1025 tw_111 tw_1022 tw_1024 tw_77 pd_X8_byteAt (Nat.le_of_ble_eq_true rfl) (Nat.le_of_ble_eq_true rfl) (q := 234) (kd_lt ks_234 (by decide)) (sh8 ks_234) rfl (As := [.int ((M 234 17) + x3)]) (rest := [.long (256 * x1)]) rfl rfl (Nat.le_of_ble_eq_true rfl) (c_X8_byteAt l D cA B aK aV M ((M 234 17) + x3) r1 hr1) dX8_name_41 ?_
          refine v_i2l C dX8_name_44 ?_
          refine v_ladd C dX8_name_45 ?_
          replace h := nm_ex h; obtain ⟨y2, ey2, h⟩ := h
          refine v_topJ ey2 ?_
          refine v_lstore_n (L' := [(1, .long y2), (0, .ref (B + 234)), (3, .int x3)]) C dX8_name_46 rfl (by decide) rfl ?_
          refine v_iinc (j := 2) (L' := [(3, .int (x3 + 1)), (1, .long y2), (0, .ref (B + 234))]) C dX8_name_47 rfl (congrArg (fun z => _ + z) ct_i_1) (by decide) rfl ?_
          refine v_goto (tgt := 4) C dX8_name_50 (by decide) ?_
          replace h := Option.some.inj h; subst h
          refine v_sub [2, 1, 0] rfl ?_
          exact hc4 (y2, x3 + 1) rfl
        · replace h := ite_f g h
          replace h := Option.some.inj h; subst h
          refine v_sub [1] rfl ?_
          exact he4 x1 rfl
  replace h := bind_ex h; obtain ⟨z3, hz3, h⟩ := h
  refine v_sub [2, 1, 0] rfl ?_
  refine loopF_walk (Pσ := fun z => V p l e (rmd 1) s m args below meth c 0 0 D cA B 4 Q M 4 [(0, .ref (B + 234)), (1, .long z.1), (3, .int z.2)] []) (Pρ := fun y => V p l e (rmd 1) s m args below meth c 0 0 D cA B 4 Q M 53 [(1, .long y)] []) ?_ FUEL (0, 0) z3 hz3 ?_
  · intro z o hb hc he
    exact LB4 z.1 z.2 o hb hc he
  · refine v_lload_n (j := 0) C dX8_name_53 rfl rfl ?_
    replace h := Option.some.inj h; subst h
    subst hQ
    exact v_lret C hr hlk dX8_name_54
def m_X8_wrong (M : Mem) (x1 : Int32) : Option (Int32 × Mem) :=
  nm (mset M 234 19 x1) fun M1 => some ((0, M1))
set_option maxHeartbeats 4000000 in
set_option maxRecDepth 100000 in
theorem c_X8_wrong (l : Launch) (D : va_G) (cA : cAt) (B : Nat) (aK aV : Nat → Nat) (M : Mem) (x1 : Int32) (R : Int32 × Mem) (h : m_X8_wrong M x1 = some R) : CI l D cA B aK aV yX8_wrong cX8_wrong 2 .boolean 0 [.ref (B + 234), .int x1] M R.1 R.2 := by
  refine CI_of (by decide +kernel) (Nat.le_of_ble_eq_true rfl) ?_
  intro p e s m args below meth c C hr hlk
  have C : Cx p (rmd 0) s m args c 0 0 D cA B aK aV cX8_wrong 2 RX8 := C
  generalize hQ : MQ below _ args s 0 0 _ = Q
  refine v_eq (M' := M) (pc' := 0) (L' := [(0, .ref (B + 234)), (1, .int x1)]) (st' := []) ?_
  unfold m_X8_wrong at h
  refine v_aload_nR (j := 0) C dX8_wrong_0 rfl rfl ?_
  refine v_iload_n (j := 1) C dX8_wrong_1 rfl rfl ?_
  replace h := nm_ex h; obtain ⟨M1, eM1, h⟩ := h
  refine pf_X8_110 C ks_234 dX8_wrong_2 ?_
  refine v_mem eM1 ?_
  refine v_iconst C dX8_wrong_5 ct_i_0 ?_
  replace h := Option.some.inj h; subst h
  subst hQ
  exact v_zret C hr hlk (show narrow .boolean (.int 0) = .int 0 from rfl) dX8_wrong_6
def b_X8_number_20 (M : Mem) (x1 : Int32) (x2 : Int32) (x3 : Int32) (x4 : Int32) (x5 : Int32) : Option ((Int32 × Int32) ⊕ Int32) :=
  if (M 234 18) ≤ x5 then (some (.inr x4)) else ((m_X8_byteAt M ((M 234 17) + x5)).bind fun r1 => nm (((10 * x4) + r1) - 48) fun y2 => some (.inl (y2, x5 + 1)))
def m_X8_number (M : Mem) (x1 : Int32) (x2 : Int32) (x3 : Int32) : Option (Int32 × Mem) :=
  if (M 234 16) = 2 then ((loopF (fun z => b_X8_number_20 M x1 x2 x3 z.1 z.2) FUEL (0, 0)).bind fun z3 => (m_X8_in M z3.toInt64 x2.toInt64 x3.toInt64).bind fun r4 => if r4 = 0 then ((m_X8_wrong M 2).bind fun r8 => chk (isZ r8.1) (some ((r8.1, r8.2)))) else (chk (inB x1 39) (nm (mset M 240 x1.toNatClampNeg z3) fun M6 => (m_X8_token M6).bind fun r7 => some ((1, r7))))) else ((m_X8_wrong M 1).bind fun r10 => chk (isZ r10.1) (some ((r10.1, r10.2))))
set_option maxHeartbeats 4000000 in
set_option maxRecDepth 100000 in
theorem c_X8_number (l : Launch) (D : va_G) (cA : cAt) (B : Nat) (aK aV : Nat → Nat) (M : Mem) (x1 : Int32) (x2 : Int32) (x3 : Int32) (R : Int32 × Mem) (h : m_X8_number M x1 x2 x3 = some R) : CI l D cA B aK aV yX8_number cX8_number 6 .boolean 3 [.ref (B + 234), .int x1, .int x2, .int x3] M R.1 R.2 := by
  refine CI_of (by decide +kernel) (Nat.le_of_ble_eq_true rfl) ?_
  intro p e s m args below meth c C hr hlk
  have C : Cx p (rmd 3) s m args c 0 0 D cA B aK aV cX8_number 6 RX8 := C
  generalize hQ : MQ below _ args s 0 0 _ = Q
  refine v_eq (M' := M) (pc' := 0) (L' := [(0, .ref (B + 234)), (1, .int x1), (2, .int x2), (3, .int x3)]) (st' := []) ?_
  unfold m_X8_number at h
  refine v_aload_nR (j := 0) C dX8_number_0 rfl rfl ?_
  refine gf_X8_102 C ks_234 dX8_number_1 ?_
  refine v_iconst C dX8_number_4 ct_i_2 ?_
  refine v_icmp_eq (tgt := 14) C dX8_number_5 (by decide) (fun g => ?_) (fun g => ?_)
  · replace h := ite_t g h
    refine v_iconst C dX8_number_14 ct_i_0 ?_
    refine v_istore (L' := [(4, .int 0), (0, .ref (B + 234)), (1, .int x1), (2, .int x2), (3, .int x3)]) C dX8_number_15 (by decide) rfl ?_
    refine v_iconst C dX8_number_17 ct_i_0 ?_
    refine v_istore (L' := [(5, .int 0), (4, .int 0), (0, .ref (B + 234)), (1, .int x1), (2, .int x2), (3, .int x3)]) C dX8_number_18 (by decide) rfl ?_
    have LB20 : ∀ (M : Mem) (x4 : Int32) (x5 : Int32) (o20 : (Int32 × Int32) ⊕ Int32) (h : b_X8_number_20 M x1 x2 x3 x4 x5 = some o20) (hc20 : ∀ z : Int32 × Int32, o20 = .inl z → V p l e (rmd 3) s m args below meth c 0 0 D cA B 6 Q M 20 [(0, .ref (B + 234)), (1, .int x1), (2, .int x2), (3, .int x3), (4, .int z.1), (5, .int z.2)] []) (he20 : ∀ z : Int32, o20 = .inr z → V p l e (rmd 3) s m args below meth c 0 0 D cA B 6 Q M 57 [(0, .ref (B + 234)), (1, .int x1), (2, .int x2), (3, .int x3), (4, .int z)] []), V p l e (rmd 3) s m args below meth c 0 0 D cA B 6 Q M 20 [(0, .ref (B + 234)), (1, .int x1), (2, .int x2), (3, .int x3), (4, .int x4), (5, .int x5)] [] := by
      intro M x4 x5 o20 h hc20 he20
      unfold b_X8_number_20 at h
      refine v_iload (j := 5) C dX8_number_20 rfl ?_
      refine v_aload_nR (j := 0) C dX8_number_22 rfl rfl ?_
      refine gf_X8_105 C ks_234 dX8_number_23 ?_
      refine v_icmp_ge (tgt := 57) C dX8_number_26 (by decide) (fun g => ?_) (fun g => ?_)
      · replace h := ite_t g h
        replace h := Option.some.inj h; subst h
        refine v_sub [0, 1, 2, 3, 4] rfl ?_
        exact he20 x4 rfl
      · replace h := ite_f g h
        refine v_bipush C dX8_number_29 ct_b_10 ?_
        refine v_iload (j := 4) C dX8_number_31 rfl ?_
        refine v_pc (pc' := 33) rfl ?_
        refine v_imul C dX8_number_33 ?_
        refine v_aload_nR (j := 0) C dX8_number_34 rfl rfl ?_
        refine v_aload_nR (j := 0) C dX8_number_35 rfl rfl ?_
        refine gf_X8_96 C ks_234 dX8_number_36 ?_
        refine v_iload (j := 5) C dX8_number_39 rfl ?_
        refine v_iadd C dX8_number_41 ?_
        replace h := bind_ex h; obtain ⟨r1, hr1, h⟩ := h
        refine cv_I C tw_1025 tw_111 tw_1022 tw_1024 tw_77 pd_X8_byteAt (Nat.le_of_ble_eq_true rfl) (Nat.le_of_ble_eq_true rfl) (q := 234) (kd_lt ks_234 (by decide)) (sh8 ks_234) rfl (As := [.int ((M 234 17) + x5)]) (rest := [.int (10 * x4)]) rfl rfl (Nat.le_of_ble_eq_true rfl) (c_X8_byteAt l D cA B aK aV M ((M 234 17) + x5) r1 hr1) dX8_number_42 ?_
        refine v_pc (pc' := 45) rfl ?_
        refine v_iadd C dX8_number_45 ?_
        refine v_bipush C dX8_number_46 ct_b_48 ?_
        refine v_isub C dX8_number_48 ?_
        replace h := nm_ex h; obtain ⟨y2, ey2, h⟩ := h
        refine v_topI ey2 ?_
        refine v_istore (L' := [(4, .int y2), (0, .ref (B + 234)), (1, .int x1), (2, .int x2), (3, .int x3), (5, .int x5)]) C dX8_number_49 (by decide) rfl ?_
        refine v_iinc (j := 5) (L' := [(5, .int (x5 + 1)), (4, .int y2), (0, .ref (B + 234)), (1, .int x1), (2, .int x2), (3, .int x3)]) C dX8_number_51 rfl (congrArg (fun z => _ + z) ct_i_1) (by decide) rfl ?_
        refine v_goto (tgt := 20) C dX8_number_54 (by decide) ?_
        replace h := Option.some.inj h; subst h
        refine v_sub [2, 3, 4, 5, 1, 0] rfl ?_
        exact hc20 (y2, x5 + 1) rfl
    replace h := bind_ex h; obtain ⟨z3, hz3, h⟩ := h
    refine v_sub [2, 3, 4, 5, 1, 0] rfl ?_
    refine loopF_walk (Pσ := fun z => V p l e (rmd 3) s m args below meth c 0 0 D cA B 6 Q M 20 [(0, .ref (B + 234)), (1, .int x1), (2, .int x2), (3, .int x3), (4, .int z.1), (5, .int z.2)] []) (Pρ := fun y => V p l e (rmd 3) s m args below meth c 0 0 D cA B 6 Q M 57 [(0, .ref (B + 234)), (1, .int x1), (2, .int x2), (3, .int x3), (4, .int y)] []) ?_ FUEL (0, 0) z3 hz3 ?_
    · intro z o hb hc he
      exact LB20 M z.1 z.2 o hb hc he
    · refine v_iload (j := 4) C dX8_number_57 rfl ?_
      refine v_i2l C dX8_number_59 ?_
      refine v_iload_n (j := 2) C dX8_number_60 rfl rfl ?_
      refine v_i2l C dX8_number_61 ?_
      refine v_iload_n (j := 3) C dX8_number_62 rfl rfl ?_
      refine v_i2l C dX8_number_63 ?_
      refine v_pc (pc' := 64) rfl ?_
      replace h := bind_ex h; obtain ⟨r4, hr4, h⟩ := h
      refine cs_I C tw_979 tw_111 tw_977 tw_978 pd_X8_in (Nat.le_of_ble_eq_true rfl) (Nat.le_of_ble_eq_true rfl) (As := [.long z3.toInt64, .long x2.toInt64, .long x3.toInt64]) (rest := []) rfl rfl (Nat.le_of_ble_eq_true rfl) (c_X8_in l D cA B aK aV M z3.toInt64 x2.toInt64 x3.toInt64 r4 hr4) dX8_number_64 ?_
      refine v_if_ne (tgt := 76) C dX8_number_67 (by decide) (fun g => ?_) (fun g => ?_)
      · replace h := ite_t g h
        refine v_aload_nR (j := 0) C dX8_number_70 rfl rfl ?_
        refine v_iconst C dX8_number_71 ct_i_2 ?_
        replace h := bind_ex h; obtain ⟨r8, hr8, h⟩ := h
        refine cv_I C tw_1042 tw_111 tw_1039 tw_1041 tw_79 pd_X8_wrong (Nat.le_of_ble_eq_true rfl) (Nat.le_of_ble_eq_true rfl) (q := 234) (kd_lt ks_234 (by decide)) (sh8 ks_234) rfl (As := [.int 2]) (rest := []) rfl rfl (Nat.le_of_ble_eq_true rfl) (c_X8_wrong l D cA B aK aV M 2 r8 hr8) dX8_number_72 ?_
        replace h := chk_some h; obtain ⟨g9, h⟩ := h
        replace h := Option.some.inj h; subst h
        subst hQ
        exact v_zret C hr hlk (isZ_nar g9) dX8_number_75
      · replace h := ite_f g h
        refine v_aload_nR (j := 0) C dX8_number_76 rfl rfl ?_
        refine gf_X8_25 C ks_234 dX8_number_77 ?_
        refine v_iload_n (j := 1) C dX8_number_80 rfl rfl ?_
        refine v_iload (j := 4) C dX8_number_81 rfl ?_
        replace h := chk_some h; obtain ⟨g5, h⟩ := h
        replace h := nm_ex h; obtain ⟨M6, eM6, h⟩ := h
        refine v_iast C ks_240 (inB_vp g5) dX8_number_83 ?_
        refine v_mem eM6 ?_
        refine v_aload_nR (j := 0) C dX8_number_84 rfl rfl ?_
        refine v_pc (pc' := 85) rfl ?_
        replace h := bind_ex h; obtain ⟨r7, hr7, h⟩ := h
        refine cv_V C tw_1021 tw_111 tw_1018 tw_1020 tw_76 pd_X8_token (Nat.le_of_ble_eq_true rfl) (Nat.le_of_ble_eq_true rfl) (q := 234) (kd_lt ks_234 (by decide)) (sh8 ks_234) rfl (As := []) (rest := []) rfl rfl (Nat.le_of_ble_eq_true rfl) (c_X8_token l D cA B aK aV M6 r7 hr7) dX8_number_85 ?_
        refine v_iconst C dX8_number_88 ct_i_1 ?_
        replace h := Option.some.inj h; subst h
        subst hQ
        exact v_zret C hr hlk (show narrow .boolean (.int 1) = .int 1 from rfl) dX8_number_89
  · replace h := ite_f g h
    refine v_aload_nR (j := 0) C dX8_number_8 rfl rfl ?_
    refine v_iconst C dX8_number_9 ct_i_1 ?_
    refine v_pc (pc' := 10) rfl ?_
    replace h := bind_ex h; obtain ⟨r10, hr10, h⟩ := h
    refine cv_I C tw_1042 tw_111 tw_1039 tw_1041 tw_79 pd_X8_wrong (Nat.le_of_ble_eq_true rfl) (Nat.le_of_ble_eq_true rfl) (q := 234) (kd_lt ks_234 (by decide)) (sh8 ks_234) rfl (As := [.int 1]) (rest := []) rfl rfl (Nat.le_of_ble_eq_true rfl) (c_X8_wrong l D cA B aK aV M 1 r10 hr10) dX8_number_10 ?_
    replace h := chk_some h; obtain ⟨g11, h⟩ := h
    replace h := Option.some.inj h; subst h
    subst hQ
    exact v_zret C hr hlk (isZ_nar g11) dX8_number_13
def m_X8_sign (M : Mem) : Option (Int32 × Mem) :=
  if (M 234 16) = 3 then ((m_X8_token M).bind fun r1 => some ((1, r1))) else ((m_X8_wrong M 1).bind fun r2 => chk (isZ r2.1) (some ((r2.1, r2.2))))
set_option maxHeartbeats 4000000 in
set_option maxRecDepth 100000 in
theorem c_X8_sign (l : Launch) (D : va_G) (cA : cAt) (B : Nat) (aK aV : Nat → Nat) (M : Mem) (R : Int32 × Mem) (h : m_X8_sign M = some R) : CI l D cA B aK aV yX8_sign cX8_sign 1 .boolean 3 [.ref (B + 234)] M R.1 R.2 := by
  refine CI_of (by decide +kernel) (Nat.le_of_ble_eq_true rfl) ?_
  intro p e s m args below meth c C hr hlk
  have C : Cx p (rmd 3) s m args c 0 0 D cA B aK aV cX8_sign 1 RX8 := C
  generalize hQ : MQ below _ args s 0 0 _ = Q
  refine v_eq (M' := M) (pc' := 0) (L' := [(0, .ref (B + 234))]) (st' := []) ?_
  unfold m_X8_sign at h
  refine v_aload_nR (j := 0) C dX8_sign_0 rfl rfl ?_
  refine gf_X8_102 C ks_234 dX8_sign_1 ?_
  refine v_iconst C dX8_sign_4 ct_i_3 ?_
  refine v_icmp_eq (tgt := 14) C dX8_sign_5 (by decide) (fun g => ?_) (fun g => ?_)
  · replace h := ite_t g h
    refine v_aload_nR (j := 0) C dX8_sign_14 rfl rfl ?_
    replace h := bind_ex h; obtain ⟨r1, hr1, h⟩ := h
    refine cv_V C tw_1021 tw_111 tw_1018 tw_1020 tw_76 pd_X8_token (Nat.le_of_ble_eq_true rfl) (Nat.le_of_ble_eq_true rfl) (q := 234) (kd_lt ks_234 (by decide)) (sh8 ks_234) rfl (As := []) (rest := []) rfl rfl (Nat.le_of_ble_eq_true rfl) (c_X8_token l D cA B aK aV M r1 hr1) dX8_sign_15 ?_
    refine v_iconst C dX8_sign_18 ct_i_1 ?_
    replace h := Option.some.inj h; subst h
    subst hQ
    exact v_zret C hr hlk (show narrow .boolean (.int 1) = .int 1 from rfl) dX8_sign_19
  · replace h := ite_f g h
    refine v_aload_nR (j := 0) C dX8_sign_8 rfl rfl ?_
    refine v_iconst C dX8_sign_9 ct_i_1 ?_
    refine v_pc (pc' := 10) rfl ?_
    replace h := bind_ex h; obtain ⟨r2, hr2, h⟩ := h
    refine cv_I C tw_1042 tw_111 tw_1039 tw_1041 tw_79 pd_X8_wrong (Nat.le_of_ble_eq_true rfl) (Nat.le_of_ble_eq_true rfl) (q := 234) (kd_lt ks_234 (by decide)) (sh8 ks_234) rfl (As := [.int 1]) (rest := []) rfl rfl (Nat.le_of_ble_eq_true rfl) (c_X8_wrong l D cA B aK aV M 1 r2 hr2) dX8_sign_10 ?_
    replace h := chk_some h; obtain ⟨g3, h⟩ := h
    replace h := Option.some.inj h; subst h
    subst hQ
    exact v_zret C hr hlk (isZ_nar g3) dX8_sign_13
def m_X8_cell (M : Mem) : Option (Int32 × Mem) :=
  (m_X8_number M 37 0 5).bind fun r1 => if r1.1 = 0 then (some ((0, r1.2))) else ((m_X8_number r1.2 38 0 4).bind fun r2 => if r2.1 = 0 then (some ((0, r2.2))) else (some ((1, r2.2))))
set_option maxHeartbeats 4000000 in
set_option maxRecDepth 100000 in
theorem c_X8_cell (l : Launch) (D : va_G) (cA : cAt) (B : Nat) (aK aV : Nat → Nat) (M : Mem) (R : Int32 × Mem) (h : m_X8_cell M = some R) : CI l D cA B aK aV yX8_cell cX8_cell 1 .boolean 4 [.ref (B + 234)] M R.1 R.2 := by
  refine CI_of (by decide +kernel) (Nat.le_of_ble_eq_true rfl) ?_
  intro p e s m args below meth c C hr hlk
  have C : Cx p (rmd 4) s m args c 0 0 D cA B aK aV cX8_cell 1 RX8 := C
  generalize hQ : MQ below _ args s 0 0 _ = Q
  refine v_eq (M' := M) (pc' := 0) (L' := [(0, .ref (B + 234))]) (st' := []) ?_
  unfold m_X8_cell at h
  refine v_aload_nR (j := 0) C dX8_cell_0 rfl rfl ?_
  refine v_bipush C dX8_cell_1 ct_b_37 ?_
  refine v_iconst C dX8_cell_3 ct_i_0 ?_
  refine v_iconst C dX8_cell_4 ct_i_5 ?_
  replace h := bind_ex h; obtain ⟨r1, hr1, h⟩ := h
  refine cv_I C tw_1046 tw_111 tw_1043 tw_1045 tw_80 pd_X8_number (Nat.le_of_ble_eq_true rfl) (Nat.le_of_ble_eq_true rfl) (q := 234) (kd_lt ks_234 (by decide)) (sh8 ks_234) rfl (As := [.int 37, .int 0, .int 5]) (rest := []) rfl rfl (Nat.le_of_ble_eq_true rfl) (c_X8_number l D cA B aK aV M 37 0 5 r1 hr1) dX8_cell_5 ?_
  refine v_if_eq (tgt := 26) C dX8_cell_8 (by decide) (fun g => ?_) (fun g => ?_)
  · replace h := ite_t g h
    refine v_iconst C dX8_cell_26 ct_i_0 ?_
    replace h := Option.some.inj h; subst h
    subst hQ
    exact v_zret C hr hlk (show narrow .boolean (.int 0) = .int 0 from rfl) dX8_cell_27
  · replace h := ite_f g h
    refine v_pc (pc' := 11) rfl ?_
    refine v_aload_nR (j := 0) C dX8_cell_11 rfl rfl ?_
    refine v_bipush C dX8_cell_12 ct_b_38 ?_
    refine v_iconst C dX8_cell_14 ct_i_0 ?_
    refine v_iconst C dX8_cell_15 ct_i_4 ?_
    replace h := bind_ex h; obtain ⟨r2, hr2, h⟩ := h
    refine cv_I C tw_1046 tw_111 tw_1043 tw_1045 tw_80 pd_X8_number (Nat.le_of_ble_eq_true rfl) (Nat.le_of_ble_eq_true rfl) (q := 234) (kd_lt ks_234 (by decide)) (sh8 ks_234) rfl (As := [.int 38, .int 0, .int 4]) (rest := []) rfl rfl (Nat.le_of_ble_eq_true rfl) (c_X8_number l D cA B aK aV r1.2 38 0 4 r2 hr2) dX8_cell_16 ?_
    refine v_if_eq (tgt := 26) C dX8_cell_19 (by decide) (fun g => ?_) (fun g => ?_)
    · replace h := ite_t g h
      refine v_iconst C dX8_cell_26 ct_i_0 ?_
      replace h := Option.some.inj h; subst h
      subst hQ
      exact v_zret C hr hlk (show narrow .boolean (.int 0) = .int 0 from rfl) dX8_cell_27
    · replace h := ite_f g h
      refine v_iconst C dX8_cell_22 ct_i_1 ?_
      refine v_pc (pc' := 23) rfl ?_
      refine v_goto (tgt := 27) C dX8_cell_23 (by decide) ?_
      replace h := Option.some.inj h; subst h
      subst hQ
      exact v_zret C hr hlk (show narrow .boolean (.int 1) = .int 1 from rfl) dX8_cell_27
def m_X8_readsDrain (M : Mem) : Option (Int32 × Mem) :=
  chk (inB 2 39) (if (M 240 (2 : Int32).toNatClampNeg) = 6 then ((m_X8_wrong M 3).bind fun r13 => chk (isZ r13.1) (some ((r13.1, r13.2)))) else ((m_X8_token M).bind fun r2 => (m_X8_cell r2).bind fun r3 => if r3.1 = 0 then (some ((0, r3.2))) else ((m_X8_sign r3.2).bind fun r4 => if r4.1 = 0 then (some ((0, r4.2))) else (chk (inB 2 39) (chk (inB 2 39) (nm (mset r4.2 240 (2 : Int32).toNatClampNeg ((r4.2 240 (2 : Int32).toNatClampNeg) + 1)) fun M7 => chk (inB 4 39) (chk (inB 38 39) (chk (inB 37 39) (chk (inB 4 39) (nm (mset M7 240 (4 : Int32).toNatClampNeg ((M7 240 (4 : Int32).toNatClampNeg) ||| (1 <<< (((6 * (M7 240 (38 : Int32).toNatClampNeg)) + (M7 240 (37 : Int32).toNatClampNeg)) &&& 31)))) fun M12 => some ((1, M12))))))))))))
set_option maxHeartbeats 4000000 in
set_option maxRecDepth 100000 in
theorem c_X8_readsDrain (l : Launch) (D : va_G) (cA : cAt) (B : Nat) (aK aV : Nat → Nat) (M : Mem) (R : Int32 × Mem) (h : m_X8_readsDrain M = some R) : CI l D cA B aK aV yX8_readsDrain cX8_readsDrain 1 .boolean 5 [.ref (B + 234)] M R.1 R.2 := by
  refine CI_of (by decide +kernel) (Nat.le_of_ble_eq_true rfl) ?_
  intro p e s m args below meth c C hr hlk
  have C : Cx p (rmd 5) s m args c 0 0 D cA B aK aV cX8_readsDrain 1 RX8 := C
  generalize hQ : MQ below _ args s 0 0 _ = Q
  refine v_eq (M' := M) (pc' := 0) (L' := [(0, .ref (B + 234))]) (st' := []) ?_
  unfold m_X8_readsDrain at h
  refine v_aload_nR (j := 0) C dX8_readsDrain_0 rfl rfl ?_
  refine gf_X8_25 C ks_234 dX8_readsDrain_1 ?_
  refine v_iconst C dX8_readsDrain_4 ct_i_2 ?_
  replace h := chk_some h; obtain ⟨g1, h⟩ := h
  refine v_iald C ks_240 (inB_vp g1) dX8_readsDrain_5 ?_
  refine v_bipush C dX8_readsDrain_6 ct_b_6 ?_
  refine v_icmp_ne (tgt := 17) C dX8_readsDrain_8 (by decide) (fun g => ?_) (fun g => ?_)
  · replace h := ite_t g h
    refine v_pc (pc' := 11) rfl ?_
    refine v_aload_nR (j := 0) C dX8_readsDrain_11 rfl rfl ?_
    refine v_iconst C dX8_readsDrain_12 ct_i_3 ?_
    replace h := bind_ex h; obtain ⟨r13, hr13, h⟩ := h
    refine cv_I C tw_1042 tw_111 tw_1039 tw_1041 tw_79 pd_X8_wrong (Nat.le_of_ble_eq_true rfl) (Nat.le_of_ble_eq_true rfl) (q := 234) (kd_lt ks_234 (by decide)) (sh8 ks_234) rfl (As := [.int 3]) (rest := []) rfl rfl (Nat.le_of_ble_eq_true rfl) (c_X8_wrong l D cA B aK aV M 3 r13 hr13) dX8_readsDrain_13 ?_
    replace h := chk_some h; obtain ⟨g14, h⟩ := h
    replace h := Option.some.inj h; subst h
    subst hQ
    exact v_zret C hr hlk (isZ_nar g14) dX8_readsDrain_16
  · replace h := ite_f g h
    refine v_aload_nR (j := 0) C dX8_readsDrain_17 rfl rfl ?_
    replace h := bind_ex h; obtain ⟨r2, hr2, h⟩ := h
    refine cv_V C tw_1021 tw_111 tw_1018 tw_1020 tw_76 pd_X8_token (Nat.le_of_ble_eq_true rfl) (Nat.le_of_ble_eq_true rfl) (q := 234) (kd_lt ks_234 (by decide)) (sh8 ks_234) rfl (As := []) (rest := []) rfl rfl (Nat.le_of_ble_eq_true rfl) (c_X8_token l D cA B aK aV M r2 hr2) dX8_readsDrain_18 ?_
    refine v_aload_nR (j := 0) C dX8_readsDrain_21 rfl rfl ?_
    replace h := bind_ex h; obtain ⟨r3, hr3, h⟩ := h
    refine cv_I C tw_1059 tw_111 tw_1056 tw_1058 tw_83 pd_X8_cell (Nat.le_of_ble_eq_true rfl) (Nat.le_of_ble_eq_true rfl) (q := 234) (kd_lt ks_234 (by decide)) (sh8 ks_234) rfl (As := []) (rest := []) rfl rfl (Nat.le_of_ble_eq_true rfl) (c_X8_cell l D cA B aK aV r2 r3 hr3) dX8_readsDrain_22 ?_
    refine v_if_eq (tgt := 35) C dX8_readsDrain_25 (by decide) (fun g => ?_) (fun g => ?_)
    · replace h := ite_t g h
      refine v_iconst C dX8_readsDrain_35 ct_i_0 ?_
      replace h := Option.some.inj h; subst h
      subst hQ
      exact v_zret C hr hlk (show narrow .boolean (.int 0) = .int 0 from rfl) dX8_readsDrain_36
    · replace h := ite_f g h
      refine v_aload_nR (j := 0) C dX8_readsDrain_28 rfl rfl ?_
      refine v_pc (pc' := 29) rfl ?_
      replace h := bind_ex h; obtain ⟨r4, hr4, h⟩ := h
      refine cv_I C tw_1050 tw_111 tw_1047 tw_1049 tw_81 pd_X8_sign (Nat.le_of_ble_eq_true rfl) (Nat.le_of_ble_eq_true rfl) (q := 234) (kd_lt ks_234 (by decide)) (sh8 ks_234) rfl (As := []) (rest := []) rfl rfl (Nat.le_of_ble_eq_true rfl) (c_X8_sign l D cA B aK aV r3.2 r4 hr4) dX8_readsDrain_29 ?_
      refine v_if_ne (tgt := 37) C dX8_readsDrain_32 (by decide) (fun g => ?_) (fun g => ?_)
      · replace h := ite_t g h
        refine v_iconst C dX8_readsDrain_35 ct_i_0 ?_
        replace h := Option.some.inj h; subst h
        subst hQ
        exact v_zret C hr hlk (show narrow .boolean (.int 0) = .int 0 from rfl) dX8_readsDrain_36
      · replace h := ite_f g h
        refine v_aload_nR (j := 0) C dX8_readsDrain_37 rfl rfl ?_
        refine gf_X8_25 C ks_234 dX8_readsDrain_38 ?_
        refine v_iconst C dX8_readsDrain_41 ct_i_2 ?_
        refine v_dup2 C dX8_readsDrain_42 rfl rfl ?_
        replace h := chk_some h; obtain ⟨g5, h⟩ := h
        refine v_iald C ks_240 (inB_vp g5) dX8_readsDrain_43 ?_
        refine v_iconst C dX8_readsDrain_44 ct_i_1 ?_
        refine v_pc (pc' := 45) rfl ?_
        refine v_iadd C dX8_readsDrain_45 ?_
        replace h := chk_some h; obtain ⟨g6, h⟩ := h
        replace h := nm_ex h; obtain ⟨M7, eM7, h⟩ := h
        refine v_iast C ks_240 (inB_vp g6) dX8_readsDrain_46 ?_
        refine v_mem eM7 ?_
        refine v_aload_nR (j := 0) C dX8_readsDrain_47 rfl rfl ?_
        refine gf_X8_25 C ks_234 dX8_readsDrain_48 ?_
        refine v_iconst C dX8_readsDrain_51 ct_i_4 ?_
        refine v_dup2 C dX8_readsDrain_52 rfl rfl ?_
        replace h := chk_some h; obtain ⟨g8, h⟩ := h
        refine v_iald C ks_240 (inB_vp g8) dX8_readsDrain_53 ?_
        refine v_pc (pc' := 54) rfl ?_
        refine v_iconst C dX8_readsDrain_54 ct_i_1 ?_
        refine v_bipush C dX8_readsDrain_55 ct_b_6 ?_
        refine v_aload_nR (j := 0) C dX8_readsDrain_57 rfl rfl ?_
        refine gf_X8_25 C ks_234 dX8_readsDrain_58 ?_
        refine v_bipush C dX8_readsDrain_61 ct_b_38 ?_
        replace h := chk_some h; obtain ⟨g9, h⟩ := h
        refine v_iald C ks_240 (inB_vp g9) dX8_readsDrain_63 ?_
        refine v_imul C dX8_readsDrain_64 ?_
        refine v_pc (pc' := 65) rfl ?_
        refine v_aload_nR (j := 0) C dX8_readsDrain_65 rfl rfl ?_
        refine gf_X8_25 C ks_234 dX8_readsDrain_66 ?_
        refine v_bipush C dX8_readsDrain_69 ct_b_37 ?_
        replace h := chk_some h; obtain ⟨g10, h⟩ := h
        refine v_iald C ks_240 (inB_vp g10) dX8_readsDrain_71 ?_
        refine v_iadd C dX8_readsDrain_72 ?_
        refine v_ishl C dX8_readsDrain_73 ?_
        refine v_ior C dX8_readsDrain_74 ?_
        refine v_pc (pc' := 75) rfl ?_
        replace h := chk_some h; obtain ⟨g11, h⟩ := h
        replace h := nm_ex h; obtain ⟨M12, eM12, h⟩ := h
        refine v_iast C ks_240 (inB_vp g11) dX8_readsDrain_75 ?_
        refine v_mem eM12 ?_
        refine v_iconst C dX8_readsDrain_76 ct_i_1 ?_
        replace h := Option.some.inj h; subst h
        subst hQ
        exact v_zret C hr hlk (show narrow .boolean (.int 1) = .int 1 from rfl) dX8_readsDrain_77
