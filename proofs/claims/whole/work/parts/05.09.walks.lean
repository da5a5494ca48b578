def j_X8_laysWays_141 (M : Mem) (x2 : Int32) (x3 : Int32) (x4 : Int32) (x5 : Int32) (x6 : Int32) (x8 : Int32) (s0 : Int32) (s1 : Int32) : Option ((Int32 × Mem) ⊕ Mem) :=
  chk (inB s1 19) (nm (mset M 247 s1.toNatClampNeg s0) fun M8 => nm (mset M8 234 24 ((M8 234 24) + 1)) fun M9 => some (.inl (x8 + 1, M9)))
def j_X8_laysWays_139 (M : Mem) (x2 : Int32) (x3 : Int32) (x4 : Int32) (x5 : Int32) (x6 : Int32) (x8 : Int32) (s0 : Int32) : Option ((Int32 × Mem) ⊕ Mem) :=
  j_X8_laysWays_141 M x2 x3 x4 x5 x6 x8 (-1000000) s0
def b_X8_laysWays_88 (M : Mem) (x2 : Int32) (x3 : Int32) (x4 : Int32) (x5 : Int32) (x6 : Int32) (x8 : Int32) : Option ((Int32 × Mem) ⊕ Mem) :=
  if x2 < x8 then (some (.inr M)) else ((m_X8_in M x6.toInt64 0 5).bind fun r10 => if r10 = 0 then (j_X8_laysWays_139 M x2 x3 x4 x5 x6 x8 (M 234 24)) else ((m_X8_in M x5.toInt64 0 4).bind fun r11 => if r11 = 0 then (j_X8_laysWays_139 M x2 x3 x4 x5 x6 x8 (M 234 24)) else (j_X8_laysWays_141 M x2 x3 x4 x5 x6 x8 ((6 * x5) + x6) (M 234 24))))
def j_X8_laysWays_81 (M : Mem) (x2 : Int32) (x3 : Int32) (x4 : Int32) (x5 : Int32) (x6 : Int32) (s0 : Int32) (s1 : Int32) : Option ((Int32 × Mem) ⊕ Mem) :=
  nm (s1 + s0) fun y6 => (loopF (fun z => b_X8_laysWays_88 z.2 x2 x3 x4 x5 x6 z.1) FUEL (y6, M)).bind fun z12 => some (.inl (x6 + 1, z12))
def j_X8_laysWays_61 (M : Mem) (x2 : Int32) (x3 : Int32) (x4 : Int32) (x5 : Int32) (x6 : Int32) (s0 : Int32) : Option ((Int32 × Mem) ⊕ Mem) :=
  if x4 ≤ x5 then (j_X8_laysWays_81 M x2 x3 x4 x5 x6 (x5 - x4) s0) else (j_X8_laysWays_81 M x2 x3 x4 x5 x6 (x4 - x5) s0)
def b_X8_laysWays_36 (M : Mem) (x2 : Int32) (x3 : Int32) (x4 : Int32) (x5 : Int32) (x6 : Int32) : Option ((Int32 × Mem) ⊕ Mem) :=
  if (x3 + x2) < x6 then (some (.inr M)) else (if x3 ≤ x6 then (j_X8_laysWays_61 M x2 x3 x4 x5 x6 (x6 - x3)) else (j_X8_laysWays_61 M x2 x3 x4 x5 x6 (x3 - x6)))
def b_X8_laysWays_22 (M : Mem) (x2 : Int32) (x3 : Int32) (x4 : Int32) (x5 : Int32) : Option ((Int32 × Mem) ⊕ Mem) :=
  if (x4 + x2) < x5 then (some (.inr M)) else (nm (x3 - x2) fun y5 => (loopF (fun z => b_X8_laysWays_36 z.2 x2 x3 x4 x5 z.1) FUEL (y5, M)).bind fun z13 => some (.inl (x5 + 1, z13)))
def m_X8_laysWays (M : Mem) (x1 : Int32) (x2 : Int32) : Option Mem :=
  nm (mset M 234 24 0) fun M1 => nm (x1 % 6) fun y2 => nm (x1 / 6) fun y3 => nm (y3 - x2) fun y4 => (loopF (fun z => b_X8_laysWays_22 z.2 x2 y2 y3 z.1) FUEL (y4, M1)).bind fun z14 => some z14
set_option maxHeartbeats 4000000 in
set_option maxRecDepth 100000 in
theorem c_X8_laysWays (l : Launch) (D : va_G) (cA : cAt) (B : Nat) (aK aV : Nat → Nat) (M : Mem) (x1 : Int32) (x2 : Int32) (R : Mem) (h : m_X8_laysWays M x1 x2 = some R) : CV l D cA B aK aV yX8_laysWays cX8_laysWays 9 1 [.ref (B + 234), .int x1, .int x2] M R := by
  refine CV_of (by decide +kernel) (Nat.le_of_ble_eq_true rfl) ?_
  intro p e s m args below meth c C hr hlk
  have C : Cx p (rmd 1) s m args c 0 0 D cA B aK aV cX8_laysWays 9 RX8 := C
  generalize hQ : MQ below _ args s 0 0 _ = Q
  refine v_eq (M' := M) (pc' := 0) (L' := [(0, .ref (B + 234)), (1, .int x1), (2, .int x2)]) (st' := []) ?_
  unfold m_X8_laysWays at h
  refine v_aload_nR (j := 0) C dX8_laysWays_0 rfl rfl ?_
  refine v_iconst C dX8_laysWays_1 ct_i_0 ?_
  replace h := nm_ex h; obtain ⟨M1, eM1, h⟩ := h
  refine pf_X8_186 C ks_234 dX8_laysWays_2 ?_
  refine v_mem eM1 ?_
  refine v_iload_n (j := 1) C dX8_laysWays_5 rfl rfl ?_
  refine v_bipush C dX8_laysWays_6 ct_b_6 ?_
  refine v_irem C dX8_laysWays_8 (by decide) ?_
  refine v_pc (pc' := 9) rfl ?_
  replace h := nm_ex h; obtain ⟨y2, ey2, h⟩ := h
  refine v_topI ey2 ?_
  refine v_istore_n (L' := [(3, .int y2), (0, .ref (B + 234)), (1, .int x1), (2, .int x2)]) C dX8_laysWays_9 rfl (by decide) rfl ?_
  refine v_iload_n (j := 2) C dX8_laysWays_10 rfl rfl ?_
  refine v_bipush C dX8_laysWays_11 ct_b_6 ?_
  refine v_idiv C dX8_laysWays_13 (by decide) ?_
  replace h := nm_ex h; obtain ⟨y3, ey3, h⟩ := h
  refine v_topI ey3 ?_
  refine v_istore (L' := [(4, .int y3), (3, .int y2), (0, .ref (B + 234)), (1, .int x1), (2, .int x2)]) C dX8_laysWays_14 (by decide) rfl ?_
  refine v_iload (j := 0) C dX8_laysWays_16 rfl ?_
  refine v_iload_n (j := 4) C dX8_laysWays_18 rfl rfl ?_
  refine v_pc (pc' := 19) rfl ?_
  refine v_isub C dX8_laysWays_19 ?_
  replace h := nm_ex h; obtain ⟨y4, ey4, h⟩ := h
  refine v_topI ey4 ?_
  refine v_istore (L' := [(5, .int y4), (4, .int y3), (3, .int y2), (0, .ref (B + 234)), (1, .int x1), (2, .int x2)]) C dX8_laysWays_20 (by decide) rfl ?_
  have LB22 : ∀ (M : Mem) (x3 : Int32) (x4 : Int32) (x5 : Int32) (o22 : (Int32 × Mem) ⊕ Mem) (h : b_X8_laysWays_22 M x2 x3 x4 x5 = some o22) (hc22 : ∀ z : Int32 × Mem, o22 = .inl z → V p l e (rmd 1) s m args below meth c 0 0 D cA B 9 Q z.2 22 [(0, .ref (B + 234)), (2, .int x2), (3, .int x3), (4, .int x4), (5, .int z.1)] []) (he22 : ∀ z : Mem, o22 = .inr z → V p l e (rmd 1) s m args below meth c 0 0 D cA B 9 Q z 170 [] []), V p l e (rmd 1) s m args below meth c 0 0 D cA B 9 Q M 22 [(0, .ref (B + 234)), (2, .int x2), (3, .int x3), (4, .int x4), (5, .int x5)] [] := by
    intro M x3 x4 x5 o22 h hc22 he22
    unfold b_X8_laysWays_22 at h
    refine v_iload (j := 4) C dX8_laysWays_22 rfl ?_
    refine v_iload (j := 3) C dX8_laysWays_24 rfl ?_
    refine v_iload_n (j := 1) C dX8_laysWays_26 rfl rfl ?_
    refine v_iadd C dX8_laysWays_27 ?_
    refine v_icmp_gt (tgt := 170) C dX8_laysWays_28 (by decide) (fun g => ?_) (fun g => ?_)
    · replace h := ite_t g h
      replace h := Option.some.inj h; subst h
      refine v_sub [] rfl ?_
      exact he22 M rfl
    · replace h := ite_f g h
      refine v_iload_n (j := 2) C dX8_laysWays_31 rfl rfl ?_
      refine v_pc (pc' := 32) rfl ?_
      refine v_iload_n (j := 1) C dX8_laysWays_32 rfl rfl ?_
      refine v_isub C dX8_laysWays_33 ?_
      replace h := nm_ex h; obtain ⟨y5, ey5, h⟩ := h
      refine v_topI ey5 ?_
      refine v_istore (L' := [(6, .int y5), (0, .ref (B + 234)), (2, .int x2), (3, .int x3), (4, .int x4), (5, .int x5)]) C dX8_laysWays_34 (by decide) rfl ?_
      have LB36 : ∀ (M : Mem) (x3 : Int32) (x4 : Int32) (x5 : Int32) (x6 : Int32) (o36 : (Int32 × Mem) ⊕ Mem) (h : b_X8_laysWays_36 M x2 x3 x4 x5 x6 = some o36) (hc36 : ∀ z : Int32 × Mem, o36 = .inl z → V p l e (rmd 1) s m args below meth c 0 0 D cA B 9 Q z.2 36 [(0, .ref (B + 234)), (2, .int x2), (3, .int x3), (4, .int x4), (5, .int x5), (6, .int z.1)] []) (he36 : ∀ z : Mem, o36 = .inr z → V p l e (rmd 1) s m args below meth c 0 0 D cA B 9 Q z 164 [(0, .ref (B + 234)), (2, .int x2), (3, .int x3), (4, .int x4), (5, .int x5)] []), V p l e (rmd 1) s m args below meth c 0 0 D cA B 9 Q M 36 [(0, .ref (B + 234)), (2, .int x2), (3, .int x3), (4, .int x4), (5, .int x5), (6, .int x6)] [] := by
        intro M x3 x4 x5 x6 o36 h hc36 he36
        unfold b_X8_laysWays_36 at h
        have J81 : ∀ (M : Mem) (x6 : Int32) (s0 : Int32) (s1 : Int32), j_X8_laysWays_81 M x2 x3 x4 x5 x6 s0 s1 = some o36 → V p l e (rmd 1) s m args below meth c 0 0 D cA B 9 Q M 81 [(0, .ref (B + 234)), (2, .int x2), (3, .int x3), (4, .int x4), (5, .int x5), (6, .int x6)] [.int s0, .int s1] := by
          intro M x6 s0 s1 h
          unfold j_X8_laysWays_81 at h
          refine v_iadd C dX8_laysWays_81 ?_
          replace h := nm_ex h; obtain ⟨y6, ey6, h⟩ := h
          refine v_topI ey6 ?_
          refine v_istore (L' := [(7, .int y6), (0, .ref (B + 234)), (2, .int x2), (3, .int x3), (4, .int x4), (5, .int x5), (6, .int x6)]) C dX8_laysWays_82 (by decide) rfl ?_
          refine v_iload (j := 0) C dX8_laysWays_84 rfl ?_
          refine v_istore (L' := [(8, .int y6), (7, .int y6), (0, .ref (B + 234)), (2, .int x2), (3, .int x3), (4, .int x4), (5, .int x5), (6, .int x6)]) C dX8_laysWays_86 (by decide) rfl ?_
          have LB88 : ∀ (M : Mem) (x3 : Int32) (x4 : Int32) (x5 : Int32) (x6 : Int32) (x8 : Int32) (o88 : (Int32 × Mem) ⊕ Mem) (h : b_X8_laysWays_88 M x2 x3 x4 x5 x6 x8 = some o88) (hc88 : ∀ z : Int32 × Mem, o88 = .inl z → V p l e (rmd 1) s m args below meth c 0 0 D cA B 9 Q z.2 88 [(0, .ref (B + 234)), (2, .int x2), (3, .int x3), (4, .int x4), (5, .int x5), (6, .int x6), (8, .int z.1)] []) (he88 : ∀ z : Mem, o88 = .inr z → V p l e (rmd 1) s m args below meth c 0 0 D cA B 9 Q z 158 [(0, .ref (B + 234)), (2, .int x2), (3, .int x3), (4, .int x4), (5, .int x5), (6, .int x6)] []), V p l e (rmd 1) s m args below meth c 0 0 D cA B 9 Q M 88 [(0, .ref (B + 234)), (2, .int x2), (3, .int x3), (4, .int x4), (5, .int x5), (6, .int x6), (8, .int x8)] [] := by
            intro M x3 x4 x5 x6 x8 o88 h hc88 he88
            unfold b_X8_laysWays_88 at h
            have J141 : ∀ (M : Mem) (x8 : Int32) (s0 : Int32) (s1 : Int32), j_X8_laysWays_141 M x2 x3 x4 x5 x6 x8 s0 s1 = some o88 → V p l e (rmd 1) s m args below meth c 0 0 D cA B 9 Q M 141 [(0, .ref (B + 234)), (2, .int x2), (3, .int x3), (4, .int x4), (5, .int x5), (6, .int x6), (8, .int x8)] [.int s0, .int s1, .ref (B + 247)] := by
              intro M x8 s0 s1 h
              unfold j_X8_laysWays_141 at h
              replace h := chk_some h; obtain ⟨g7, h⟩ := h
              replace h := nm_ex h; obtain ⟨M8, eM8, h⟩ := h
              refine v_iast C ks_247 (inB_vp g7) dX8_laysWays_141 ?_
              refine v_mem eM8 ?_
              refine v_aload_nR (j := 0) C dX8_laysWays_142 rfl rfl ?_
              refine v_dup C dX8_laysWays_143 rfl ?_
              refine gf_X8_186 C ks_234 dX8_laysWays_144 ?_
              refine v_iconst C dX8_laysWays_147 ct_i_1 ?_
              refine v_iadd C dX8_laysWays_148 ?_
              refine v_pc (pc' := 149) rfl ?_
              replace h := nm_ex h; obtain ⟨M9, eM9, h⟩ := h
              refine pf_X8_186 C ks_234 dX8_laysWays_149 ?_
              refine v_mem eM9 ?_
              refine v_iinc (j := 6) (L' := [(8, .int (x8 + 1)), (0, .ref (B + 234)), (2, .int x2), (3, .int x3), (4, .int x4), (5, .int x5), (6, .int x6)]) C dX8_laysWays_152 rfl (congrArg (fun z => _ + z) ct_i_1) (by decide) rfl ?_
              refine v_goto (tgt := 88) C dX8_laysWays_155 (by decide) ?_
              replace h := Option.some.inj h; subst h
              refine v_sub [1, 2, 3, 4, 5, 6, 0] rfl ?_
              exact hc88 (x8 + 1, M9) rfl
            have J139 : ∀ (M : Mem) (x8 : Int32) (s0 : Int32), j_X8_laysWays_139 M x2 x3 x4 x5 x6 x8 s0 = some o88 → V p l e (rmd 1) s m args below meth c 0 0 D cA B 9 Q M 139 [(0, .ref (B + 234)), (2, .int x2), (3, .int x3), (4, .int x4), (5, .int x5), (6, .int x6), (8, .int x8)] [.int s0, .ref (B + 247)] := by
              intro M x8 s0 h
              unfold j_X8_laysWays_139 at h
              refine v_ldc C tw_1105 dX8_laysWays_139 ?_
              refine v_sub [0, 1, 2, 3, 4, 5, 6] rfl ?_
              exact J141 M x8 (-1000000) s0 h
            refine v_iload (j := 6) C dX8_laysWays_88 rfl ?_
            refine v_iload_n (j := 1) C dX8_laysWays_90 rfl rfl ?_
            refine v_icmp_gt (tgt := 158) C dX8_laysWays_91 (by decide) (fun g => ?_) (fun g => ?_)
            · replace h := ite_t g h
              replace h := Option.some.inj h; subst h
              refine v_sub [0, 1, 2, 3, 4, 5] rfl ?_
              exact he88 M rfl
            · replace h := ite_f g h
              refine v_aload_nR (j := 0) C dX8_laysWays_94 rfl rfl ?_
              refine gf_X8_47 C ks_234 dX8_laysWays_95 ?_
              refine v_aload_nR (j := 0) C dX8_laysWays_98 rfl rfl ?_
              refine v_pc (pc' := 99) rfl ?_
              refine gf_X8_186 C ks_234 dX8_laysWays_99 ?_
              refine v_iload (j := 5) C dX8_laysWays_102 rfl ?_
              refine v_i2l C dX8_laysWays_104 ?_
              refine v_lconst (v := 0) C dX8_laysWays_105 rfl ?_
              refine v_ldc2 C tw_1117 dX8_laysWays_106 ?_
              replace h := bind_ex h; obtain ⟨r10, hr10, h⟩ := h
              refine cs_I C tw_979 tw_111 tw_977 tw_978 pd_X8_in (Nat.le_of_ble_eq_true rfl) (Nat.le_of_ble_eq_true rfl) (As := [.long x6.toInt64, .long 0, .long 5]) (rest := [.int (M 234 24), .ref (B + 247)]) rfl rfl (Nat.le_of_ble_eq_true rfl) (c_X8_in l D cA B aK aV M x6.toInt64 0 5 r10 hr10) dX8_laysWays_109 ?_
              refine v_if_eq (tgt := 139) C dX8_laysWays_112 (by decide) (fun g => ?_) (fun g => ?_)
              · replace h := ite_t g h
                refine v_sub [0, 1, 2, 3, 4, 5, 6] rfl ?_
                exact J139 M x8 (M 234 24) h
              · replace h := ite_f g h
                refine v_pc (pc' := 115) rfl ?_
                refine v_iload (j := 4) C dX8_laysWays_115 rfl ?_
                refine v_i2l C dX8_laysWays_117 ?_
                refine v_lconst (v := 0) C dX8_laysWays_118 rfl ?_
                refine v_ldc2 C tw_1118 dX8_laysWays_119 ?_
                replace h := bind_ex h; obtain ⟨r11, hr11, h⟩ := h
                refine cs_I C tw_979 tw_111 tw_977 tw_978 pd_X8_in (Nat.le_of_ble_eq_true rfl) (Nat.le_of_ble_eq_true rfl) (As := [.long x5.toInt64, .long 0, .long 4]) (rest := [.int (M 234 24), .ref (B + 247)]) rfl rfl (Nat.le_of_ble_eq_true rfl) (c_X8_in l D cA B aK aV M x5.toInt64 0 4 r11 hr11) dX8_laysWays_122 ?_
                refine v_if_eq (tgt := 139) C dX8_laysWays_125 (by decide) (fun g => ?_) (fun g => ?_)
                · replace h := ite_t g h
                  refine v_sub [0, 1, 2, 3, 4, 5, 6] rfl ?_
                  exact J139 M x8 (M 234 24) h
                · replace h := ite_f g h
                  refine v_bipush C dX8_laysWays_128 ct_b_6 ?_
                  refine v_pc (pc' := 130) rfl ?_
                  refine v_iload (j := 4) C dX8_laysWays_130 rfl ?_
                  refine v_imul C dX8_laysWays_132 ?_
                  refine v_iload (j := 5) C dX8_laysWays_133 rfl ?_
                  refine v_iadd C dX8_laysWays_135 ?_
                  refine v_goto (tgt := 141) C dX8_laysWays_136 (by decide) ?_
                  refine v_sub [0, 1, 2, 3, 4, 5, 6] rfl ?_
                  exact J141 M x8 ((6 * x5) + x6) (M 234 24) h
          replace h := bind_ex h; obtain ⟨z12, hz12, h⟩ := h
          refine v_sub [2, 3, 4, 5, 6, 7, 0] rfl ?_
          refine loopF_walk (Pσ := fun z => V p l e (rmd 1) s m args below meth c 0 0 D cA B 9 Q z.2 88 [(0, .ref (B + 234)), (2, .int x2), (3, .int x3), (4, .int x4), (5, .int x5), (6, .int x6), (8, .int z.1)] []) (Pρ := fun y => V p l e (rmd 1) s m args below meth c 0 0 D cA B 9 Q y 158 [(0, .ref (B + 234)), (2, .int x2), (3, .int x3), (4, .int x4), (5, .int x5), (6, .int x6)] []) ?_ FUEL (y6, M) z12 hz12 ?_
          · intro z o hb hc he
            exact LB88 z.2 x3 x4 x5 x6 z.1 o hb hc he
          · refine v_iinc (j := 5) (L' := [(6, .int (x6 + 1)), (0, .ref (B + 234)), (2, .int x2), (3, .int x3), (4, .int x4), (5, .int x5)]) C dX8_laysWays_158 rfl (congrArg (fun z => _ + z) ct_i_1) (by decide) rfl ?_
            refine v_goto (tgt := 36) C dX8_laysWays_161 (by decide) ?_
            replace h := Option.some.inj h; subst h
            refine v_sub [1, 2, 3, 4, 5, 0] rfl ?_
            exact hc36 (x6 + 1, z12) rfl
        have J61 : ∀ (M : Mem) (x6 : Int32) (s0 : Int32), j_X8_laysWays_61 M x2 x3 x4 x5 x6 s0 = some o36 → V p l e (rmd 1) s m args below meth c 0 0 D cA B 9 Q M 61 [(0, .ref (B + 234)), (2, .int x2), (3, .int x3), (4, .int x4), (5, .int x5), (6, .int x6)] [.int s0] := by
          intro M x6 s0 h
          unfold j_X8_laysWays_61 at h
          refine v_iload (j := 4) C dX8_laysWays_61 rfl ?_
          refine v_iload (j := 3) C dX8_laysWays_63 rfl ?_
          refine v_icmp_ge (tgt := 76) C dX8_laysWays_65 (by decide) (fun g => ?_) (fun g => ?_)
          · replace h := ite_t g h
            refine v_iload (j := 4) C dX8_laysWays_76 rfl ?_
            refine v_iload (j := 3) C dX8_laysWays_78 rfl ?_
            refine v_isub C dX8_laysWays_80 ?_
            refine v_sub [0, 1, 2, 3, 4, 5] rfl ?_
            exact J81 M x6 (x5 - x4) s0 h
          · replace h := ite_f g h
            refine v_iload (j := 3) C dX8_laysWays_68 rfl ?_
            refine v_iload (j := 4) C dX8_laysWays_70 rfl ?_
            refine v_isub C dX8_laysWays_72 ?_
            refine v_pc (pc' := 73) rfl ?_
            refine v_goto (tgt := 81) C dX8_laysWays_73 (by decide) ?_
            refine v_sub [0, 1, 2, 3, 4, 5] rfl ?_
            exact J81 M x6 (x4 - x5) s0 h
        refine v_iload (j := 5) C dX8_laysWays_36 rfl ?_
        refine v_iload_n (j := 2) C dX8_laysWays_38 rfl rfl ?_
        refine v_iload_n (j := 1) C dX8_laysWays_39 rfl rfl ?_
        refine v_iadd C dX8_laysWays_40 ?_
        refine v_icmp_gt (tgt := 164) C dX8_laysWays_41 (by decide) (fun g => ?_) (fun g => ?_)
        · replace h := ite_t g h
          replace h := Option.some.inj h; subst h
          refine v_sub [0, 1, 2, 3, 4] rfl ?_
          exact he36 M rfl
        · replace h := ite_f g h
          refine v_iload (j := 5) C dX8_laysWays_44 rfl ?_
          refine v_pc (pc' := 46) rfl ?_
          refine v_iload_n (j := 2) C dX8_laysWays_46 rfl rfl ?_
          refine v_icmp_ge (tgt := 57) C dX8_laysWays_47 (by decide) (fun g => ?_) (fun g => ?_)
          · replace h := ite_t g h
            refine v_iload (j := 5) C dX8_laysWays_57 rfl ?_
            refine v_iload_n (j := 2) C dX8_laysWays_59 rfl rfl ?_
            refine v_isub C dX8_laysWays_60 ?_
            refine v_sub [0, 1, 2, 3, 4, 5] rfl ?_
            exact J61 M x6 (x6 - x3) h
          · replace h := ite_f g h
            refine v_iload_n (j := 2) C dX8_laysWays_50 rfl rfl ?_
            refine v_iload (j := 5) C dX8_laysWays_51 rfl ?_
            refine v_isub C dX8_laysWays_53 ?_
            refine v_goto (tgt := 61) C dX8_laysWays_54 (by decide) ?_
            refine v_sub [0, 1, 2, 3, 4, 5] rfl ?_
            exact J61 M x6 (x3 - x6) h
      replace h := bind_ex h; obtain ⟨z13, hz13, h⟩ := h
      refine v_sub [1, 2, 3, 4, 5, 0] rfl ?_
      refine loopF_walk (Pσ := fun z => V p l e (rmd 1) s m args below meth c 0 0 D cA B 9 Q z.2 36 [(0, .ref (B + 234)), (2, .int x2), (3, .int x3), (4, .int x4), (5, .int x5), (6, .int z.1)] []) (Pρ := fun y => V p l e (rmd 1) s m args below meth c 0 0 D cA B 9 Q y 164 [(0, .ref (B + 234)), (2, .int x2), (3, .int x3), (4, .int x4), (5, .int x5)] []) ?_ FUEL (y5, M) z13 hz13 ?_
      · intro z o hb hc he
        exact LB36 z.2 x3 x4 x5 z.1 o hb hc he
      · refine v_iinc (j := 4) (L' := [(5, .int (x5 + 1)), (0, .ref (B + 234)), (2, .int x2), (3, .int x3), (4, .int x4)]) C dX8_laysWays_164 rfl (congrArg (fun z => _ + z) ct_i_1) (by decide) rfl ?_
        refine v_goto (tgt := 22) C dX8_laysWays_167 (by decide) ?_
        replace h := Option.some.inj h; subst h
        refine v_sub [1, 2, 3, 4, 0] rfl ?_
        exact hc22 (x5 + 1, z13) rfl
  replace h := bind_ex h; obtain ⟨z14, hz14, h⟩ := h
  refine v_sub [3, 5, 2, 1, 0] rfl ?_
  refine loopF_walk (Pσ := fun z => V p l e (rmd 1) s m args below meth c 0 0 D cA B 9 Q z.2 22 [(0, .ref (B + 234)), (2, .int x2), (3, .int y2), (4, .int y3), (5, .int z.1)] []) (Pρ := fun y => V p l e (rmd 1) s m args below meth c 0 0 D cA B 9 Q y 170 [] []) ?_ FUEL (y4, M1) z14 hz14 ?_
  · intro z o hb hc he
    exact LB22 z.2 y2 y3 z.1 o hb hc he
  · replace h := Option.some.inj h; subst h
    subst hQ
    exact v_vret C hr hlk dX8_laysWays_170
def b_X8_waysOf_4 (M : Mem) (x1 : Int32) (x2 : Int32) (x3 : Int32) : Option ((Int32 × Int32) ⊕ Int32) :=
  if (M 234 24) ≤ x3 then (some (.inr x2)) else (chk (inB x3 19) (if (M 247 x3.toNatClampNeg) = (-1000000) then (nm (x2 + 0) fun y2 => some (.inl (y2, x3 + 1))) else (chk (inB x3 19) ((m_X8_pickerOf M (M 247 x3.toNatClampNeg)).bind fun r4 => if r4 = x1 then (nm (x2 + 1) fun y6 => some (.inl (y6, x3 + 1))) else (nm (x2 + 0) fun y5 => some (.inl (y5, x3 + 1)))))))
def m_X8_waysOf (M : Mem) (x1 : Int32) : Option Int32 :=
  (loopF (fun z => b_X8_waysOf_4 M x1 z.1 z.2) FUEL (0, 0)).bind fun z7 => some z7
set_option maxHeartbeats 4000000 in
set_option maxRecDepth 100000 in
theorem c_X8_waysOf (l : Launch) (D : va_G) (cA : cAt) (B : Nat) (aK aV : Nat → Nat) (M : Mem) (x1 : Int32) (R : Int32) (h : m_X8_waysOf M x1 = some R) : CI l D cA B aK aV yX8_waysOf cX8_waysOf 4 .int 3 [.ref (B + 234), .int x1] M R M := by
  refine CI_of (by decide +kernel) (Nat.le_of_ble_eq_true rfl) ?_
  intro p e s m args below meth c C hr hlk
  have C : Cx p (rmd 3) s m args c 0 0 D cA B aK aV cX8_waysOf 4 RX8 := C
  generalize hQ : MQ below _ args s 0 0 _ = Q
  refine v_eq (M' := M) (pc' := 0) (L' := [(0, .ref (B + 234)), (1, .int x1)]) (st' := []) ?_
  unfold m_X8_waysOf at h
  refine v_iconst C dX8_waysOf_0 ct_i_0 ?_
  refine v_istore_n (L' := [(2, .int 0), (0, .ref (B + 234)), (1, .int x1)]) C dX8_waysOf_1 rfl (by decide) rfl ?_
  refine v_iconst C dX8_waysOf_2 ct_i_0 ?_
  refine v_istore_n (L' := [(3, .int 0), (2, .int 0), (0, .ref (B + 234)), (1, .int x1)]) C dX8_waysOf_3 rfl (by decide) rfl ?_
  have LB4 : ∀  (x2 : Int32) (x3 : Int32) (o4 : (Int32 × Int32) ⊕ Int32) (h : b_X8_waysOf_4 M x1 x2 x3 = some o4) (hc4 : ∀ z : Int32 × Int32, o4 = .inl z → V p l e (rmd 3) s m args below meth c 0 0 D cA B 4 Q M 4 [(0, .ref (B + 234)), (1, .int x1), (2, .int z.1), (3, .int z.2)] []) (he4 : ∀ z : Int32, o4 = .inr z → V p l e (rmd 3) s m args below meth c 0 0 D cA B 4 Q M 51 [(2, .int z)] []), V p l e (rmd 3) s m args below meth c 0 0 D cA B 4 Q M 4 [(0, .ref (B + 234)), (1, .int x1), (2, .int x2), (3, .int x3)] [] := by
    intro x2 x3 o4 h hc4 he4
    unfold b_X8_waysOf_4 at h
    refine v_iload_n (j := 3) C dX8_waysOf_4 rfl rfl ?_
    refine v_aload_nR (j := 0) C dX8_waysOf_5 rfl rfl ?_
    refine gf_X8_186 C ks_234 dX8_waysOf_6 ?_
    refine v_icmp_ge (tgt := 51) C dX8_waysOf_9 (by decide) (fun g => ?_) (fun g => ?_)
    · replace h := ite_t g h
      replace h := Option.some.inj h; subst h
      refine v_sub [2] rfl ?_
      exact he4 x2 rfl
    · replace h := ite_f g h
      refine v_iload_n (j := 2) C dX8_waysOf_12 rfl rfl ?_
      refine v_aload_nR (j := 0) C dX8_waysOf_13 rfl rfl ?_
      refine v_pc (pc' := 14) rfl ?_
      refine gf_X8_47 C ks_234 dX8_waysOf_14 ?_
      refine v_iload_n (j := 3) C dX8_waysOf_17 rfl rfl ?_
      replace h := chk_some h; obtain ⟨g1, h⟩ := h
      refine v_iald C ks_247 (inB_vp g1) dX8_waysOf_18 ?_
      refine v_ldc C tw_1105 dX8_waysOf_19 ?_
      refine v_icmp_eq (tgt := 42) C dX8_waysOf_21 (by decide) (fun g => ?_) (fun g => ?_)
      · replace h := ite_t g h
        refine v_iconst C dX8_waysOf_42 ct_i_0 ?_
        refine v_iadd C dX8_waysOf_43 ?_
        replace h := nm_ex h; obtain ⟨y2, ey2, h⟩ := h
        refine v_topI ey2 ?_
        refine v_istore_n (L' := [(2, .int y2), (0, .ref (B + 234)), (1, .int x1), (3, .int x3)]) C dX8_waysOf_44 rfl (by decide) rfl ?_
        refine v_iinc (j := 3) (L' := [(3, .int (x3 + 1)), (2, .int y2), (0, .ref (B + 234)), (1, .int x1)]) C dX8_waysOf_45 rfl (congrArg (fun z => _ + z) ct_i_1) (by decide) rfl ?_
        refine v_goto (tgt := 4) C dX8_waysOf_48 (by decide) ?_
        replace h := Option.some.inj h; subst h
        refine v_sub [2, 3, 1, 0] rfl ?_
        exact hc4 (y2, x3 + 1) rfl
      · replace h := ite_f g h
        refine v_aload_nR (j := 0) C dX8_waysOf_24 rfl rfl ?_
        refine v_aload_nR (j := 0) C dX8_waysOf_25 rfl rfl ?_
        refine v_pc (pc' := 26) rfl ?_
        refine gf_X8_47 C ks_234 dX8_waysOf_26 ?_
        refine v_iload_n (j := 3) C dX8_waysOf_29 rfl rfl ?_
        replace h := chk_some h; obtain ⟨g3, h⟩ := h
        refine v_iald C ks_247 (inB_vp g3) dX8_waysOf_30 ?_
        replace h := bind_ex h; obtain ⟨r4, hr4, h⟩ := h
        refine cv_I C tw_1104 tw_111 tw_1101 tw_1103 tw_88 pd_X8_pickerOf (Nat.le_of_ble_eq_true rfl) (Nat.le_of_ble_eq_true rfl) (q := 234) (kd_lt ks_234 (by decide)) (sh8 ks_234) rfl (As := [.int (M 247 x3.toNatClampNeg)]) (rest := [.int x2]) rfl rfl (Nat.le_of_ble_eq_true rfl) (c_X8_pickerOf l D cA B aK aV M (M 247 x3.toNatClampNeg) r4 hr4) dX8_waysOf_31 ?_
        refine v_iload_n (j := 1) C dX8_waysOf_34 rfl rfl ?_
        refine v_icmp_ne (tgt := 42) C dX8_waysOf_35 (by decide) (fun g => ?_) (fun g => ?_)
        · replace h := ite_t g h
          refine v_iconst C dX8_waysOf_38 ct_i_1 ?_
          refine v_pc (pc' := 39) rfl ?_
          refine v_goto (tgt := 43) C dX8_waysOf_39 (by decide) ?_
          refine v_iadd C dX8_waysOf_43 ?_
          replace h := nm_ex h; obtain ⟨y6, ey6, h⟩ := h
          refine v_topI ey6 ?_
          refine v_istore_n (L' := [(2, .int y6), (0, .ref (B + 234)), (1, .int x1), (3, .int x3)]) C dX8_waysOf_44 rfl (by decide) rfl ?_
          refine v_iinc (j := 3) (L' := [(3, .int (x3 + 1)), (2, .int y6), (0, .ref (B + 234)), (1, .int x1)]) C dX8_waysOf_45 rfl (congrArg (fun z => _ + z) ct_i_1) (by decide) rfl ?_
          refine v_goto (tgt := 4) C dX8_waysOf_48 (by decide) ?_
          replace h := Option.some.inj h; subst h
          refine v_sub [2, 3, 1, 0] rfl ?_
          exact hc4 (y6, x3 + 1) rfl
        · replace h := ite_f g h
          refine v_iconst C dX8_waysOf_42 ct_i_0 ?_
          refine v_iadd C dX8_waysOf_43 ?_
          replace h := nm_ex h; obtain ⟨y5, ey5, h⟩ := h
          refine v_topI ey5 ?_
          refine v_istore_n (L' := [(2, .int y5), (0, .ref (B + 234)), (1, .int x1), (3, .int x3)]) C dX8_waysOf_44 rfl (by decide) rfl ?_
          refine v_iinc (j := 3) (L' := [(3, .int (x3 + 1)), (2, .int y5), (0, .ref (B + 234)), (1, .int x1)]) C dX8_waysOf_45 rfl (congrArg (fun z => _ + z) ct_i_1) (by decide) rfl ?_
          refine v_goto (tgt := 4) C dX8_waysOf_48 (by decide) ?_
          replace h := Option.some.inj h; subst h
          refine v_sub [2, 3, 1, 0] rfl ?_
          exact hc4 (y5, x3 + 1) rfl
  replace h := bind_ex h; obtain ⟨z7, hz7, h⟩ := h
  refine v_sub [2, 3, 1, 0] rfl ?_
  refine loopF_walk (Pσ := fun z => V p l e (rmd 3) s m args below meth c 0 0 D cA B 4 Q M 4 [(0, .ref (B + 234)), (1, .int x1), (2, .int z.1), (3, .int z.2)] []) (Pρ := fun y => V p l e (rmd 3) s m args below meth c 0 0 D cA B 4 Q M 51 [(2, .int y)] []) ?_ FUEL (0, 0) z7 hz7 ?_
  · intro z o hb hc he
    exact LB4 z.1 z.2 o hb hc he
  · refine v_iload_n (j := 0) C dX8_waysOf_51 rfl rfl ?_
    replace h := Option.some.inj h; subst h
    subst hQ
    exact v_iret C hr hlk dX8_waysOf_52
def b_X8_keeps_51 (M : Mem) (x1 : Int32) : Option ((Int32 × Mem) ⊕ Mem) :=
  if 39 ≤ x1 then (some (.inr M)) else (chk (inB x1 39) (chk (inB ((39 * (M 234 10)) + x1) 936) (nm (mset M 241 ((39 * (M 234 10)) + x1).toNatClampNeg (M 239 x1.toNatClampNeg)) fun M3 => some (.inl (x1 + 1, M3)))))
def j_X8_keeps_49 (M : Mem) : Option Mem :=
  (loopF (fun z => b_X8_keeps_51 z.2 z.1) FUEL (0, M)).bind fun z4 => nm (mset z4 234 10 ((z4 234 10) + 1)) fun M5 => some M5
def b_X8_keeps_11 (M : Mem) (x1 : Int32) : Option ((Int32 × Mem) ⊕ Mem) :=
  if 897 ≤ x1 then (some (.inr M)) else (chk (inB (x1 + 39) 936) (chk (inB x1 936) (nm (mset M 241 x1.toNatClampNeg (M 241 (x1 + 39).toNatClampNeg)) fun M8 => some (.inl (x1 + 1, M8)))))
def m_X8_keeps (M : Mem) : Option Mem :=
  if (M 234 10) = 24 then ((loopF (fun z => b_X8_keeps_11 z.2 z.1) FUEL (0, M)).bind fun z9 => nm (mset z9 234 10 ((z9 234 10) - 1)) fun M10 => j_X8_keeps_49 M10) else (j_X8_keeps_49 M)
set_option maxHeartbeats 4000000 in
set_option maxRecDepth 100000 in
theorem c_X8_keeps (l : Launch) (D : va_G) (cA : cAt) (B : Nat) (aK aV : Nat → Nat) (M : Mem) (R : Mem) (h : m_X8_keeps M = some R) : CV l D cA B aK aV yX8_keeps cX8_keeps 2 0 [.ref (B + 234)] M R := by
  refine CV_of (by decide +kernel) (Nat.le_of_ble_eq_true rfl) ?_
  intro p e s m args below meth c C hr hlk
  have C : Cx p (rmd 0) s m args c 0 0 D cA B aK aV cX8_keeps 2 RX8 := C
  generalize hQ : MQ below _ args s 0 0 _ = Q
  refine v_eq (M' := M) (pc' := 0) (L' := [(0, .ref (B + 234))]) (st' := []) ?_
  unfold m_X8_keeps at h
  have J49 : ∀ (M : Mem), j_X8_keeps_49 M = some R → V p l e (rmd 0) s m args below meth c 0 0 D cA B 2 Q M 49 [(0, .ref (B + 234))] [] := by
    intro M h
    unfold j_X8_keeps_49 at h
    refine v_iconst C dX8_keeps_49 ct_i_0 ?_
    refine v_istore_n (L' := [(1, .int 0), (0, .ref (B + 234))]) C dX8_keeps_50 rfl (by decide) rfl ?_
    have LB51 : ∀ (M : Mem) (x1 : Int32) (o51 : (Int32 × Mem) ⊕ Mem) (h : b_X8_keeps_51 M x1 = some o51) (hc51 : ∀ z : Int32 × Mem, o51 = .inl z → V p l e (rmd 0) s m args below meth c 0 0 D cA B 2 Q z.2 51 [(0, .ref (B + 234)), (1, .int z.1)] []) (he51 : ∀ z : Mem, o51 = .inr z → V p l e (rmd 0) s m args below meth c 0 0 D cA B 2 Q z 83 [(0, .ref (B + 234))] []), V p l e (rmd 0) s m args below meth c 0 0 D cA B 2 Q M 51 [(0, .ref (B + 234)), (1, .int x1)] [] := by
      intro M x1 o51 h hc51 he51
      unfold b_X8_keeps_51 at h
      refine v_iload_n (j := 1) C dX8_keeps_51 rfl rfl ?_
      refine v_bipush C dX8_keeps_52 ct_b_39 ?_
      refine v_icmp_ge (tgt := 83) C dX8_keeps_54 (by decide) (fun g => ?_) (fun g => ?_)
      · replace h := ite_t g h
        replace h := Option.some.inj h; subst h
        refine v_sub [0] rfl ?_
        exact he51 M rfl
      · replace h := ite_f g h
        refine v_aload_nR (j := 0) C dX8_keeps_57 rfl rfl ?_
        refine gf_X8_28 C ks_234 dX8_keeps_58 ?_
        refine v_bipush C dX8_keeps_61 ct_b_39 ?_
        refine v_pc (pc' := 63) rfl ?_
        refine v_aload_nR (j := 0) C dX8_keeps_63 rfl rfl ?_
        refine gf_X8_164 C ks_234 dX8_keeps_64 ?_
        refine v_imul C dX8_keeps_67 ?_
        refine v_iload_n (j := 1) C dX8_keeps_68 rfl rfl ?_
        refine v_iadd C dX8_keeps_69 ?_
        refine v_aload_nR (j := 0) C dX8_keeps_70 rfl rfl ?_
        refine gf_X8_22 C ks_234 dX8_keeps_71 ?_
        refine v_pc (pc' := 74) rfl ?_
        refine v_iload_n (j := 1) C dX8_keeps_74 rfl rfl ?_
        replace h := chk_some h; obtain ⟨g1, h⟩ := h
        refine v_iald C ks_239 (inB_vp g1) dX8_keeps_75 ?_
        replace h := chk_some h; obtain ⟨g2, h⟩ := h
        replace h := nm_ex h; obtain ⟨M3, eM3, h⟩ := h
        refine v_iast C ks_241 (inB_vp g2) dX8_keeps_76 ?_
        refine v_mem eM3 ?_
        refine v_iinc (j := 1) (L' := [(1, .int (x1 + 1)), (0, .ref (B + 234))]) C dX8_keeps_77 rfl (congrArg (fun z => _ + z) ct_i_1) (by decide) rfl ?_
        refine v_goto (tgt := 51) C dX8_keeps_80 (by decide) ?_
        replace h := Option.some.inj h; subst h
        refine v_sub [1, 0] rfl ?_
        exact hc51 (x1 + 1, M3) rfl
    replace h := bind_ex h; obtain ⟨z4, hz4, h⟩ := h
    refine v_sub [1, 0] rfl ?_
    refine loopF_walk (Pσ := fun z => V p l e (rmd 0) s m args below meth c 0 0 D cA B 2 Q z.2 51 [(0, .ref (B + 234)), (1, .int z.1)] []) (Pρ := fun y => V p l e (rmd 0) s m args below meth c 0 0 D cA B 2 Q y 83 [(0, .ref (B + 234))] []) ?_ FUEL (0, M) z4 hz4 ?_
    · intro z o hb hc he
      exact LB51 z.2 z.1 o hb hc he
    · refine v_aload_nR (j := 0) C dX8_keeps_83 rfl rfl ?_
      refine v_dup C dX8_keeps_84 rfl ?_
      refine gf_X8_164 C ks_234 dX8_keeps_85 ?_
      refine v_iconst C dX8_keeps_88 ct_i_1 ?_
      refine v_iadd C dX8_keeps_89 ?_
      replace h := nm_ex h; obtain ⟨M5, eM5, h⟩ := h
      refine pf_X8_164 C ks_234 dX8_keeps_90 ?_
      refine v_mem eM5 ?_
      refine v_pc (pc' := 93) rfl ?_
      replace h := Option.some.inj h; subst h
      subst hQ
      exact v_vret C hr hlk dX8_keeps_93
  refine v_aload_nR (j := 0) C dX8_keeps_0 rfl rfl ?_
  refine gf_X8_164 C ks_234 dX8_keeps_1 ?_
  refine v_bipush C dX8_keeps_4 ct_b_24 ?_
  refine v_icmp_ne (tgt := 49) C dX8_keeps_6 (by decide) (fun g => ?_) (fun g => ?_)
  · replace h := ite_t g h
    refine v_iconst C dX8_keeps_9 ct_i_0 ?_
    refine v_istore_n (L' := [(1, .int 0), (0, .ref (B + 234))]) C dX8_keeps_10 rfl (by decide) rfl ?_
    have LB11 : ∀ (M : Mem) (x1 : Int32) (o11 : (Int32 × Mem) ⊕ Mem) (h : b_X8_keeps_11 M x1 = some o11) (hc11 : ∀ z : Int32 × Mem, o11 = .inl z → V p l e (rmd 0) s m args below meth c 0 0 D cA B 2 Q z.2 11 [(0, .ref (B + 234)), (1, .int z.1)] []) (he11 : ∀ z : Mem, o11 = .inr z → V p l e (rmd 0) s m args below meth c 0 0 D cA B 2 Q z 39 [(0, .ref (B + 234))] []), V p l e (rmd 0) s m args below meth c 0 0 D cA B 2 Q M 11 [(0, .ref (B + 234)), (1, .int x1)] [] := by
      intro M x1 o11 h hc11 he11
      unfold b_X8_keeps_11 at h
      refine v_iload_n (j := 1) C dX8_keeps_11 rfl rfl ?_
      refine v_sipush C dX8_keeps_12 ct_s_897 ?_
      refine v_icmp_ge (tgt := 39) C dX8_keeps_15 (by decide) (fun g => ?_) (fun g => ?_)
      · replace h := ite_t g h
        replace h := Option.some.inj h; subst h
        refine v_sub [0] rfl ?_
        exact he11 M rfl
      · replace h := ite_f g h
        refine v_aload_nR (j := 0) C dX8_keeps_18 rfl rfl ?_
        refine gf_X8_28 C ks_234 dX8_keeps_19 ?_
        refine v_iload_n (j := 1) C dX8_keeps_22 rfl rfl ?_
        refine v_pc (pc' := 23) rfl ?_
        refine v_aload_nR (j := 0) C dX8_keeps_23 rfl rfl ?_
        refine gf_X8_28 C ks_234 dX8_keeps_24 ?_
        refine v_iload_n (j := 1) C dX8_keeps_27 rfl rfl ?_
        refine v_bipush C dX8_keeps_28 ct_b_39 ?_
        refine v_iadd C dX8_keeps_30 ?_
        replace h := chk_some h; obtain ⟨g6, h⟩ := h
        refine v_iald C ks_241 (inB_vp g6) dX8_keeps_31 ?_
        replace h := chk_some h; obtain ⟨g7, h⟩ := h
        replace h := nm_ex h; obtain ⟨M8, eM8, h⟩ := h
        refine v_iast C ks_241 (inB_vp g7) dX8_keeps_32 ?_
        refine v_mem eM8 ?_
        refine v_pc (pc' := 33) rfl ?_
        refine v_iinc (j := 1) (L' := [(1, .int (x1 + 1)), (0, .ref (B + 234))]) C dX8_keeps_33 rfl (congrArg (fun z => _ + z) ct_i_1) (by decide) rfl ?_
        refine v_goto (tgt := 11) C dX8_keeps_36 (by decide) ?_
        replace h := Option.some.inj h; subst h
        refine v_sub [1, 0] rfl ?_
        exact hc11 (x1 + 1, M8) rfl
    replace h := bind_ex h; obtain ⟨z9, hz9, h⟩ := h
    refine v_sub [1, 0] rfl ?_
    refine loopF_walk (Pσ := fun z => V p l e (rmd 0) s m args below meth c 0 0 D cA B 2 Q z.2 11 [(0, .ref (B + 234)), (1, .int z.1)] []) (Pρ := fun y => V p l e (rmd 0) s m args below meth c 0 0 D cA B 2 Q y 39 [(0, .ref (B + 234))] []) ?_ FUEL (0, M) z9 hz9 ?_
    · intro z o hb hc he
      exact LB11 z.2 z.1 o hb hc he
    · refine v_aload_nR (j := 0) C dX8_keeps_39 rfl rfl ?_
      refine v_dup C dX8_keeps_40 rfl ?_
      refine gf_X8_164 C ks_234 dX8_keeps_41 ?_
      refine v_iconst C dX8_keeps_44 ct_i_1 ?_
      refine v_isub C dX8_keeps_45 ?_
      replace h := nm_ex h; obtain ⟨M10, eM10, h⟩ := h
      refine pf_X8_164 C ks_234 dX8_keeps_46 ?_
      refine v_mem eM10 ?_
      refine v_sub [0] rfl ?_
      exact J49 M10 h
  · replace h := ite_f g h
    refine v_sub [0] rfl ?_
    exact J49 M h
def b_X8_toss_51 (M : Mem) (x1 : Int32) (x2 : Int32) (x3 : Int32) (x4 : Int32) (x5 : Int32) : Option (Int32 ⊕ (Unit ⊕ (Int32 × Mem))) :=
  chk (inB 3 39) (if (M 239 (3 : Int32).toNatClampNeg) ≤ x5 then (some (.inr (.inl ()))) else (chk (inB (20 + x5) 39) (if ((M 239 (20 + x5).toNatClampNeg) + x3) ≤ 9999 then (some (.inl (x5 + 1))) else (some (.inr (.inr (((-1000003), M))))))))
def j_X8_toss_171 (M : Mem) (x3 : Int32) (x5 : Int64) (x7 : Int32) (x8 : Int32) (s0 : Int32) : Option ((Int64 × Int32 × Int32 × Mem) ⊕ (Int32 × Mem)) :=
  if s0 = (-1000000) then (some (.inl (x5, x7, x8 + 1, M))) else (chk (inB (20 + s0) 39) (chk (inB (20 + s0) 39) (nm (mset M 239 (20 + s0).toNatClampNeg ((M 239 (20 + s0).toNatClampNeg) + 1)) fun M16 => some (.inl (x5, x7 + 1, x8 + 1, M16)))))
def b_X8_toss_118 (M : Mem) (x3 : Int32) (x5 : Int64) (x7 : Int32) (x8 : Int32) : Option ((Int64 × Int32 × Int32 × Mem) ⊕ (Int32 × Mem)) :=
  if x3 ≤ x8 then (some (.inr (x7, M))) else (nm ((x5 * 16807) % 2147483647) fun y17 => chk (nzL ((M 234 24).toInt64)) (chk (inB ((y17 % ((M 234 24).toInt64)).toInt32) 19) (nm (M 247 ((y17 % ((M 234 24).toInt64)).toInt32).toNatClampNeg) fun y20 => if y20 = (-1000000) then (j_X8_toss_171 M x3 y17 x7 x8 (-1000000)) else (chk (inB y20 30) (j_X8_toss_171 M x3 y17 x7 x8 (M 246 y20.toNatClampNeg))))))
def m_X8_toss (M : Mem) (x1 : Int32) (x2 : Int32) (x3 : Int32) (x4 : Int32) : Option (Int32 × Mem) :=
  chk (inB 0 39) (if (M 239 (0 : Int32).toNatClampNeg) = 0 then (some (((-1000002), M))) else ((m_X8_isThrow M x1 x2).bind fun r2 => if r2 = 0 then (some (((-1000001), M))) else ((m_X8_in M x3.toInt64 1 20).bind fun r3 => if r3 = 0 then (some (((-1000001), M))) else ((m_X8_in M x4.toInt64 1 999999).bind fun r4 => if r4 = 0 then (some (((-1000001), M))) else ((loopF (fun z => b_X8_toss_51 M x1 x2 x3 x4 z) FUEL 0).bind fun z7 => sumC z7 (fun z8 => (m_X8_keeps M).bind fun r9 => (m_X8_lays r9).bind fun r10 => (m_X8_laysPicks r10).bind fun r11 => (m_X8_laysWays r11 x1 x2).bind fun r12 => nm x4.toInt64 fun y13 => (loopF (fun z => b_X8_toss_118 z.2.2.2 x3 z.1 z.2.1 z.2.2.1) FUEL (y13, 0, 0, r12)).bind fun z22 => some ((z22.1, z22.2))) (fun z => some z))))))
set_option maxHeartbeats 4000000 in
set_option maxRecDepth 100000 in
theorem c_X8_toss (l : Launch) (D : va_G) (cA : cAt) (B : Nat) (aK aV : Nat → Nat) (M : Mem) (x1 : Int32) (x2 : Int32) (x3 : Int32) (x4 : Int32) (R : Int32 × Mem) (h : m_X8_toss M x1 x2 x3 x4 = some R) : CI l D cA B aK aV yX8_toss cX8_toss 11 .int 4 [.ref (B + 234), .int x1, .int x2, .int x3, .int x4] M R.1 R.2 := by
  refine CI_of (by decide +kernel) (Nat.le_of_ble_eq_true rfl) ?_
  intro p e s m args below meth c C hr hlk
  have C : Cx p (rmd 4) s m args c 0 0 D cA B aK aV cX8_toss 11 RX8 := C
  generalize hQ : MQ below _ args s 0 0 _ = Q
  refine v_eq (M' := M) (pc' := 0) (L' := [(0, .ref (B + 234)), (1, .int x1), (2, .int x2), (3, .int x3), (4, .int x4)]) (st' := []) ?_
  unfold m_X8_toss at h
  refine v_aload_nR (j := 0) C dX8_toss_0 rfl rfl ?_
  refine gf_X8_22 C ks_234 dX8_toss_1 ?_
  refine v_iconst C dX8_toss_4 ct_i_0 ?_
  replace h := chk_some h; obtain ⟨g1, h⟩ := h
  refine v_iald C ks_239 (inB_vp g1) dX8_toss_5 ?_
  refine v_if_ne (tgt := 12) C dX8_toss_6 (by decide) (fun g => ?_) (fun g => ?_)
  · replace h := ite_t g h
    refine v_ldc C tw_1079 dX8_toss_9 ?_
    refine v_pc (pc' := 11) rfl ?_
    replace h := Option.some.inj h; subst h
    subst hQ
    exact v_iret C hr hlk dX8_toss_11
  · replace h := ite_f g h
    refine v_iload_n (j := 1) C dX8_toss_12 rfl rfl ?_
    refine v_iload_n (j := 2) C dX8_toss_13 rfl rfl ?_
    replace h := bind_ex h; obtain ⟨r2, hr2, h⟩ := h
    refine cs_I C tw_1082 tw_111 tw_1080 tw_1081 pd_X8_isThrow (Nat.le_of_ble_eq_true rfl) (Nat.le_of_ble_eq_true rfl) (As := [.int x1, .int x2]) (rest := []) rfl rfl (Nat.le_of_ble_eq_true rfl) (c_X8_isThrow l D cA B aK aV M x1 x2 r2 hr2) dX8_toss_14 ?_
    refine v_if_eq (tgt := 45) C dX8_toss_17 (by decide) (fun g => ?_) (fun g => ?_)
    · replace h := ite_t g h
      refine v_ldc C tw_981 dX8_toss_45 ?_
      replace h := Option.some.inj h; subst h
      subst hQ
      exact v_iret C hr hlk dX8_toss_47
    · replace h := ite_f g h
      refine v_iload_n (j := 3) C dX8_toss_20 rfl rfl ?_
      refine v_i2l C dX8_toss_21 ?_
      refine v_pc (pc' := 22) rfl ?_
      refine v_lconst (v := 1) C dX8_toss_22 rfl ?_
      refine v_ldc2 C tw_1087 dX8_toss_23 ?_
      replace h := bind_ex h; obtain ⟨r3, hr3, h⟩ := h
      refine cs_I C tw_979 tw_111 tw_977 tw_978 pd_X8_in (Nat.le_of_ble_eq_true rfl) (Nat.le_of_ble_eq_true rfl) (As := [.long x3.toInt64, .long 1, .long 20]) (rest := []) rfl rfl (Nat.le_of_ble_eq_true rfl) (c_X8_in l D cA B aK aV M x3.toInt64 1 20 r3 hr3) dX8_toss_26 ?_
      refine v_if_eq (tgt := 45) C dX8_toss_29 (by decide) (fun g => ?_) (fun g => ?_)
      · replace h := ite_t g h
        refine v_ldc C tw_981 dX8_toss_45 ?_
        replace h := Option.some.inj h; subst h
        subst hQ
        exact v_iret C hr hlk dX8_toss_47
      · replace h := ite_f g h
        refine v_iload (j := 4) C dX8_toss_32 rfl ?_
        refine v_i2l C dX8_toss_34 ?_
        refine v_lconst (v := 1) C dX8_toss_35 rfl ?_
        refine v_pc (pc' := 36) rfl ?_
        refine v_ldc2 C tw_1088 dX8_toss_36 ?_
        replace h := bind_ex h; obtain ⟨r4, hr4, h⟩ := h
        refine cs_I C tw_979 tw_111 tw_977 tw_978 pd_X8_in (Nat.le_of_ble_eq_true rfl) (Nat.le_of_ble_eq_true rfl) (As := [.long x4.toInt64, .long 1, .long 999999]) (rest := []) rfl rfl (Nat.le_of_ble_eq_true rfl) (c_X8_in l D cA B aK aV M x4.toInt64 1 999999 r4 hr4) dX8_toss_39 ?_
        refine v_if_ne (tgt := 48) C dX8_toss_42 (by decide) (fun g => ?_) (fun g => ?_)
        · replace h := ite_t g h
          refine v_ldc C tw_981 dX8_toss_45 ?_
          replace h := Option.some.inj h; subst h
          subst hQ
          exact v_iret C hr hlk dX8_toss_47
        · replace h := ite_f g h
          refine v_iconst C dX8_toss_48 ct_i_0 ?_
          refine v_istore (L' := [(5, .int 0), (0, .ref (B + 234)), (1, .int x1), (2, .int x2), (3, .int x3), (4, .int x4)]) C dX8_toss_49 (by decide) rfl ?_
          have LB51 : ∀ (M : Mem) (x5 : Int32) (o51 : Int32 ⊕ (Unit ⊕ (Int32 × Mem))) (h : b_X8_toss_51 M x1 x2 x3 x4 x5 = some o51) (hc51 : ∀ z : Int32, o51 = .inl z → V p l e (rmd 4) s m args below meth c 0 0 D cA B 11 Q M 51 [(0, .ref (B + 234)), (1, .int x1), (2, .int x2), (3, .int x3), (4, .int x4), (5, .int z)] []) (he51 : ∀ z : Unit, o51 = .inr (.inl z) → V p l e (rmd 4) s m args below meth c 0 0 D cA B 11 Q M 89 [(0, .ref (B + 234)), (1, .int x1), (2, .int x2), (3, .int x3), (4, .int x4)] []) (hr51 : ∀ z : Int32 × Mem, o51 = .inr (.inr z) → z = R), V p l e (rmd 4) s m args below meth c 0 0 D cA B 11 Q M 51 [(0, .ref (B + 234)), (1, .int x1), (2, .int x2), (3, .int x3), (4, .int x4), (5, .int x5)] [] := by
            intro M x5 o51 h hc51 he51 hr51
            unfold b_X8_toss_51 at h
            refine v_iload (j := 5) C dX8_toss_51 rfl ?_
            refine v_aload_nR (j := 0) C dX8_toss_53 rfl rfl ?_
            refine gf_X8_22 C ks_234 dX8_toss_54 ?_
            refine v_iconst C dX8_toss_57 ct_i_3 ?_
            replace h := chk_some h; obtain ⟨g5, h⟩ := h
            refine v_iald C ks_239 (inB_vp g5) dX8_toss_58 ?_
            refine v_icmp_ge (tgt := 89) C dX8_toss_59 (by decide) (fun g => ?_) (fun g => ?_)
            · replace h := ite_t g h
              replace h := Option.some.inj h; subst h
              refine v_sub [0, 1, 2, 3, 4] rfl ?_
              exact he51 () rfl
            · replace h := ite_f g h
              refine v_pc (pc' := 62) rfl ?_
              refine v_aload_nR (j := 0) C dX8_toss_62 rfl rfl ?_
              refine gf_X8_22 C ks_234 dX8_toss_63 ?_
              refine v_bipush C dX8_toss_66 ct_b_20 ?_
              refine v_iload (j := 5) C dX8_toss_68 rfl ?_
              refine v_iadd C dX8_toss_70 ?_
              replace h := chk_some h; obtain ⟨g6, h⟩ := h
              refine v_iald C ks_239 (inB_vp g6) dX8_toss_71 ?_
              refine v_iload_n (j := 3) C dX8_toss_72 rfl rfl ?_
              refine v_pc (pc' := 73) rfl ?_
              refine v_iadd C dX8_toss_73 ?_
              refine v_sipush C dX8_toss_74 ct_s_9999 ?_
              refine v_icmp_le (tgt := 83) C dX8_toss_77 (by decide) (fun g => ?_) (fun g => ?_)
              · replace h := ite_t g h
                refine v_iinc (j := 5) (L' := [(5, .int (x5 + 1)), (0, .ref (B + 234)), (1, .int x1), (2, .int x2), (3, .int x3), (4, .int x4)]) C dX8_toss_83 rfl (congrArg (fun z => _ + z) ct_i_1) (by decide) rfl ?_
                refine v_goto (tgt := 51) C dX8_toss_86 (by decide) ?_
                replace h := Option.some.inj h; subst h
                refine v_sub [1, 2, 3, 4, 5, 0] rfl ?_
                exact hc51 (x5 + 1) rfl
              · replace h := ite_f g h
                refine v_ldc C tw_1008 dX8_toss_80 ?_
                replace h := Option.some.inj h; subst h
                have hR := hr51 _ rfl
                subst hR
                subst hQ
                exact v_iret C hr hlk dX8_toss_82
          replace h := bind_ex h; obtain ⟨z7, hz7, h⟩ := h
          refine v_sub [1, 2, 3, 4, 5, 0] rfl ?_
          refine loopF_walk (Pσ := fun z => V p l e (rmd 4) s m args below meth c 0 0 D cA B 11 Q M 51 [(0, .ref (B + 234)), (1, .int x1), (2, .int x2), (3, .int x3), (4, .int x4), (5, .int z)] []) (Pρ := fun r => (∀ y : Unit, r = .inl y → V p l e (rmd 4) s m args below meth c 0 0 D cA B 11 Q M 89 [(0, .ref (B + 234)), (1, .int x1), (2, .int x2), (3, .int x3), (4, .int x4)] []) ∧ (∀ y : Int32 × Mem, r = .inr y → y = R)) ?_ FUEL 0 z7 hz7 ?_
          · intro z o hb hc he
            exact LB51 M z o hb hc (fun y e => (he _ e).1 y rfl) (fun y e => (he _ e).2 y rfl)
          · refine ⟨fun z8 e => ?_, fun y e => ?_⟩
            · subst e
              replace h := sumC_l h
              refine v_aload_nR (j := 0) C dX8_toss_89 rfl rfl ?_
              replace h := bind_ex h; obtain ⟨r9, hr9, h⟩ := h
              refine cv_V C tw_1092 tw_111 tw_1089 tw_1091 tw_85 pd_X8_keeps (Nat.le_of_ble_eq_true rfl) (Nat.le_of_ble_eq_true rfl) (q := 234) (kd_lt ks_234 (by decide)) (sh8 ks_234) rfl (As := []) (rest := []) rfl rfl (Nat.le_of_ble_eq_true rfl) (c_X8_keeps l D cA B aK aV M r9 hr9) dX8_toss_90 ?_
              refine v_aload_nR (j := 0) C dX8_toss_93 rfl rfl ?_
              replace h := bind_ex h; obtain ⟨r10, hr10, h⟩ := h
              refine cv_V C tw_1096 tw_111 tw_1093 tw_1095 tw_86 pd_X8_lays (Nat.le_of_ble_eq_true rfl) (Nat.le_of_ble_eq_true rfl) (q := 234) (kd_lt ks_234 (by decide)) (sh8 ks_234) rfl (As := []) (rest := []) rfl rfl (Nat.le_of_ble_eq_true rfl) (c_X8_lays l D cA B aK aV r9 r10 hr10) dX8_toss_94 ?_
              refine v_aload_nR (j := 0) C dX8_toss_97 rfl rfl ?_
              replace h := bind_ex h; obtain ⟨r11, hr11, h⟩ := h
              refine cv_V C tw_1100 tw_111 tw_1097 tw_1099 tw_87 pd_X8_laysPicks (Nat.le_of_ble_eq_true rfl) (Nat.le_of_ble_eq_true rfl) (q := 234) (kd_lt ks_234 (by decide)) (sh8 ks_234) rfl (As := []) (rest := []) rfl rfl (Nat.le_of_ble_eq_true rfl) (c_X8_laysPicks l D cA B aK aV r10 r11 hr11) dX8_toss_98 ?_
              refine v_pc (pc' := 101) rfl ?_
              refine v_aload_nR (j := 0) C dX8_toss_101 rfl rfl ?_
              refine v_iload_n (j := 1) C dX8_toss_102 rfl rfl ?_
              refine v_iload_n (j := 2) C dX8_toss_103 rfl rfl ?_
              replace h := bind_ex h; obtain ⟨r12, hr12, h⟩ := h
              refine cv_V C tw_1116 tw_111 tw_1113 tw_1115 tw_90 pd_X8_laysWays (Nat.le_of_ble_eq_true rfl) (Nat.le_of_ble_eq_true rfl) (q := 234) (kd_lt ks_234 (by decide)) (sh8 ks_234) rfl (As := [.int x1, .int x2]) (rest := []) rfl rfl (Nat.le_of_ble_eq_true rfl) (c_X8_laysWays l D cA B aK aV r11 x1 x2 r12 hr12) dX8_toss_104 ?_
              refine v_iload (j := 4) C dX8_toss_107 rfl ?_
              refine v_i2l C dX8_toss_109 ?_
              replace h := nm_ex h; obtain ⟨y13, ey13, h⟩ := h
              refine v_topJ ey13 ?_
              refine v_lstore (L' := [(5, .long y13), (0, .ref (B + 234)), (1, .int x1), (2, .int x2), (3, .int x3), (4, .int x4)]) C dX8_toss_110 (by decide) rfl ?_
              refine v_pc (pc' := 112) rfl ?_
              refine v_iconst C dX8_toss_112 ct_i_0 ?_
              refine v_istore (L' := [(7, .int 0), (5, .long y13), (0, .ref (B + 234)), (1, .int x1), (2, .int x2), (3, .int x3), (4, .int x4)]) C dX8_toss_113 (by decide) rfl ?_
              refine v_iconst C dX8_toss_115 ct_i_0 ?_
              refine v_istore (L' := [(8, .int 0), (7, .int 0), (5, .long y13), (0, .ref (B + 234)), (1, .int x1), (2, .int x2), (3, .int x3), (4, .int x4)]) C dX8_toss_116 (by decide) rfl ?_
              have LB118 : ∀ (M : Mem) (x5 : Int64) (x7 : Int32) (x8 : Int32) (o118 : (Int64 × Int32 × Int32 × Mem) ⊕ (Int32 × Mem)) (h : b_X8_toss_118 M x3 x5 x7 x8 = some o118) (hc118 : ∀ z : Int64 × Int32 × Int32 × Mem, o118 = .inl z → V p l e (rmd 4) s m args below meth c 0 0 D cA B 11 Q z.2.2.2 118 [(0, .ref (B + 234)), (3, .int x3), (5, .long z.1), (7, .int z.2.1), (8, .int z.2.2.1)] []) (he118 : ∀ z : Int32 × Mem, o118 = .inr z → V p l e (rmd 4) s m args below meth c 0 0 D cA B 11 Q z.2 203 [(7, .int z.1)] []), V p l e (rmd 4) s m args below meth c 0 0 D cA B 11 Q M 118 [(0, .ref (B + 234)), (3, .int x3), (5, .long x5), (7, .int x7), (8, .int x8)] [] := by
                intro M x5 x7 x8 o118 h hc118 he118
                unfold b_X8_toss_118 at h
                have J171 : ∀ (M : Mem) (x5 : Int64) (x7 : Int32) (x8 : Int32) (s0 : Int32), j_X8_toss_171 M x3 x5 x7 x8 s0 = some o118 → V p l e (rmd 4) s m args below meth c 0 0 D cA B 11 Q M 171 [(0, .ref (B + 234)), (3, .int x3), (5, .long x5), (7, .int x7), (8, .int x8)] [.int s0] := by
                  intro M x5 x7 x8 s0 h
                  unfold j_X8_toss_171 at h
                  refine v_istore (L' := [(10, .int s0), (0, .ref (B + 234)), (3, .int x3), (5, .long x5), (7, .int x7), (8, .int x8)]) C dX8_toss_171 (by decide) rfl ?_
                  refine v_iload (j := 0) C dX8_toss_173 rfl ?_
                  refine v_ldc C tw_1105 dX8_toss_175 ?_
                  refine v_icmp_eq (tgt := 197) C dX8_toss_177 (by decide) (fun g => ?_) (fun g => ?_)
                  · replace h := ite_t g h
                    refine v_iinc (j := 5) (L' := [(8, .int (x8 + 1)), (10, .int s0), (0, .ref (B + 234)), (3, .int x3), (5, .long x5), (7, .int x7)]) C dX8_toss_197 rfl (congrArg (fun z => _ + z) ct_i_1) (by decide) rfl ?_
                    refine v_goto (tgt := 118) C dX8_toss_200 (by decide) ?_
                    replace h := Option.some.inj h; subst h
                    refine v_sub [2, 3, 4, 5, 0] rfl ?_
                    exact hc118 (x5, x7, x8 + 1, M) rfl
                  · replace h := ite_f g h
                    refine v_aload_nR (j := 1) C dX8_toss_180 rfl rfl ?_
                    refine gf_X8_22 C ks_234 dX8_toss_181 ?_
                    refine v_pc (pc' := 184) rfl ?_
                    refine v_bipush C dX8_toss_184 ct_b_20 ?_
                    refine v_iload (j := 0) C dX8_toss_186 rfl ?_
                    refine v_iadd C dX8_toss_188 ?_
                    refine v_dup2 C dX8_toss_189 rfl rfl ?_
                    replace h := chk_some h; obtain ⟨g14, h⟩ := h
                    refine v_iald C ks_239 (inB_vp g14) dX8_toss_190 ?_
                    refine v_iconst C dX8_toss_191 ct_i_1 ?_
                    refine v_iadd C dX8_toss_192 ?_
                    refine v_pc (pc' := 193) rfl ?_
                    replace h := chk_some h; obtain ⟨g15, h⟩ := h
                    replace h := nm_ex h; obtain ⟨M16, eM16, h⟩ := h
                    refine v_iast C ks_239 (inB_vp g15) dX8_toss_193 ?_
                    refine v_mem eM16 ?_
                    refine v_iinc (j := 4) (L' := [(7, .int (x7 + 1)), (10, .int s0), (0, .ref (B + 234)), (3, .int x3), (5, .long x5), (8, .int x8)]) C dX8_toss_194 rfl (congrArg (fun z => _ + z) ct_i_1) (by decide) rfl ?_
                    refine v_iinc (j := 5) (L' := [(8, .int (x8 + 1)), (7, .int (x7 + 1)), (10, .int s0), (0, .ref (B + 234)), (3, .int x3), (5, .long x5)]) C dX8_toss_197 rfl (congrArg (fun z => _ + z) ct_i_1) (by decide) rfl ?_
                    refine v_goto (tgt := 118) C dX8_toss_200 (by decide) ?_
                    replace h := Option.some.inj h; subst h
                    refine v_sub [3, 4, 5, 1, 0] rfl ?_
                    exact hc118 (x5, x7 + 1, x8 + 1, M16) rfl
                refine v_iload (j := 4) C dX8_toss_118 rfl ?_
                refine v_iload_n (j := 1) C dX8_toss_120 rfl rfl ?_
                refine v_icmp_ge (tgt := 203) C dX8_toss_121 (by decide) (fun g => ?_) (fun g => ?_)
                · replace h := ite_t g h
                  replace h := Option.some.inj h; subst h
                  refine v_sub [3] rfl ?_
                  exact he118 (x7, M) rfl
                · replace h := ite_f g h
                  refine v_lload (j := 2) C dX8_toss_124 rfl ?_
                  refine v_ldc2 C tw_1119 dX8_toss_126 ?_
                  refine v_lmul C dX8_toss_129 ?_
                  refine v_pc (pc' := 130) rfl ?_
                  refine v_ldc2 C tw_1120 dX8_toss_130 ?_
                  refine v_lrem C dX8_toss_133 (by decide) ?_
                  replace h := nm_ex h; obtain ⟨y17, ey17, h⟩ := h
                  refine v_topJ ey17 ?_
                  refine v_lstore (L' := [(5, .long y17), (0, .ref (B + 234)), (3, .int x3), (7, .int x7), (8, .int x8)]) C dX8_toss_134 (by decide) rfl ?_
                  refine v_aload_nR (j := 1) C dX8_toss_136 rfl rfl ?_
                  refine gf_X8_47 C ks_234 dX8_toss_137 ?_
                  refine v_lload (j := 0) C dX8_toss_140 rfl ?_
                  refine v_aload_nR (j := 1) C dX8_toss_142 rfl rfl ?_
                  refine v_pc (pc' := 143) rfl ?_
                  refine gf_X8_186 C ks_234 dX8_toss_143 ?_
                  refine v_i2l C dX8_toss_146 ?_
                  replace h := chk_some h; obtain ⟨g18, h⟩ := h
                  refine v_lrem C dX8_toss_147 (of_decide_eq_true g18) ?_
                  refine v_l2i C dX8_toss_148 ?_
                  replace h := chk_some h; obtain ⟨g19, h⟩ := h
                  refine v_iald C ks_247 (inB_vp g19) dX8_toss_149 ?_
                  replace h := nm_ex h; obtain ⟨y20, ey20, h⟩ := h
                  refine v_topI ey20 ?_
                  refine v_istore (L' := [(9, .int y20), (5, .long y17), (0, .ref (B + 234)), (3, .int x3), (7, .int x7), (8, .int x8)]) C dX8_toss_150 (by decide) rfl ?_
                  refine v_iload (j := 0) C dX8_toss_152 rfl ?_
                  refine v_pc (pc' := 154) rfl ?_
                  refine v_ldc C tw_1105 dX8_toss_154 ?_
                  refine v_icmp_ne (tgt := 164) C dX8_toss_156 (by decide) (fun g => ?_) (fun g => ?_)
                  · replace h := ite_t g h
                    refine v_ldc C tw_1105 dX8_toss_159 ?_
                    refine v_goto (tgt := 171) C dX8_toss_161 (by decide) ?_
                    refine v_sub [2, 3, 1, 4, 5] rfl ?_
                    exact J171 M y17 x7 x8 (-1000000) h
                  · replace h := ite_f g h
                    refine v_aload_nR (j := 2) C dX8_toss_164 rfl rfl ?_
                    refine gf_X8_44 C ks_234 dX8_toss_165 ?_
                    refine v_iload (j := 0) C dX8_toss_168 rfl ?_
                    replace h := chk_some h; obtain ⟨g21, h⟩ := h
                    refine v_iald C ks_246 (inB_vp g21) dX8_toss_170 ?_
                    refine v_sub [2, 3, 1, 4, 5] rfl ?_
                    exact J171 M y17 x7 x8 (M 246 y20.toNatClampNeg) h
              replace h := bind_ex h; obtain ⟨z22, hz22, h⟩ := h
              refine v_sub [3, 6, 2, 1, 0] rfl ?_
              refine loopF_walk (Pσ := fun z => V p l e (rmd 4) s m args below meth c 0 0 D cA B 11 Q z.2.2.2 118 [(0, .ref (B + 234)), (3, .int x3), (5, .long z.1), (7, .int z.2.1), (8, .int z.2.2.1)] []) (Pρ := fun y => V p l e (rmd 4) s m args below meth c 0 0 D cA B 11 Q y.2 203 [(7, .int y.1)] []) ?_ FUEL (y13, 0, 0, r12) z22 hz22 ?_
              · intro z o hb hc he
                exact LB118 z.2.2.2 z.1 z.2.1 z.2.2.1 o hb hc he
              · refine v_iload (j := 0) C dX8_toss_203 rfl ?_
                replace h := Option.some.inj h; subst h
                subst hQ
                exact v_iret C hr hlk dX8_toss_205
            · subst e
              replace h := sumC_r h
              exact Option.some.inj h
def m_X8_run (M : Mem) (x1 : Int32) (x2 : Int32) : Option (Int32 × Mem) :=
  (m_X8_isChild M x1).bind fun r1 => if r1 = 0 then (some (((-1000001), M))) else ((m_X8_isCell M x2).bind fun r2 => if r2 = 0 then (some (((-1000001), M))) else ((m_X8_keeps M).bind fun r3 => chk (inB (15 + x1) 39) ((m_X8_far r3 (r3 239 (15 + x1).toNatClampNeg) x2).bind fun r5 => chk (inB (15 + x1) 39) (nm (mset r3 239 (15 + x1).toNatClampNeg x2) fun M7 => some ((r5, M7))))))
set_option maxHeartbeats 4000000 in
set_option maxRecDepth 100000 in
theorem c_X8_run (l : Launch) (D : va_G) (cA : cAt) (B : Nat) (aK aV : Nat → Nat) (M : Mem) (x1 : Int32) (x2 : Int32) (R : Int32 × Mem) (h : m_X8_run M x1 x2 = some R) : CI l D cA B aK aV yX8_run cX8_run 4 .int 2 [.ref (B + 234), .int x1, .int x2] M R.1 R.2 := by
  refine CI_of (by decide +kernel) (Nat.le_of_ble_eq_true rfl) ?_
  intro p e s m args below meth c C hr hlk
  have C : Cx p (rmd 2) s m args c 0 0 D cA B aK aV cX8_run 4 RX8 := C
  generalize hQ : MQ below _ args s 0 0 _ = Q
  refine v_eq (M' := M) (pc' := 0) (L' := [(0, .ref (B + 234)), (1, .int x1), (2, .int x2)]) (st' := []) ?_
  unfold m_X8_run at h
  refine v_aload_nR (j := 0) C dX8_run_0 rfl rfl ?_
  refine v_iload_n (j := 1) C dX8_run_1 rfl rfl ?_
  replace h := bind_ex h; obtain ⟨r1, hr1, h⟩ := h
  refine cv_I C tw_1128 tw_111 tw_1125 tw_1127 tw_91 pd_X8_isChild (Nat.le_of_ble_eq_true rfl) (Nat.le_of_ble_eq_true rfl) (q := 234) (kd_lt ks_234 (by decide)) (sh8 ks_234) rfl (As := [.int x1]) (rest := []) rfl rfl (Nat.le_of_ble_eq_true rfl) (c_X8_isChild l D cA B aK aV M x1 r1 hr1) dX8_run_2 ?_
  refine v_if_eq (tgt := 15) C dX8_run_5 (by decide) (fun g => ?_) (fun g => ?_)
  · replace h := ite_t g h
    refine v_ldc C tw_981 dX8_run_15 ?_
    replace h := Option.some.inj h; subst h
    subst hQ
    exact v_iret C hr hlk dX8_run_17
  · replace h := ite_f g h
    refine v_iload_n (j := 2) C dX8_run_8 rfl rfl ?_
    replace h := bind_ex h; obtain ⟨r2, hr2, h⟩ := h
    refine cs_I C tw_1085 tw_111 tw_1083 tw_1084 pd_X8_isCell (Nat.le_of_ble_eq_true rfl) (Nat.le_of_ble_eq_true rfl) (As := [.int x2]) (rest := []) rfl rfl (Nat.le_of_ble_eq_true rfl) (c_X8_isCell l D cA B aK aV M x2 r2 hr2) dX8_run_9 ?_
    refine v_pc (pc' := 12) rfl ?_
    refine v_if_ne (tgt := 18) C dX8_run_12 (by decide) (fun g => ?_) (fun g => ?_)
    · replace h := ite_t g h
      refine v_ldc C tw_981 dX8_run_15 ?_
      replace h := Option.some.inj h; subst h
      subst hQ
      exact v_iret C hr hlk dX8_run_17
    · replace h := ite_f g h
      refine v_aload_nR (j := 0) C dX8_run_18 rfl rfl ?_
      replace h := bind_ex h; obtain ⟨r3, hr3, h⟩ := h
      refine cv_V C tw_1092 tw_111 tw_1089 tw_1091 tw_85 pd_X8_keeps (Nat.le_of_ble_eq_true rfl) (Nat.le_of_ble_eq_true rfl) (q := 234) (kd_lt ks_234 (by decide)) (sh8 ks_234) rfl (As := []) (rest := []) rfl rfl (Nat.le_of_ble_eq_true rfl) (c_X8_keeps l D cA B aK aV M r3 hr3) dX8_run_19 ?_
      refine v_aload_nR (j := 0) C dX8_run_22 rfl rfl ?_
      refine gf_X8_22 C ks_234 dX8_run_23 ?_
      refine v_bipush C dX8_run_26 ct_b_15 ?_
      refine v_iload_n (j := 1) C dX8_run_28 rfl rfl ?_
      refine v_pc (pc' := 29) rfl ?_
      refine v_iadd C dX8_run_29 ?_
      replace h := chk_some h; obtain ⟨g4, h⟩ := h
      refine v_iald C ks_239 (inB_vp g4) dX8_run_30 ?_
      refine v_iload_n (j := 2) C dX8_run_31 rfl rfl ?_
      replace h := bind_ex h; obtain ⟨r5, hr5, h⟩ := h
      refine cs_I C tw_1112 tw_111 tw_1110 tw_1111 pd_X8_far (Nat.le_of_ble_eq_true rfl) (Nat.le_of_ble_eq_true rfl) (As := [.int (r3 239 (15 + x1).toNatClampNeg), .int x2]) (rest := []) rfl rfl (Nat.le_of_ble_eq_true rfl) (c_X8_far l D cA B aK aV r3 (r3 239 (15 + x1).toNatClampNeg) x2 r5 hr5) dX8_run_32 ?_
      refine v_istore_n (L' := [(3, .int r5), (0, .ref (B + 234)), (1, .int x1), (2, .int x2)]) C dX8_run_35 rfl (by decide) rfl ?_
      refine v_aload_nR (j := 1) C dX8_run_36 rfl rfl ?_
      refine gf_X8_22 C ks_234 dX8_run_37 ?_
      refine v_pc (pc' := 40) rfl ?_
      refine v_bipush C dX8_run_40 ct_b_15 ?_
      refine v_iload_n (j := 2) C dX8_run_42 rfl rfl ?_
      refine v_iadd C dX8_run_43 ?_
      refine v_iload_n (j := 3) C dX8_run_44 rfl rfl ?_
      replace h := chk_some h; obtain ⟨g6, h⟩ := h
      replace h := nm_ex h; obtain ⟨M7, eM7, h⟩ := h
      refine v_iast C ks_239 (inB_vp g6) dX8_run_45 ?_
      refine v_mem eM7 ?_
      refine v_iload_n (j := 0) C dX8_run_46 rfl rfl ?_
      replace h := Option.some.inj h; subst h
      subst hQ
      exact v_iret C hr hlk dX8_run_47
def m_X8_strengthOf (M : Mem) (x1 : Int32) : Option Int32 :=
  chk (inB (5 + x1) 39) (if (M 239 (5 + x1).toNatClampNeg) = 2 then (chk (inB (10 + x1) 39) (some (2 * (M 239 (10 + x1).toNatClampNeg)))) else (chk (inB (10 + x1) 39) (some (M 239 (10 + x1).toNatClampNeg))))
set_option maxHeartbeats 4000000 in
set_option maxRecDepth 100000 in
theorem c_X8_strengthOf (l : Launch) (D : va_G) (cA : cAt) (B : Nat) (aK aV : Nat → Nat) (M : Mem) (x1 : Int32) (R : Int32) (h : m_X8_strengthOf M x1 = some R) : CI l D cA B aK aV yX8_strengthOf cX8_strengthOf 2 .int 0 [.ref (B + 234), .int x1] M R M := by
  refine CI_of (by decide +kernel) (Nat.le_of_ble_eq_true rfl) ?_
  intro p e s m args below meth c C hr hlk
  have C : Cx p (rmd 0) s m args c 0 0 D cA B aK aV cX8_strengthOf 2 RX8 := C
  generalize hQ : MQ below _ args s 0 0 _ = Q
  refine v_eq (M' := M) (pc' := 0) (L' := [(0, .ref (B + 234)), (1, .int x1)]) (st' := []) ?_
  unfold m_X8_strengthOf at h
  refine v_aload_nR (j := 0) C dX8_strengthOf_0 rfl rfl ?_
  refine gf_X8_22 C ks_234 dX8_strengthOf_1 ?_
  refine v_iconst C dX8_strengthOf_4 ct_i_5 ?_
  refine v_iload_n (j := 1) C dX8_strengthOf_5 rfl rfl ?_
  refine v_iadd C dX8_strengthOf_6 ?_
  replace h := chk_some h; obtain ⟨g1, h⟩ := h
  refine v_iald C ks_239 (inB_vp g1) dX8_strengthOf_7 ?_
  refine v_pc (pc' := 8) rfl ?_
  refine v_iconst C dX8_strengthOf_8 ct_i_2 ?_
  refine v_icmp_ne (tgt := 26) C dX8_strengthOf_9 (by decide) (fun g => ?_) (fun g => ?_)
  · replace h := ite_t g h
    refine v_iconst C dX8_strengthOf_12 ct_i_2 ?_
    refine v_aload_nR (j := 0) C dX8_strengthOf_13 rfl rfl ?_
    refine gf_X8_22 C ks_234 dX8_strengthOf_14 ?_
    refine v_bipush C dX8_strengthOf_17 ct_b_10 ?_
    refine v_iload_n (j := 1) C dX8_strengthOf_19 rfl rfl ?_
    refine v_pc (pc' := 20) rfl ?_
    refine v_iadd C dX8_strengthOf_20 ?_
    replace h := chk_some h; obtain ⟨g3, h⟩ := h
    refine v_iald C ks_239 (inB_vp g3) dX8_strengthOf_21 ?_
    refine v_imul C dX8_strengthOf_22 ?_
    refine v_goto (tgt := 35) C dX8_strengthOf_23 (by decide) ?_
    replace h := Option.some.inj h; subst h
    subst hQ
    exact v_iret C hr hlk dX8_strengthOf_35
  · replace h := ite_f g h
    refine v_aload_nR (j := 0) C dX8_strengthOf_26 rfl rfl ?_
    refine gf_X8_22 C ks_234 dX8_strengthOf_27 ?_
    refine v_bipush C dX8_strengthOf_30 ct_b_10 ?_
    refine v_iload_n (j := 1) C dX8_strengthOf_32 rfl rfl ?_
    refine v_iadd C dX8_strengthOf_33 ?_
    replace h := chk_some h; obtain ⟨g2, h⟩ := h
    refine v_iald C ks_239 (inB_vp g2) dX8_strengthOf_34 ?_
    refine v_pc (pc' := 35) rfl ?_
    replace h := Option.some.inj h; subst h
    subst hQ
    exact v_iret C hr hlk dX8_strengthOf_35
def m_X8_corner (M : Mem) (x1 : Int32) (x2 : Int32) : Option (Int32 × Mem) :=
  (m_X8_isChild M x1).bind fun r1 => if r1 = 0 then (some (((-1000001), M))) else ((m_X8_isChild M x2).bind fun r2 => if r2 = 0 then (some (((-1000001), M))) else (if x1 = x2 then (some (((-1000001), M))) else ((m_X8_strengthOf M x2).bind fun r3 => (m_X8_strengthOf M x1).bind fun r4 => if r3 < r4 then (chk (inB (20 + x2) 39) (nm ((M 239 (20 + x2).toNatClampNeg) / 2) fun y6 => chk (inB (20 + x1) 39) (if ((M 239 (20 + x1).toNatClampNeg) + y6) ≤ 9999 then ((m_X8_keeps M).bind fun r8 => chk (inB (20 + x2) 39) (chk (inB (20 + x2) 39) (nm (mset r8 239 (20 + x2).toNatClampNeg ((r8 239 (20 + x2).toNatClampNeg) - y6)) fun M11 => chk (inB (20 + x1) 39) (chk (inB (20 + x1) 39) (nm (mset M11 239 (20 + x1).toNatClampNeg ((M11 239 (20 + x1).toNatClampNeg) + y6)) fun M14 => some ((y6, M14))))))) else (some (((-1000003), M)))))) else (some (((-1000002), M))))))
set_option maxHeartbeats 4000000 in
set_option maxRecDepth 100000 in
theorem c_X8_corner (l : Launch) (D : va_G) (cA : cAt) (B : Nat) (aK aV : Nat → Nat) (M : Mem) (x1 : Int32) (x2 : Int32) (R : Int32 × Mem) (h : m_X8_corner M x1 x2 = some R) : CI l D cA B aK aV yX8_corner cX8_corner 4 .int 2 [.ref (B + 234), .int x1, .int x2] M R.1 R.2 := by
  refine CI_of (by decide +kernel) (Nat.le_of_ble_eq_true rfl) ?_
  intro p e s m args below meth c C hr hlk
  have C : Cx p (rmd 2) s m args c 0 0 D cA B aK aV cX8_corner 4 RX8 := C
  generalize hQ : MQ below _ args s 0 0 _ = Q
  refine v_eq (M' := M) (pc' := 0) (L' := [(0, .ref (B + 234)), (1, .int x1), (2, .int x2)]) (st' := []) ?_
  unfold m_X8_corner at h
  refine v_aload_nR (j := 0) C dX8_corner_0 rfl rfl ?_
  refine v_iload_n (j := 1) C dX8_corner_1 rfl rfl ?_
  replace h := bind_ex h; obtain ⟨r1, hr1, h⟩ := h
  refine cv_I C tw_1128 tw_111 tw_1125 tw_1127 tw_91 pd_X8_isChild (Nat.le_of_ble_eq_true rfl) (Nat.le_of_ble_eq_true rfl) (q := 234) (kd_lt ks_234 (by decide)) (sh8 ks_234) rfl (As := [.int x1]) (rest := []) rfl rfl (Nat.le_of_ble_eq_true rfl) (c_X8_isChild l D cA B aK aV M x1 r1 hr1) dX8_corner_2 ?_
  refine v_if_eq (tgt := 21) C dX8_corner_5 (by decide) (fun g => ?_) (fun g => ?_)
  · replace h := ite_t g h
    refine v_ldc C tw_981 dX8_corner_21 ?_
    replace h := Option.some.inj h; subst h
    subst hQ
    exact v_iret C hr hlk dX8_corner_23
  · replace h := ite_f g h
    refine v_aload_nR (j := 0) C dX8_corner_8 rfl rfl ?_
    refine v_iload_n (j := 2) C dX8_corner_9 rfl rfl ?_
    refine v_pc (pc' := 10) rfl ?_
    replace h := bind_ex h; obtain ⟨r2, hr2, h⟩ := h
    refine cv_I C tw_1128 tw_111 tw_1125 tw_1127 tw_91 pd_X8_isChild (Nat.le_of_ble_eq_true rfl) (Nat.le_of_ble_eq_true rfl) (q := 234) (kd_lt ks_234 (by decide)) (sh8 ks_234) rfl (As := [.int x2]) (rest := []) rfl rfl (Nat.le_of_ble_eq_true rfl) (c_X8_isChild l D cA B aK aV M x2 r2 hr2) dX8_corner_10 ?_
    refine v_if_eq (tgt := 21) C dX8_corner_13 (by decide) (fun g => ?_) (fun g => ?_)
    · replace h := ite_t g h
      refine v_ldc C tw_981 dX8_corner_21 ?_
      replace h := Option.some.inj h; subst h
      subst hQ
      exact v_iret C hr hlk dX8_corner_23
    · replace h := ite_f g h
      refine v_iload_n (j := 1) C dX8_corner_16 rfl rfl ?_
      refine v_iload_n (j := 2) C dX8_corner_17 rfl rfl ?_
      refine v_icmp_ne (tgt := 24) C dX8_corner_18 (by decide) (fun g => ?_) (fun g => ?_)
      · replace h := ite_t g h
        refine v_ldc C tw_981 dX8_corner_21 ?_
        replace h := Option.some.inj h; subst h
        subst hQ
        exact v_iret C hr hlk dX8_corner_23
      · replace h := ite_f g h
        refine v_aload_nR (j := 0) C dX8_corner_24 rfl rfl ?_
        refine v_iload_n (j := 2) C dX8_corner_25 rfl rfl ?_
        replace h := bind_ex h; obtain ⟨r3, hr3, h⟩ := h
        refine cv_I C tw_1136 tw_111 tw_1133 tw_1135 tw_92 pd_X8_strengthOf (Nat.le_of_ble_eq_true rfl) (Nat.le_of_ble_eq_true rfl) (q := 234) (kd_lt ks_234 (by decide)) (sh8 ks_234) rfl (As := [.int x2]) (rest := []) rfl rfl (Nat.le_of_ble_eq_true rfl) (c_X8_strengthOf l D cA B aK aV M x2 r3 hr3) dX8_corner_26 ?_
        refine v_aload_nR (j := 0) C dX8_corner_29 rfl rfl ?_
        refine v_iload_n (j := 1) C dX8_corner_30 rfl rfl ?_
        replace h := bind_ex h; obtain ⟨r4, hr4, h⟩ := h
        refine cv_I C tw_1136 tw_111 tw_1133 tw_1135 tw_92 pd_X8_strengthOf (Nat.le_of_ble_eq_true rfl) (Nat.le_of_ble_eq_true rfl) (q := 234) (kd_lt ks_234 (by decide)) (sh8 ks_234) rfl (As := [.int x1]) (rest := [.int r3]) rfl rfl (Nat.le_of_ble_eq_true rfl) (c_X8_strengthOf l D cA B aK aV M x1 r4 hr4) dX8_corner_31 ?_
        refine v_pc (pc' := 34) rfl ?_
        refine v_icmp_lt (tgt := 40) C dX8_corner_34 (by decide) (fun g => ?_) (fun g => ?_)
        · replace h := ite_t g h
          refine v_aload_nR (j := 0) C dX8_corner_40 rfl rfl ?_
          refine gf_X8_22 C ks_234 dX8_corner_41 ?_
          refine v_bipush C dX8_corner_44 ct_b_20 ?_
          refine v_iload_n (j := 2) C dX8_corner_46 rfl rfl ?_
          refine v_iadd C dX8_corner_47 ?_
          replace h := chk_some h; obtain ⟨g5, h⟩ := h
          refine v_iald C ks_239 (inB_vp g5) dX8_corner_48 ?_
          refine v_pc (pc' := 49) rfl ?_
          refine v_iconst C dX8_corner_49 ct_i_2 ?_
          refine v_idiv C dX8_corner_50 (by decide) ?_
          replace h := nm_ex h; obtain ⟨y6, ey6, h⟩ := h
          refine v_topI ey6 ?_
          refine v_istore_n (L' := [(3, .int y6), (0, .ref (B + 234)), (1, .int x1), (2, .int x2)]) C dX8_corner_51 rfl (by decide) rfl ?_
          refine v_aload_nR (j := 1) C dX8_corner_52 rfl rfl ?_
          refine gf_X8_22 C ks_234 dX8_corner_53 ?_
          refine v_bipush C dX8_corner_56 ct_b_20 ?_
          refine v_iload_n (j := 2) C dX8_corner_58 rfl rfl ?_
          refine v_pc (pc' := 59) rfl ?_
          refine v_iadd C dX8_corner_59 ?_
          replace h := chk_some h; obtain ⟨g7, h⟩ := h
          refine v_iald C ks_239 (inB_vp g7) dX8_corner_60 ?_
          refine v_iload_n (j := 0) C dX8_corner_61 rfl rfl ?_
          refine v_iadd C dX8_corner_62 ?_
          refine v_sipush C dX8_corner_63 ct_s_9999 ?_
          refine v_icmp_le (tgt := 72) C dX8_corner_66 (by decide) (fun g => ?_) (fun g => ?_)
          · replace h := ite_t g h
            refine v_aload_nR (j := 1) C dX8_corner_72 rfl rfl ?_
            replace h := bind_ex h; obtain ⟨r8, hr8, h⟩ := h
            refine cv_V C tw_1092 tw_111 tw_1089 tw_1091 tw_85 pd_X8_keeps (Nat.le_of_ble_eq_true rfl) (Nat.le_of_ble_eq_true rfl) (q := 234) (kd_lt ks_234 (by decide)) (sh8 ks_234) rfl (As := []) (rest := []) rfl rfl (Nat.le_of_ble_eq_true rfl) (c_X8_keeps l D cA B aK aV M r8 hr8) dX8_corner_73 ?_
            refine v_aload_nR (j := 1) C dX8_corner_76 rfl rfl ?_
            refine gf_X8_22 C ks_234 dX8_corner_77 ?_
            refine v_bipush C dX8_corner_80 ct_b_20 ?_
            refine v_iload_n (j := 3) C dX8_corner_82 rfl rfl ?_
            refine v_pc (pc' := 83) rfl ?_
            refine v_iadd C dX8_corner_83 ?_
            refine v_dup2 C dX8_corner_84 rfl rfl ?_
            replace h := chk_some h; obtain ⟨g9, h⟩ := h
            refine v_iald C ks_239 (inB_vp g9) dX8_corner_85 ?_
            refine v_iload_n (j := 0) C dX8_corner_86 rfl rfl ?_
            refine v_isub C dX8_corner_87 ?_
            replace h := chk_some h; obtain ⟨g10, h⟩ := h
            replace h := nm_ex h; obtain ⟨M11, eM11, h⟩ := h
            refine v_iast C ks_239 (inB_vp g10) dX8_corner_88 ?_
            refine v_mem eM11 ?_
            refine v_aload_nR (j := 1) C dX8_corner_89 rfl rfl ?_
            refine v_pc (pc' := 90) rfl ?_
            refine gf_X8_22 C ks_234 dX8_corner_90 ?_
            refine v_bipush C dX8_corner_93 ct_b_20 ?_
            refine v_iload_n (j := 2) C dX8_corner_95 rfl rfl ?_
            refine v_iadd C dX8_corner_96 ?_
            refine v_dup2 C dX8_corner_97 rfl rfl ?_
            replace h := chk_some h; obtain ⟨g12, h⟩ := h
            refine v_iald C ks_239 (inB_vp g12) dX8_corner_98 ?_
            refine v_iload_n (j := 0) C dX8_corner_99 rfl rfl ?_
            refine v_pc (pc' := 100) rfl ?_
            refine v_iadd C dX8_corner_100 ?_
            replace h := chk_some h; obtain ⟨g13, h⟩ := h
            replace h := nm_ex h; obtain ⟨M14, eM14, h⟩ := h
            refine v_iast C ks_239 (inB_vp g13) dX8_corner_101 ?_
            refine v_mem eM14 ?_
            refine v_iload_n (j := 0) C dX8_corner_102 rfl rfl ?_
            replace h := Option.some.inj h; subst h
            subst hQ
            exact v_iret C hr hlk dX8_corner_103
          · replace h := ite_f g h
            refine v_ldc C tw_1008 dX8_corner_69 ?_
            refine v_pc (pc' := 71) rfl ?_
            replace h := Option.some.inj h; subst h
            subst hQ
            exact v_iret C hr hlk dX8_corner_71
        · replace h := ite_f g h
          refine v_ldc C tw_1079 dX8_corner_37 ?_
          replace h := Option.some.inj h; subst h
          subst hQ
          exact v_iret C hr hlk dX8_corner_39
def b_X8_undo_22 (M : Mem) (x1 : Int32) : Option ((Int32 × Mem) ⊕ Mem) :=
  if 39 ≤ x1 then (some (.inr M)) else (chk (inB ((39 * (M 234 10)) + x1) 936) (chk (inB x1 39) (nm (mset M 239 x1.toNatClampNeg (M 241 ((39 * (M 234 10)) + x1).toNatClampNeg)) fun M4 => some (.inl (x1 + 1, M4)))))
def m_X8_undo (M : Mem) : Option (Int32 × Mem) :=
  if (M 234 10) = 0 then (some (((-1000002), M))) else (nm (mset M 234 10 ((M 234 10) - 1)) fun M1 => (loopF (fun z => b_X8_undo_22 z.2 z.1) FUEL (0, M1)).bind fun z5 => some ((z5 234 10, z5)))
set_option maxHeartbeats 4000000 in
set_option maxRecDepth 100000 in
theorem c_X8_undo (l : Launch) (D : va_G) (cA : cAt) (B : Nat) (aK aV : Nat → Nat) (M : Mem) (R : Int32 × Mem) (h : m_X8_undo M = some R) : CI l D cA B aK aV yX8_undo cX8_undo 2 .int 0 [.ref (B + 234)] M R.1 R.2 := by
  refine CI_of (by decide +kernel) (Nat.le_of_ble_eq_true rfl) ?_
  intro p e s m args below meth c C hr hlk
  have C : Cx p (rmd 0) s m args c 0 0 D cA B aK aV cX8_undo 2 RX8 := C
  generalize hQ : MQ below _ args s 0 0 _ = Q
  refine v_eq (M' := M) (pc' := 0) (L' := [(0, .ref (B + 234))]) (st' := []) ?_
  unfold m_X8_undo at h
  refine v_aload_nR (j := 0) C dX8_undo_0 rfl rfl ?_
  refine gf_X8_164 C ks_234 dX8_undo_1 ?_
  refine v_if_ne (tgt := 10) C dX8_undo_4 (by decide) (fun g => ?_) (fun g => ?_)
  · replace h := ite_t g h
    refine v_ldc C tw_1079 dX8_undo_7 ?_
    replace h := Option.some.inj h; subst h
    subst hQ
    exact v_iret C hr hlk dX8_undo_9
  · replace h := ite_f g h
    refine v_aload_nR (j := 0) C dX8_undo_10 rfl rfl ?_
    refine v_dup C dX8_undo_11 rfl ?_
    refine gf_X8_164 C ks_234 dX8_undo_12 ?_
    refine v_iconst C dX8_undo_15 ct_i_1 ?_
    refine v_isub C dX8_undo_16 ?_
    replace h := nm_ex h; obtain ⟨M1, eM1, h⟩ := h
    refine pf_X8_164 C ks_234 dX8_undo_17 ?_
    refine v_mem eM1 ?_
    refine v_pc (pc' := 20) rfl ?_
    refine v_iconst C dX8_undo_20 ct_i_0 ?_
    refine v_istore_n (L' := [(1, .int 0), (0, .ref (B + 234))]) C dX8_undo_21 rfl (by decide) rfl ?_
    have LB22 : ∀ (M : Mem) (x1 : Int32) (o22 : (Int32 × Mem) ⊕ Mem) (h : b_X8_undo_22 M x1 = some o22) (hc22 : ∀ z : Int32 × Mem, o22 = .inl z → V p l e (rmd 0) s m args below meth c 0 0 D cA B 2 Q z.2 22 [(0, .ref (B + 234)), (1, .int z.1)] []) (he22 : ∀ z : Mem, o22 = .inr z → V p l e (rmd 0) s m args below meth c 0 0 D cA B 2 Q z 54 [(0, .ref (B + 234))] []), V p l e (rmd 0) s m args below meth c 0 0 D cA B 2 Q M 22 [(0, .ref (B + 234)), (1, .int x1)] [] := by
      intro M x1 o22 h hc22 he22
      unfold b_X8_undo_22 at h
      refine v_iload_n (j := 1) C dX8_undo_22 rfl rfl ?_
      refine v_bipush C dX8_undo_23 ct_b_39 ?_
      refine v_icmp_ge (tgt := 54) C dX8_undo_25 (by decide) (fun g => ?_) (fun g => ?_)
      · replace h := ite_t g h
        replace h := Option.some.inj h; subst h
        refine v_sub [0] rfl ?_
        exact he22 M rfl
      · replace h := ite_f g h
        refine v_aload_nR (j := 0) C dX8_undo_28 rfl rfl ?_
        refine gf_X8_22 C ks_234 dX8_undo_29 ?_
        refine v_iload_n (j := 1) C dX8_undo_32 rfl rfl ?_
        refine v_pc (pc' := 33) rfl ?_
        refine v_aload_nR (j := 0) C dX8_undo_33 rfl rfl ?_
        refine gf_X8_28 C ks_234 dX8_undo_34 ?_
        refine v_bipush C dX8_undo_37 ct_b_39 ?_
        refine v_aload_nR (j := 0) C dX8_undo_39 rfl rfl ?_
        refine gf_X8_164 C ks_234 dX8_undo_40 ?_
        refine v_imul C dX8_undo_43 ?_
        refine v_iload_n (j := 1) C dX8_undo_44 rfl rfl ?_
        refine v_pc (pc' := 45) rfl ?_
        refine v_iadd C dX8_undo_45 ?_
        replace h := chk_some h; obtain ⟨g2, h⟩ := h
        refine v_iald C ks_241 (inB_vp g2) dX8_undo_46 ?_
        replace h := chk_some h; obtain ⟨g3, h⟩ := h
        replace h := nm_ex h; obtain ⟨M4, eM4, h⟩ := h
        refine v_iast C ks_239 (inB_vp g3) dX8_undo_47 ?_
        refine v_mem eM4 ?_
        refine v_iinc (j := 1) (L' := [(1, .int (x1 + 1)), (0, .ref (B + 234))]) C dX8_undo_48 rfl (congrArg (fun z => _ + z) ct_i_1) (by decide) rfl ?_
        refine v_goto (tgt := 22) C dX8_undo_51 (by decide) ?_
        replace h := Option.some.inj h; subst h
        refine v_sub [1, 0] rfl ?_
        exact hc22 (x1 + 1, M4) rfl
    replace h := bind_ex h; obtain ⟨z5, hz5, h⟩ := h
    refine v_sub [1, 0] rfl ?_
    refine loopF_walk (Pσ := fun z => V p l e (rmd 0) s m args below meth c 0 0 D cA B 2 Q z.2 22 [(0, .ref (B + 234)), (1, .int z.1)] []) (Pρ := fun y => V p l e (rmd 0) s m args below meth c 0 0 D cA B 2 Q y 54 [(0, .ref (B + 234))] []) ?_ FUEL (0, M1) z5 hz5 ?_
    · intro z o hb hc he
      exact LB22 z.2 z.1 o hb hc he
    · refine v_aload_nR (j := 0) C dX8_undo_54 rfl rfl ?_
      refine gf_X8_164 C ks_234 dX8_undo_55 ?_
      replace h := Option.some.inj h; subst h
      subst hQ
      exact v_iret C hr hlk dX8_undo_58
def m_X8_child (M : Mem) (x1 : Int32) (x2 : Int32) : Option Int32 :=
  (m_X8_isChild M x1).bind fun r1 => if r1 = 0 then (some (-1000001)) else ((m_X8_in M x2.toInt64 0 2).bind fun r2 => if r2 = 0 then (some (-1000001)) else (if x2 = 0 then (chk (inB (15 + x1) 39) (some (M 239 (15 + x1).toNatClampNeg))) else (if x2 = 1 then (chk (inB (10 + x1) 39) (some (M 239 (10 + x1).toNatClampNeg))) else (chk (inB (20 + x1) 39) (some (M 239 (20 + x1).toNatClampNeg))))))
set_option maxHeartbeats 4000000 in
set_option maxRecDepth 100000 in
theorem c_X8_child (l : Launch) (D : va_G) (cA : cAt) (B : Nat) (aK aV : Nat → Nat) (M : Mem) (x1 : Int32) (x2 : Int32) (R : Int32) (h : m_X8_child M x1 x2 = some R) : CI l D cA B aK aV yX8_child cX8_child 3 .int 2 [.ref (B + 234), .int x1, .int x2] M R M := by
  refine CI_of (by decide +kernel) (Nat.le_of_ble_eq_true rfl) ?_
  intro p e s m args below meth c C hr hlk
  have C : Cx p (rmd 2) s m args c 0 0 D cA B aK aV cX8_child 3 RX8 := C
  generalize hQ : MQ below _ args s 0 0 _ = Q
  refine v_eq (M' := M) (pc' := 0) (L' := [(0, .ref (B + 234)), (1, .int x1), (2, .int x2)]) (st' := []) ?_
  unfold m_X8_child at h
  refine v_aload_nR (j := 0) C dX8_child_0 rfl rfl ?_
  refine v_iload_n (j := 1) C dX8_child_1 rfl rfl ?_
  replace h := bind_ex h; obtain ⟨r1, hr1, h⟩ := h
  refine cv_I C tw_1128 tw_111 tw_1125 tw_1127 tw_91 pd_X8_isChild (Nat.le_of_ble_eq_true rfl) (Nat.le_of_ble_eq_true rfl) (q := 234) (kd_lt ks_234 (by decide)) (sh8 ks_234) rfl (As := [.int x1]) (rest := []) rfl rfl (Nat.le_of_ble_eq_true rfl) (c_X8_isChild l D cA B aK aV M x1 r1 hr1) dX8_child_2 ?_
  refine v_if_eq (tgt := 20) C dX8_child_5 (by decide) (fun g => ?_) (fun g => ?_)
  · replace h := ite_t g h
    refine v_ldc C tw_981 dX8_child_20 ?_
    replace h := Option.some.inj h; subst h
    subst hQ
    exact v_iret C hr hlk dX8_child_22
  · replace h := ite_f g h
    refine v_iload_n (j := 2) C dX8_child_8 rfl rfl ?_
    refine v_i2l C dX8_child_9 ?_
    refine v_pc (pc' := 10) rfl ?_
    refine v_lconst (v := 0) C dX8_child_10 rfl ?_
    refine v_ldc2 C tw_980 dX8_child_11 ?_
    replace h := bind_ex h; obtain ⟨r2, hr2, h⟩ := h
    refine cs_I C tw_979 tw_111 tw_977 tw_978 pd_X8_in (Nat.le_of_ble_eq_true rfl) (Nat.le_of_ble_eq_true rfl) (As := [.long x2.toInt64, .long 0, .long 2]) (rest := []) rfl rfl (Nat.le_of_ble_eq_true rfl) (c_X8_in l D cA B aK aV M x2.toInt64 0 2 r2 hr2) dX8_child_14 ?_
    refine v_if_ne (tgt := 23) C dX8_child_17 (by decide) (fun g => ?_) (fun g => ?_)
    · replace h := ite_t g h
      refine v_ldc C tw_981 dX8_child_20 ?_
      replace h := Option.some.inj h; subst h
      subst hQ
      exact v_iret C hr hlk dX8_child_22
    · replace h := ite_f g h
      refine v_iload_n (j := 2) C dX8_child_23 rfl rfl ?_
      refine v_if_ne (tgt := 39) C dX8_child_24 (by decide) (fun g => ?_) (fun g => ?_)
      · replace h := ite_t g h
        refine v_aload_nR (j := 0) C dX8_child_27 rfl rfl ?_
        refine gf_X8_22 C ks_234 dX8_child_28 ?_
        refine v_bipush C dX8_child_31 ct_b_15 ?_
        refine v_iload_n (j := 1) C dX8_child_33 rfl rfl ?_
        refine v_pc (pc' := 34) rfl ?_
        refine v_iadd C dX8_child_34 ?_
        replace h := chk_some h; obtain ⟨g5, h⟩ := h
        refine v_iald C ks_239 (inB_vp g5) dX8_child_35 ?_
        refine v_goto (tgt := 65) C dX8_child_36 (by decide) ?_
        replace h := Option.some.inj h; subst h
        subst hQ
        exact v_iret C hr hlk dX8_child_65
      · replace h := ite_f g h
        refine v_iload_n (j := 2) C dX8_child_39 rfl rfl ?_
        refine v_iconst C dX8_child_40 ct_i_1 ?_
        refine v_icmp_ne (tgt := 56) C dX8_child_41 (by decide) (fun g => ?_) (fun g => ?_)
        · replace h := ite_t g h
          refine v_aload_nR (j := 0) C dX8_child_44 rfl rfl ?_
          refine gf_X8_22 C ks_234 dX8_child_45 ?_
          refine v_bipush C dX8_child_48 ct_b_10 ?_
          refine v_pc (pc' := 50) rfl ?_
          refine v_iload_n (j := 1) C dX8_child_50 rfl rfl ?_
          refine v_iadd C dX8_child_51 ?_
          replace h := chk_some h; obtain ⟨g4, h⟩ := h
          refine v_iald C ks_239 (inB_vp g4) dX8_child_52 ?_
          refine v_goto (tgt := 65) C dX8_child_53 (by decide) ?_
          replace h := Option.some.inj h; subst h
          subst hQ
          exact v_iret C hr hlk dX8_child_65
        · replace h := ite_f g h
          refine v_aload_nR (j := 0) C dX8_child_56 rfl rfl ?_
          refine gf_X8_22 C ks_234 dX8_child_57 ?_
          refine v_bipush C dX8_child_60 ct_b_20 ?_
          refine v_iload_n (j := 1) C dX8_child_62 rfl rfl ?_
          refine v_iadd C dX8_child_63 ?_
          replace h := chk_some h; obtain ⟨g3, h⟩ := h
          refine v_iald C ks_239 (inB_vp g3) dX8_child_64 ?_
          refine v_pc (pc' := 65) rfl ?_
          replace h := Option.some.inj h; subst h
          subst hQ
          exact v_iret C hr hlk dX8_child_65
def m_X8_cell_ (M : Mem) (x1 : Int32) (x2 : Int32) : Option (Int32 × Mem) :=
  chk (inB 0 39) (if (M 239 (0 : Int32).toNatClampNeg) = 0 then (some (((-1000002), M))) else ((m_X8_isCell M x1).bind fun r2 => if r2 = 0 then (some (((-1000001), M))) else ((m_X8_in M x2.toInt64 0 1).bind fun r3 => if r3 = 0 then (some (((-1000001), M))) else ((m_X8_lays M).bind fun r4 => if x2 = 0 then ((m_X8_pickerOf r4 x1).bind fun r6 => some ((r6, r4))) else (chk (inB 4 39) (some ((((r4 239 (4 : Int32).toNatClampNeg) >>> (x1 &&& 31)) &&& 1, r4))))))))
set_option maxHeartbeats 4000000 in
set_option maxRecDepth 100000 in
theorem c_X8_cell_ (l : Launch) (D : va_G) (cA : cAt) (B : Nat) (aK aV : Nat → Nat) (M : Mem) (x1 : Int32) (x2 : Int32) (R : Int32 × Mem) (h : m_X8_cell_ M x1 x2 = some R) : CI l D cA B aK aV yX8_cell_ cX8_cell_ 3 .int 3 [.ref (B + 234), .int x1, .int x2] M R.1 R.2 := by
  refine CI_of (by decide +kernel) (Nat.le_of_ble_eq_true rfl) ?_
  intro p e s m args below meth c C hr hlk
  have C : Cx p (rmd 3) s m args c 0 0 D cA B aK aV cX8_cell_ 3 RX8 := C
  generalize hQ : MQ below _ args s 0 0 _ = Q
  refine v_eq (M' := M) (pc' := 0) (L' := [(0, .ref (B + 234)), (1, .int x1), (2, .int x2)]) (st' := []) ?_
  unfold m_X8_cell_ at h
  refine v_aload_nR (j := 0) C dX8_cell__0 rfl rfl ?_
  refine gf_X8_22 C ks_234 dX8_cell__1 ?_
  refine v_iconst C dX8_cell__4 ct_i_0 ?_
  replace h := chk_some h; obtain ⟨g1, h⟩ := h
  refine v_iald C ks_239 (inB_vp g1) dX8_cell__5 ?_
  refine v_if_ne (tgt := 12) C dX8_cell__6 (by decide) (fun g => ?_) (fun g => ?_)
  · replace h := ite_t g h
    refine v_ldc C tw_1079 dX8_cell__9 ?_
    refine v_pc (pc' := 11) rfl ?_
    replace h := Option.some.inj h; subst h
    subst hQ
    exact v_iret C hr hlk dX8_cell__11
  · replace h := ite_f g h
    refine v_iload_n (j := 1) C dX8_cell__12 rfl rfl ?_
    replace h := bind_ex h; obtain ⟨r2, hr2, h⟩ := h
    refine cs_I C tw_1085 tw_111 tw_1083 tw_1084 pd_X8_isCell (Nat.le_of_ble_eq_true rfl) (Nat.le_of_ble_eq_true rfl) (As := [.int x1]) (rest := []) rfl rfl (Nat.le_of_ble_eq_true rfl) (c_X8_isCell l D cA B aK aV M x1 r2 hr2) dX8_cell__13 ?_
    refine v_if_eq (tgt := 29) C dX8_cell__16 (by decide) (fun g => ?_) (fun g => ?_)
    · replace h := ite_t g h
      refine v_ldc C tw_981 dX8_cell__29 ?_
      replace h := Option.some.inj h; subst h
      subst hQ
      exact v_iret C hr hlk dX8_cell__31
    · replace h := ite_f g h
      refine v_iload_n (j := 2) C dX8_cell__19 rfl rfl ?_
      refine v_i2l C dX8_cell__20 ?_
      refine v_lconst (v := 0) C dX8_cell__21 rfl ?_
      refine v_pc (pc' := 22) rfl ?_
      refine v_lconst (v := 1) C dX8_cell__22 rfl ?_
      replace h := bind_ex h; obtain ⟨r3, hr3, h⟩ := h
      refine cs_I C tw_979 tw_111 tw_977 tw_978 pd_X8_in (Nat.le_of_ble_eq_true rfl) (Nat.le_of_ble_eq_true rfl) (As := [.long x2.toInt64, .long 0, .long 1]) (rest := []) rfl rfl (Nat.le_of_ble_eq_true rfl) (c_X8_in l D cA B aK aV M x2.toInt64 0 1 r3 hr3) dX8_cell__23 ?_
      refine v_if_ne (tgt := 32) C dX8_cell__26 (by decide) (fun g => ?_) (fun g => ?_)
      · replace h := ite_t g h
        refine v_ldc C tw_981 dX8_cell__29 ?_
        replace h := Option.some.inj h; subst h
        subst hQ
        exact v_iret C hr hlk dX8_cell__31
      · replace h := ite_f g h
        refine v_aload_nR (j := 0) C dX8_cell__32 rfl rfl ?_
        replace h := bind_ex h; obtain ⟨r4, hr4, h⟩ := h
        refine cv_V C tw_1096 tw_111 tw_1093 tw_1095 tw_86 pd_X8_lays (Nat.le_of_ble_eq_true rfl) (Nat.le_of_ble_eq_true rfl) (q := 234) (kd_lt ks_234 (by decide)) (sh8 ks_234) rfl (As := []) (rest := []) rfl rfl (Nat.le_of_ble_eq_true rfl) (c_X8_lays l D cA B aK aV M r4 hr4) dX8_cell__33 ?_
        refine v_iload_n (j := 2) C dX8_cell__36 rfl rfl ?_
        refine v_if_ne (tgt := 48) C dX8_cell__37 (by decide) (fun g => ?_) (fun g => ?_)
        · replace h := ite_t g h
          refine v_aload_nR (j := 0) C dX8_cell__40 rfl rfl ?_
          refine v_iload_n (j := 1) C dX8_cell__41 rfl rfl ?_
          refine v_pc (pc' := 42) rfl ?_
          replace h := bind_ex h; obtain ⟨r6, hr6, h⟩ := h
          refine cv_I C tw_1104 tw_111 tw_1101 tw_1103 tw_88 pd_X8_pickerOf (Nat.le_of_ble_eq_true rfl) (Nat.le_of_ble_eq_true rfl) (q := 234) (kd_lt ks_234 (by decide)) (sh8 ks_234) rfl (As := [.int x1]) (rest := []) rfl rfl (Nat.le_of_ble_eq_true rfl) (c_X8_pickerOf l D cA B aK aV r4 x1 r6 hr6) dX8_cell__42 ?_
          refine v_goto (tgt := 58) C dX8_cell__45 (by decide) ?_
          replace h := Option.some.inj h; subst h
          subst hQ
          exact v_iret C hr hlk dX8_cell__58
        · replace h := ite_f g h
          refine v_aload_nR (j := 0) C dX8_cell__48 rfl rfl ?_
          refine gf_X8_22 C ks_234 dX8_cell__49 ?_
          refine v_iconst C dX8_cell__52 ct_i_4 ?_
          replace h := chk_some h; obtain ⟨g5, h⟩ := h
          refine v_iald C ks_239 (inB_vp g5) dX8_cell__53 ?_
          refine v_iload_n (j := 1) C dX8_cell__54 rfl rfl ?_
          refine v_ishr C dX8_cell__55 ?_
          refine v_pc (pc' := 56) rfl ?_
          refine v_iconst C dX8_cell__56 ct_i_1 ?_
          refine v_iand C dX8_cell__57 ?_
          replace h := Option.some.inj h; subst h
          subst hQ
          exact v_iret C hr hlk dX8_cell__58
def m_X8_power (M : Mem) (x1 : Int32) (x2 : Int32) : Option (Int32 × Mem) :=
  (m_X8_isChild M x1).bind fun r1 => if r1 = 0 then (some (((-1000001), M))) else ((m_X8_isCell M x2).bind fun r2 => if r2 = 0 then (some (((-1000001), M))) else ((m_X8_lays M).bind fun r3 => (m_X8_powerOf r3 x1 x2).bind fun r4 => some ((r4, r3))))
set_option maxHeartbeats 4000000 in
set_option maxRecDepth 100000 in
theorem c_X8_power (l : Launch) (D : va_G) (cA : cAt) (B : Nat) (aK aV : Nat → Nat) (M : Mem) (x1 : Int32) (x2 : Int32) (R : Int32 × Mem) (h : m_X8_power M x1 x2 = some R) : CI l D cA B aK aV yX8_power cX8_power 3 .int 2 [.ref (B + 234), .int x1, .int x2] M R.1 R.2 := by
  refine CI_of (by decide +kernel) (Nat.le_of_ble_eq_true rfl) ?_
  intro p e s m args below meth c C hr hlk
  have C : Cx p (rmd 2) s m args c 0 0 D cA B aK aV cX8_power 3 RX8 := C
  generalize hQ : MQ below _ args s 0 0 _ = Q
  refine v_eq (M' := M) (pc' := 0) (L' := [(0, .ref (B + 234)), (1, .int x1), (2, .int x2)]) (st' := []) ?_
  unfold m_X8_power at h
  refine v_aload_nR (j := 0) C dX8_power_0 rfl rfl ?_
  refine v_iload_n (j := 1) C dX8_power_1 rfl rfl ?_
  replace h := bind_ex h; obtain ⟨r1, hr1, h⟩ := h
  refine cv_I C tw_1128 tw_111 tw_1125 tw_1127 tw_91 pd_X8_isChild (Nat.le_of_ble_eq_true rfl) (Nat.le_of_ble_eq_true rfl) (q := 234) (kd_lt ks_234 (by decide)) (sh8 ks_234) rfl (As := [.int x1]) (rest := []) rfl rfl (Nat.le_of_ble_eq_true rfl) (c_X8_isChild l D cA B aK aV M x1 r1 hr1) dX8_power_2 ?_
  refine v_if_eq (tgt := 15) C dX8_power_5 (by decide) (fun g => ?_) (fun g => ?_)
  · replace h := ite_t g h
    refine v_ldc C tw_981 dX8_power_15 ?_
    replace h := Option.some.inj h; subst h
    subst hQ
    exact v_iret C hr hlk dX8_power_17
  · replace h := ite_f g h
    refine v_iload_n (j := 2) C dX8_power_8 rfl rfl ?_
    replace h := bind_ex h; obtain ⟨r2, hr2, h⟩ := h
    refine cs_I C tw_1085 tw_111 tw_1083 tw_1084 pd_X8_isCell (Nat.le_of_ble_eq_true rfl) (Nat.le_of_ble_eq_true rfl) (As := [.int x2]) (rest := []) rfl rfl (Nat.le_of_ble_eq_true rfl) (c_X8_isCell l D cA B aK aV M x2 r2 hr2) dX8_power_9 ?_
    refine v_pc (pc' := 12) rfl ?_
    refine v_if_ne (tgt := 18) C dX8_power_12 (by decide) (fun g => ?_) (fun g => ?_)
    · replace h := ite_t g h
      refine v_ldc C tw_981 dX8_power_15 ?_
      replace h := Option.some.inj h; subst h
      subst hQ
      exact v_iret C hr hlk dX8_power_17
    · replace h := ite_f g h
      refine v_aload_nR (j := 0) C dX8_power_18 rfl rfl ?_
      replace h := bind_ex h; obtain ⟨r3, hr3, h⟩ := h
      refine cv_V C tw_1096 tw_111 tw_1093 tw_1095 tw_86 pd_X8_lays (Nat.le_of_ble_eq_true rfl) (Nat.le_of_ble_eq_true rfl) (q := 234) (kd_lt ks_234 (by decide)) (sh8 ks_234) rfl (As := []) (rest := []) rfl rfl (Nat.le_of_ble_eq_true rfl) (c_X8_lays l D cA B aK aV M r3 hr3) dX8_power_19 ?_
      refine v_aload_nR (j := 0) C dX8_power_22 rfl rfl ?_
      refine v_iload_n (j := 1) C dX8_power_23 rfl rfl ?_
      refine v_iload_n (j := 2) C dX8_power_24 rfl rfl ?_
      replace h := bind_ex h; obtain ⟨r4, hr4, h⟩ := h
      refine cv_I C tw_1109 tw_111 tw_1106 tw_1108 tw_89 pd_X8_powerOf (Nat.le_of_ble_eq_true rfl) (Nat.le_of_ble_eq_true rfl) (q := 234) (kd_lt ks_234 (by decide)) (sh8 ks_234) rfl (As := [.int x1, .int x2]) (rest := []) rfl rfl (Nat.le_of_ble_eq_true rfl) (c_X8_powerOf l D cA B aK aV r3 x1 x2 r4 hr4) dX8_power_25 ?_
      refine v_pc (pc' := 28) rfl ?_
      replace h := Option.some.inj h; subst h
      subst hQ
      exact v_iret C hr hlk dX8_power_28
