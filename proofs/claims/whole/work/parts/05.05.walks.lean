def b_X7_bestPair_18 (M : Mem) (x3 : Int32) (x1 : Int32) (x2 : Int32) (x4 : Int32) : Option ((Int32 × Int32 × Int32) ⊕ (Int32 × Int32)) :=
  if 30 ≤ x4 then (some (.inr (x1, x2))) else (chk (inB x3 30) (chk (inB x4 30) ((m_J6_bitCount_0f7a4 M ((M 198 x3.toNatClampNeg) ||| (M 199 x4.toNatClampNeg))).bind fun r3 => if r3 ≤ x2 then (some (.inl (x1, x2, x4 + 1))) else (nm ((x3 * 30) + x4) fun y4 => some (.inl (y4, r3, x4 + 1))))))
def b_X7_bestPair_6 (M : Mem) (x1 : Int32) (x2 : Int32) (x3 : Int32) : Option ((Int32 × Int32 × Int32) ⊕ Int32) :=
  if 30 ≤ x3 then (some (.inr x1)) else ((loopF (fun z => b_X7_bestPair_18 M x3 z.1 z.2.1 z.2.2) FUEL (x1, x2, 0)).bind fun z5 => some (.inl (z5.1, z5.2, x3 + 1)))
def m_X7_bestPair (M : Mem) : Option Int32 :=
  (loopF (fun z => b_X7_bestPair_6 M z.1 z.2.1 z.2.2) FUEL (0, (-1), 0)).bind fun z6 => some z6
set_option maxHeartbeats 4000000 in
set_option maxRecDepth 100000 in
theorem c_X7_bestPair (l : Launch) (D : va_G) (cA : cAt) (B : Nat) (aK aV : Nat → Nat) (M : Mem) (R : Int32) (h : m_X7_bestPair M = some R) : CI l D cA B aK aV yX7_bestPair cX7_bestPair 6 .int 1 [.ref (B + 0)] M R M := by
  refine CI_of (by decide +kernel) (Nat.le_of_ble_eq_true rfl) ?_
  intro p e s m args below meth c C hr hlk
  have C : Cx p (rmd 1) s m args c 0 0 D cA B aK aV cX7_bestPair 6 RX7 := C
  generalize hQ : MQ below _ args s 0 0 _ = Q
  refine v_eq (M' := M) (pc' := 0) (L' := [(0, .ref (B + 0))]) (st' := []) ?_
  unfold m_X7_bestPair at h
  refine v_iconst C dX7_bestPair_0 ct_i_0 ?_
  refine v_istore_n (L' := [(1, .int 0), (0, .ref (B + 0))]) C dX7_bestPair_1 rfl (by decide) rfl ?_
  refine v_iconst C dX7_bestPair_2 ct_i_m1 ?_
  refine v_istore_n (L' := [(2, .int (-1)), (1, .int 0), (0, .ref (B + 0))]) C dX7_bestPair_3 rfl (by decide) rfl ?_
  refine v_iconst C dX7_bestPair_4 ct_i_0 ?_
  refine v_istore_n (L' := [(3, .int 0), (2, .int (-1)), (1, .int 0), (0, .ref (B + 0))]) C dX7_bestPair_5 rfl (by decide) rfl ?_
  have LB6 : ∀  (x1 : Int32) (x2 : Int32) (x3 : Int32) (o6 : (Int32 × Int32 × Int32) ⊕ Int32) (h : b_X7_bestPair_6 M x1 x2 x3 = some o6) (hc6 : ∀ z : Int32 × Int32 × Int32, o6 = .inl z → V p l e (rmd 1) s m args below meth c 0 0 D cA B 6 Q M 6 [(0, .ref (B + 0)), (1, .int z.1), (2, .int z.2.1), (3, .int z.2.2)] []) (he6 : ∀ z : Int32, o6 = .inr z → V p l e (rmd 1) s m args below meth c 0 0 D cA B 6 Q M 76 [(1, .int z)] []), V p l e (rmd 1) s m args below meth c 0 0 D cA B 6 Q M 6 [(0, .ref (B + 0)), (1, .int x1), (2, .int x2), (3, .int x3)] [] := by
    intro x1 x2 x3 o6 h hc6 he6
    unfold b_X7_bestPair_6 at h
    refine v_iload_n (j := 3) C dX7_bestPair_6 rfl rfl ?_
    refine v_aload_nR (j := 0) C dX7_bestPair_7 rfl rfl ?_
    refine gf_X7_53 C ks_0 dX7_bestPair_8 ?_
    refine v_alen9 (v := 30) C ks_198 rfl dX7_bestPair_11 ?_
    refine v_icmp_ge (tgt := 76) C dX7_bestPair_12 (by decide) (fun g => ?_) (fun g => ?_)
    · replace h := ite_t g h
      replace h := Option.some.inj h; subst h
      refine v_sub [1] rfl ?_
      exact he6 x1 rfl
    · replace h := ite_f g h
      refine v_iconst C dX7_bestPair_15 ct_i_0 ?_
      refine v_pc (pc' := 16) rfl ?_
      refine v_istore (L' := [(4, .int 0), (0, .ref (B + 0)), (1, .int x1), (2, .int x2), (3, .int x3)]) C dX7_bestPair_16 (by decide) rfl ?_
      have LB18 : ∀  (x3 : Int32) (x1 : Int32) (x2 : Int32) (x4 : Int32) (o18 : (Int32 × Int32 × Int32) ⊕ (Int32 × Int32)) (h : b_X7_bestPair_18 M x3 x1 x2 x4 = some o18) (hc18 : ∀ z : Int32 × Int32 × Int32, o18 = .inl z → V p l e (rmd 1) s m args below meth c 0 0 D cA B 6 Q M 18 [(0, .ref (B + 0)), (1, .int z.1), (2, .int z.2.1), (3, .int x3), (4, .int z.2.2)] []) (he18 : ∀ z : Int32 × Int32, o18 = .inr z → V p l e (rmd 1) s m args below meth c 0 0 D cA B 6 Q M 70 [(0, .ref (B + 0)), (1, .int z.1), (2, .int z.2), (3, .int x3)] []), V p l e (rmd 1) s m args below meth c 0 0 D cA B 6 Q M 18 [(0, .ref (B + 0)), (1, .int x1), (2, .int x2), (3, .int x3), (4, .int x4)] [] := by
        intro x3 x1 x2 x4 o18 h hc18 he18
        unfold b_X7_bestPair_18 at h
        refine v_iload (j := 4) C dX7_bestPair_18 rfl ?_
        refine v_aload_nR (j := 0) C dX7_bestPair_20 rfl rfl ?_
        refine gf_X7_57 C ks_0 dX7_bestPair_21 ?_
        refine v_alen9 (v := 30) C ks_199 rfl dX7_bestPair_24 ?_
        refine v_icmp_ge (tgt := 70) C dX7_bestPair_25 (by decide) (fun g => ?_) (fun g => ?_)
        · replace h := ite_t g h
          replace h := Option.some.inj h; subst h
          refine v_sub [0, 1, 2, 3] rfl ?_
          exact he18 (x1, x2) rfl
        · replace h := ite_f g h
          refine v_aload_nR (j := 0) C dX7_bestPair_28 rfl rfl ?_
          refine v_pc (pc' := 29) rfl ?_
          refine gf_X7_53 C ks_0 dX7_bestPair_29 ?_
          refine v_iload_n (j := 3) C dX7_bestPair_32 rfl rfl ?_
          replace h := chk_some h; obtain ⟨g1, h⟩ := h
          refine v_iald C ks_198 (inB_vp g1) dX7_bestPair_33 ?_
          refine v_aload_nR (j := 0) C dX7_bestPair_34 rfl rfl ?_
          refine gf_X7_57 C ks_0 dX7_bestPair_35 ?_
          refine v_iload (j := 4) C dX7_bestPair_38 rfl ?_
          replace h := chk_some h; obtain ⟨g2, h⟩ := h
          refine v_iald C ks_199 (inB_vp g2) dX7_bestPair_40 ?_
          refine v_pc (pc' := 41) rfl ?_
          refine v_ior C dX7_bestPair_41 ?_
          replace h := bind_ex h; obtain ⟨r3, hr3, h⟩ := h
          refine cs_I C tw_715 tw_119 tw_713 tw_714 pd_J6_bitCount_0f7a4 (Nat.le_of_ble_eq_true rfl) (Nat.le_of_ble_eq_true rfl) (As := [.int ((M 198 x3.toNatClampNeg) ||| (M 199 x4.toNatClampNeg))]) (rest := []) rfl rfl (Nat.le_of_ble_eq_true rfl) (c_J6_bitCount_0f7a4 l D cA B aK aV M ((M 198 x3.toNatClampNeg) ||| (M 199 x4.toNatClampNeg)) r3 hr3) dX7_bestPair_42 ?_
          refine v_istore (L' := [(5, .int r3), (0, .ref (B + 0)), (1, .int x1), (2, .int x2), (3, .int x3), (4, .int x4)]) C dX7_bestPair_45 (by decide) rfl ?_
          refine v_iload (j := 0) C dX7_bestPair_47 rfl ?_
          refine v_iload_n (j := 3) C dX7_bestPair_49 rfl rfl ?_
          refine v_icmp_le (tgt := 64) C dX7_bestPair_50 (by decide) (fun g => ?_) (fun g => ?_)
          · replace h := ite_t g h
            refine v_iinc (j := 5) (L' := [(4, .int (x4 + 1)), (5, .int r3), (0, .ref (B + 0)), (1, .int x1), (2, .int x2), (3, .int x3)]) C dX7_bestPair_64 rfl (congrArg (fun z => _ + z) ct_i_1) (by decide) rfl ?_
            refine v_goto (tgt := 18) C dX7_bestPair_67 (by decide) ?_
            replace h := Option.some.inj h; subst h
            refine v_sub [2, 3, 4, 5, 0] rfl ?_
            exact hc18 (x1, x2, x4 + 1) rfl
          · replace h := ite_f g h
            refine v_iload (j := 0) C dX7_bestPair_53 rfl ?_
            refine v_pc (pc' := 55) rfl ?_
            refine v_istore_n (L' := [(2, .int r3), (5, .int r3), (0, .ref (B + 0)), (1, .int x1), (3, .int x3), (4, .int x4)]) C dX7_bestPair_55 rfl (by decide) rfl ?_
            refine v_iload_n (j := 4) C dX7_bestPair_56 rfl rfl ?_
            refine v_bipush C dX7_bestPair_57 ct_b_30 ?_
            refine v_imul C dX7_bestPair_59 ?_
            refine v_iload (j := 5) C dX7_bestPair_60 rfl ?_
            refine v_iadd C dX7_bestPair_62 ?_
            replace h := nm_ex h; obtain ⟨y4, ey4, h⟩ := h
            refine v_topI ey4 ?_
            refine v_istore_n (L' := [(1, .int y4), (2, .int r3), (5, .int r3), (0, .ref (B + 0)), (3, .int x3), (4, .int x4)]) C dX7_bestPair_63 rfl (by decide) rfl ?_
            refine v_pc (pc' := 64) rfl ?_
            refine v_iinc (j := 5) (L' := [(4, .int (x4 + 1)), (1, .int y4), (2, .int r3), (5, .int r3), (0, .ref (B + 0)), (3, .int x3)]) C dX7_bestPair_64 rfl (congrArg (fun z => _ + z) ct_i_1) (by decide) rfl ?_
            refine v_goto (tgt := 18) C dX7_bestPair_67 (by decide) ?_
            replace h := Option.some.inj h; subst h
            refine v_sub [4, 1, 2, 5, 0] rfl ?_
            exact hc18 (y4, r3, x4 + 1) rfl
      replace h := bind_ex h; obtain ⟨z5, hz5, h⟩ := h
      refine v_sub [1, 2, 3, 4, 0] rfl ?_
      refine loopF_walk (Pσ := fun z => V p l e (rmd 1) s m args below meth c 0 0 D cA B 6 Q M 18 [(0, .ref (B + 0)), (1, .int z.1), (2, .int z.2.1), (3, .int x3), (4, .int z.2.2)] []) (Pρ := fun y => V p l e (rmd 1) s m args below meth c 0 0 D cA B 6 Q M 70 [(0, .ref (B + 0)), (1, .int y.1), (2, .int y.2), (3, .int x3)] []) ?_ FUEL (x1, x2, 0) z5 hz5 ?_
      · intro z o hb hc he
        exact LB18 x3 z.1 z.2.1 z.2.2 o hb hc he
      · refine v_iinc (j := 3) (L' := [(3, .int (x3 + 1)), (0, .ref (B + 0)), (1, .int z5.1), (2, .int z5.2)]) C dX7_bestPair_70 rfl (congrArg (fun z => _ + z) ct_i_1) (by decide) rfl ?_
        refine v_goto (tgt := 6) C dX7_bestPair_73 (by decide) ?_
        replace h := Option.some.inj h; subst h
        refine v_sub [1, 2, 3, 0] rfl ?_
        exact hc6 (z5.1, z5.2, x3 + 1) rfl
  replace h := bind_ex h; obtain ⟨z6, hz6, h⟩ := h
  refine v_sub [3, 2, 1, 0] rfl ?_
  refine loopF_walk (Pσ := fun z => V p l e (rmd 1) s m args below meth c 0 0 D cA B 6 Q M 6 [(0, .ref (B + 0)), (1, .int z.1), (2, .int z.2.1), (3, .int z.2.2)] []) (Pρ := fun y => V p l e (rmd 1) s m args below meth c 0 0 D cA B 6 Q M 76 [(1, .int y)] []) ?_ FUEL (0, (-1), 0) z6 hz6 ?_
  · intro z o hb hc he
    exact LB6 z.1 z.2.1 z.2.2 o hb hc he
  · refine v_iload_n (j := 0) C dX7_bestPair_76 rfl rfl ?_
    replace h := Option.some.inj h; subst h
    subst hQ
    exact v_iret C hr hlk dX7_bestPair_77
def j_X7_brothers_32 (M : Mem) (x1 : Int32) (x2 : Int32) (x3 : Int32) (x4 : Int32) (x5 : Int32) (s0 : Int32) : Option (Int32 × Mem) :=
  if s0 = 0 then (some (((-1000001), M))) else ((m_X7_isCell M x3).bind fun r1 => if r1 = 0 then (some (((-1000001), M))) else ((m_X7_isSpread M x4).bind fun r2 => if r2 = 0 then (some (((-1000001), M))) else ((m_X7_isEither M x5).bind fun r3 => if r3 = 0 then (some (((-1000001), M))) else ((m_X3_throwAt M x3 x4).bind fun r4 => (m_X3_weigh r4 4 x1 x2 198).bind fun r5 => (m_X3_weigh r5 4 x2 x1 199).bind fun r6 => (m_X7_bestPair r6).bind fun r7 => if x5 = 0 then (some ((r7 / 30, r6))) else (some ((r7 % 30, r6)))))))
def j_X7_brothers_31 (M : Mem) (x1 : Int32) (x2 : Int32) (x3 : Int32) (x4 : Int32) (x5 : Int32) : Option (Int32 × Mem) :=
  j_X7_brothers_32 M x1 x2 x3 x4 x5 0
def m_X7_brothers (M : Mem) (x1 : Int32) (x2 : Int32) (x3 : Int32) (x4 : Int32) (x5 : Int32) : Option (Int32 × Mem) :=
  (m_X5_at M 4 x1).bind fun r8 => optC r8 (j_X7_brothers_31 M x1 x2 x3 x4 x5) (fun a9 => chk (kdB a9 2) ((m_X5_at M 4 x2).bind fun r11 => optC r11 (j_X7_brothers_31 M x1 x2 x3 x4 x5) (fun a12 => chk (kdB a12 2) (if x1 = x2 then (j_X7_brothers_31 M x1 x2 x3 x4 x5) else (j_X7_brothers_32 M x1 x2 x3 x4 x5 1)))))
set_option maxHeartbeats 4000000 in
set_option maxRecDepth 100000 in
theorem c_X7_brothers (l : Launch) (D : va_G) (cA : cAt) (B : Nat) (aK aV : Nat → Nat) (M : Mem) (x1 : Int32) (x2 : Int32) (x3 : Int32) (x4 : Int32) (x5 : Int32) (R : Int32 × Mem) (h : m_X7_brothers M x1 x2 x3 x4 x5 = some R) : CI l D cA B aK aV yX7_brothers cX7_brothers 8 .int 4 [.ref (B + 0), .int x1, .int x2, .int x3, .int x4, .int x5] M R.1 R.2 := by
  refine CI_of (by decide +kernel) (Nat.le_of_ble_eq_true rfl) ?_
  intro p e s m args below meth c C hr hlk
  have C : Cx p (rmd 4) s m args c 0 0 D cA B aK aV cX7_brothers 8 RX7 := C
  generalize hQ : MQ below _ args s 0 0 _ = Q
  refine v_eq (M' := M) (pc' := 0) (L' := [(0, .ref (B + 0)), (1, .int x1), (2, .int x2), (3, .int x3), (4, .int x4), (5, .int x5)]) (st' := []) ?_
  unfold m_X7_brothers at h
  have J32 : ∀ (M : Mem) (s0 : Int32), j_X7_brothers_32 M x1 x2 x3 x4 x5 s0 = some R → V p l e (rmd 4) s m args below meth c 0 0 D cA B 8 Q M 32 [(0, .ref (B + 0)), (1, .int x1), (2, .int x2), (3, .int x3), (4, .int x4), (5, .int x5)] [.int s0] := by
    intro M s0 h
    unfold j_X7_brothers_32 at h
    refine v_istore (L' := [(6, .int s0), (0, .ref (B + 0)), (1, .int x1), (2, .int x2), (3, .int x3), (4, .int x4), (5, .int x5)]) C dX7_brothers_32 (by decide) rfl ?_
    refine v_iload (j := 0) C dX7_brothers_34 rfl ?_
    refine v_if_eq (tgt := 62) C dX7_brothers_36 (by decide) (fun g => ?_) (fun g => ?_)
    · replace h := ite_t g h
      refine v_ldc C tw_343 dX7_brothers_62 ?_
      replace h := Option.some.inj h; subst h
      subst hQ
      exact v_iret C hr hlk dX7_brothers_64
    · replace h := ite_f g h
      refine v_iload_n (j := 4) C dX7_brothers_39 rfl rfl ?_
      replace h := bind_ex h; obtain ⟨r1, hr1, h⟩ := h
      refine cs_I C tw_556 tw_103 tw_554 tw_555 pd_X7_isCell (Nat.le_of_ble_eq_true rfl) (Nat.le_of_ble_eq_true rfl) (As := [.int x3]) (rest := []) rfl rfl (Nat.le_of_ble_eq_true rfl) (c_X7_isCell l D cA B aK aV M x3 r1 hr1) dX7_brothers_40 ?_
      refine v_if_eq (tgt := 62) C dX7_brothers_43 (by decide) (fun g => ?_) (fun g => ?_)
      · replace h := ite_t g h
        refine v_ldc C tw_343 dX7_brothers_62 ?_
        replace h := Option.some.inj h; subst h
        subst hQ
        exact v_iret C hr hlk dX7_brothers_64
      · replace h := ite_f g h
        refine v_pc (pc' := 46) rfl ?_
        refine v_iload (j := 5) C dX7_brothers_46 rfl ?_
        replace h := bind_ex h; obtain ⟨r2, hr2, h⟩ := h
        refine cs_I C tw_559 tw_103 tw_557 tw_558 pd_X7_isSpread (Nat.le_of_ble_eq_true rfl) (Nat.le_of_ble_eq_true rfl) (As := [.int x4]) (rest := []) rfl rfl (Nat.le_of_ble_eq_true rfl) (c_X7_isSpread l D cA B aK aV M x4 r2 hr2) dX7_brothers_48 ?_
        refine v_if_eq (tgt := 62) C dX7_brothers_51 (by decide) (fun g => ?_) (fun g => ?_)
        · replace h := ite_t g h
          refine v_ldc C tw_343 dX7_brothers_62 ?_
          replace h := Option.some.inj h; subst h
          subst hQ
          exact v_iret C hr hlk dX7_brothers_64
        · replace h := ite_f g h
          refine v_iload (j := 6) C dX7_brothers_54 rfl ?_
          replace h := bind_ex h; obtain ⟨r3, hr3, h⟩ := h
          refine cs_I C tw_663 tw_103 tw_661 tw_662 pd_X7_isEither (Nat.le_of_ble_eq_true rfl) (Nat.le_of_ble_eq_true rfl) (As := [.int x5]) (rest := []) rfl rfl (Nat.le_of_ble_eq_true rfl) (c_X7_isEither l D cA B aK aV M x5 r3 hr3) dX7_brothers_56 ?_
          refine v_if_ne (tgt := 65) C dX7_brothers_59 (by decide) (fun g => ?_) (fun g => ?_)
          · replace h := ite_t g h
            refine v_ldc C tw_343 dX7_brothers_62 ?_
            refine v_pc (pc' := 64) rfl ?_
            replace h := Option.some.inj h; subst h
            subst hQ
            exact v_iret C hr hlk dX7_brothers_64
          · replace h := ite_f g h
            refine v_aload_nR (j := 1) C dX7_brothers_65 rfl rfl ?_
            refine gf_X7_49 C ks_0 dX7_brothers_66 ?_
            refine v_iload_n (j := 4) C dX7_brothers_69 rfl rfl ?_
            refine v_iload (j := 5) C dX7_brothers_70 rfl ?_
            replace h := bind_ex h; obtain ⟨r4, hr4, h⟩ := h
            refine cvN_V C tw_584 tw_108 tw_581 tw_583 tw_32 pd_X3_throwAt (Nat.le_of_ble_eq_true rfl) (Nat.le_of_ble_eq_true rfl) (q := 196) (kd_lt ks_196 (by decide)) (sh3 ks_196) rfl (As := [.int x3, .int x4]) (rest := []) rfl rfl (Nat.le_of_ble_eq_true rfl) (c_X3_throwAt l D cA B aK aV M x3 x4 r4 hr4) dX7_brothers_72 ?_
            refine v_aload_nR (j := 1) C dX7_brothers_75 rfl rfl ?_
            refine v_pc (pc' := 76) rfl ?_
            refine gf_X7_49 C ks_0 dX7_brothers_76 ?_
            refine v_aload_nR (j := 1) C dX7_brothers_79 rfl rfl ?_
            refine gf_X7_25 C ks_0 dX7_brothers_80 ?_
            refine v_iload_n (j := 2) C dX7_brothers_83 rfl rfl ?_
            refine v_iload_n (j := 3) C dX7_brothers_84 rfl rfl ?_
            refine v_aload_nR (j := 1) C dX7_brothers_85 rfl rfl ?_
            refine gf_X7_53 C ks_0 dX7_brothers_86 ?_
            refine v_pc (pc' := 89) rfl ?_
            replace h := bind_ex h; obtain ⟨r5, hr5, h⟩ := h
            refine cvN_V C tw_701 tw_108 tw_698 tw_700 tw_44 pd_X3_weigh (Nat.le_of_ble_eq_true rfl) (Nat.le_of_ble_eq_true rfl) (q := 196) (kd_lt ks_196 (by decide)) (sh3 ks_196) rfl (As := [.ref (B + 4), .int x1, .int x2, .ref (B + 198)]) (rest := []) rfl rfl (Nat.le_of_ble_eq_true rfl) (c_X3_weigh l D cA B aK aV r4 4 x1 x2 198 ks_4 ks_198 r5 hr5) dX7_brothers_89 ?_
            refine v_aload_nR (j := 1) C dX7_brothers_92 rfl rfl ?_
            refine gf_X7_49 C ks_0 dX7_brothers_93 ?_
            refine v_aload_nR (j := 1) C dX7_brothers_96 rfl rfl ?_
            refine gf_X7_25 C ks_0 dX7_brothers_97 ?_
            refine v_iload_n (j := 3) C dX7_brothers_100 rfl rfl ?_
            refine v_iload_n (j := 2) C dX7_brothers_101 rfl rfl ?_
            refine v_pc (pc' := 102) rfl ?_
            refine v_aload_nR (j := 1) C dX7_brothers_102 rfl rfl ?_
            refine gf_X7_57 C ks_0 dX7_brothers_103 ?_
            replace h := bind_ex h; obtain ⟨r6, hr6, h⟩ := h
            refine cvN_V C tw_701 tw_108 tw_698 tw_700 tw_44 pd_X3_weigh (Nat.le_of_ble_eq_true rfl) (Nat.le_of_ble_eq_true rfl) (q := 196) (kd_lt ks_196 (by decide)) (sh3 ks_196) rfl (As := [.ref (B + 4), .int x2, .int x1, .ref (B + 199)]) (rest := []) rfl rfl (Nat.le_of_ble_eq_true rfl) (c_X3_weigh l D cA B aK aV r5 4 x2 x1 199 ks_4 ks_199 r6 hr6) dX7_brothers_106 ?_
            refine v_aload_nR (j := 1) C dX7_brothers_109 rfl rfl ?_
            replace h := bind_ex h; obtain ⟨r7, hr7, h⟩ := h
            refine cv_I C tw_726 tw_103 tw_723 tw_725 tw_46 pd_X7_bestPair (Nat.le_of_ble_eq_true rfl) (Nat.le_of_ble_eq_true rfl) (q := 0) (kd_lt ks_0 (by decide)) (sh7 ks_0) rfl (As := []) (rest := []) rfl rfl (Nat.le_of_ble_eq_true rfl) (c_X7_bestPair l D cA B aK aV r6 r7 hr7) dX7_brothers_110 ?_
            refine v_istore (L' := [(7, .int r7), (6, .int s0), (0, .ref (B + 0)), (1, .int x1), (2, .int x2), (3, .int x3), (4, .int x4), (5, .int x5)]) C dX7_brothers_113 (by decide) rfl ?_
            refine v_iload (j := 7) C dX7_brothers_115 rfl ?_
            refine v_pc (pc' := 117) rfl ?_
            refine v_if_ne (tgt := 128) C dX7_brothers_117 (by decide) (fun g => ?_) (fun g => ?_)
            · replace h := ite_t g h
              refine v_iload (j := 0) C dX7_brothers_120 rfl ?_
              refine v_bipush C dX7_brothers_122 ct_b_30 ?_
              refine v_idiv C dX7_brothers_124 (by decide) ?_
              refine v_goto (tgt := 133) C dX7_brothers_125 (by decide) ?_
              replace h := Option.some.inj h; subst h
              subst hQ
              exact v_iret C hr hlk dX7_brothers_133
            · replace h := ite_f g h
              refine v_iload (j := 0) C dX7_brothers_128 rfl ?_
              refine v_bipush C dX7_brothers_130 ct_b_30 ?_
              refine v_irem C dX7_brothers_132 (by decide) ?_
              replace h := Option.some.inj h; subst h
              subst hQ
              exact v_iret C hr hlk dX7_brothers_133
  have J31 : ∀ (M : Mem), j_X7_brothers_31 M x1 x2 x3 x4 x5 = some R → V p l e (rmd 4) s m args below meth c 0 0 D cA B 8 Q M 31 [(0, .ref (B + 0)), (1, .int x1), (2, .int x2), (3, .int x3), (4, .int x4), (5, .int x5)] [] := by
    intro M h
    unfold j_X7_brothers_31 at h
    refine v_iconst C dX7_brothers_31 ct_i_0 ?_
    refine v_sub [0, 1, 2, 3, 4, 5] rfl ?_
    exact J32 M 0 h
  refine v_aload_nR (j := 0) C dX7_brothers_0 rfl rfl ?_
  refine gf_X7_25 C ks_0 dX7_brothers_1 ?_
  refine v_iload_n (j := 1) C dX7_brothers_4 rfl rfl ?_
  replace h := bind_ex h; obtain ⟨r8, hr8, h⟩ := h
  refine cvN_Q C tw_534 tw_105 tw_634 tw_533 tw_25 pd_X5_at (Nat.le_of_ble_eq_true rfl) (Nat.le_of_ble_eq_true rfl) (q := 4) (kd_lt ks_4 (by decide)) (sh5 ks_4) rfl (As := [.int x1]) (rest := []) rfl rfl (Nat.le_of_ble_eq_true rfl) (c_X5_at l D cA B aK aV M 4 x1 ks_4 r8 hr8) dX7_brothers_5 ?_
  replace h := optC_ex h
  rcases h with ⟨rfl, h⟩ | ⟨a9, rfl, h⟩
  · refine v_eq (M' := M) (pc' := 8) (L' := [(0, .ref (B + 0)), (1, .int x1), (2, .int x2), (3, .int x3), (4, .int x4), (5, .int x5)]) (st' := [.null]) ?_
    refine v_ifnullN (tgt := 31) C dX7_brothers_8 (by decide) ?_
    refine v_sub [0, 1, 2, 3, 4, 5] rfl ?_
    exact J31 M h
  · replace h := chk_some h; obtain ⟨g10, h⟩ := h
    replace g10 := kdB_eq g10
    refine v_eq (M' := M) (pc' := 8) (L' := [(0, .ref (B + 0)), (1, .int x1), (2, .int x2), (3, .int x3), (4, .int x4), (5, .int x5)]) (st' := [.ref (B + a9)]) ?_
    refine v_ifnullS C dX7_brothers_8 ?_
    refine v_aload_nR (j := 0) C dX7_brothers_11 rfl rfl ?_
    refine gf_X7_25 C ks_0 dX7_brothers_12 ?_
    refine v_iload_n (j := 2) C dX7_brothers_15 rfl rfl ?_
    replace h := bind_ex h; obtain ⟨r11, hr11, h⟩ := h
    refine cvN_Q C tw_534 tw_105 tw_634 tw_533 tw_25 pd_X5_at (Nat.le_of_ble_eq_true rfl) (Nat.le_of_ble_eq_true rfl) (q := 4) (kd_lt ks_4 (by decide)) (sh5 ks_4) rfl (As := [.int x2]) (rest := []) rfl rfl (Nat.le_of_ble_eq_true rfl) (c_X5_at l D cA B aK aV M 4 x2 ks_4 r11 hr11) dX7_brothers_16 ?_
    replace h := optC_ex h
    rcases h with ⟨rfl, h⟩ | ⟨a12, rfl, h⟩
    · refine v_eq (M' := M) (pc' := 19) (L' := [(0, .ref (B + 0)), (1, .int x1), (2, .int x2), (3, .int x3), (4, .int x4), (5, .int x5)]) (st' := [.null]) ?_
      refine v_ifnullN (tgt := 31) C dX7_brothers_19 (by decide) ?_
      refine v_sub [0, 1, 2, 3, 4, 5] rfl ?_
      exact J31 M h
    · replace h := chk_some h; obtain ⟨g13, h⟩ := h
      replace g13 := kdB_eq g13
      refine v_eq (M' := M) (pc' := 19) (L' := [(0, .ref (B + 0)), (1, .int x1), (2, .int x2), (3, .int x3), (4, .int x4), (5, .int x5)]) (st' := [.ref (B + a12)]) ?_
      refine v_ifnullS C dX7_brothers_19 ?_
      refine v_iload_n (j := 1) C dX7_brothers_22 rfl rfl ?_
      refine v_iload_n (j := 2) C dX7_brothers_23 rfl rfl ?_
      refine v_icmp_eq (tgt := 31) C dX7_brothers_24 (by decide) (fun g => ?_) (fun g => ?_)
      · replace h := ite_t g h
        refine v_sub [0, 1, 2, 3, 4, 5] rfl ?_
        exact J31 M h
      · replace h := ite_f g h
        refine v_iconst C dX7_brothers_27 ct_i_1 ?_
        refine v_goto (tgt := 32) C dX7_brothers_28 (by decide) ?_
        refine v_sub [0, 1, 2, 3, 4, 5] rfl ?_
        exact J32 M 1 h
def j_X7_settle_45 (M : Mem) (x1 : Int32) (x2 : Int32) (x3 : Int32) (x4 : Option Nat) (s0 : Int32) : Option ((Int32 × Int32 × Mem) ⊕ (Int32 × Mem)) :=
  optC x4 (some (.inl (x2, x3 + 1, M))) (fun a1 => chk (kdB a1 2) (if (M a1 3) = s0 then (some (.inl (x2, x3 + 1, M))) else (nm (mset M a1 3 s0) fun M3 => some (.inl (1, x3 + 1, M3)))))
def b_X7_settle_12 (M : Mem) (x1 : Int32) (x2 : Int32) (x3 : Int32) : Option ((Int32 × Int32 × Mem) ⊕ (Int32 × Mem)) :=
  if 5 ≤ x3 then (some (.inr (x2, M))) else ((m_X5_at M 18 x3).bind fun r4 => optC r4 (j_X7_settle_45 M x1 x2 x3 none (-1)) (fun a5 => chk (kdB a5 2) ((m_X7_bestCell M 18 x3).bind fun r7 => j_X7_settle_45 r7.2 x1 x2 x3 (some a5) r7.1)))
def b_X7_settle_2 (M : Mem) (x1 : Int32) : Option ((Int32 × Mem) ⊕ (Mem ⊕ (Int32 × Mem))) :=
  if 20 < x1 then (some (.inr (.inl M))) else ((loopF (fun z => b_X7_settle_12 z.2.2 x1 z.1 z.2.1) FUEL (0, 0, M)).bind fun z8 => if z8.1 = 0 then (some (.inr (.inr ((x1, z8.2))))) else (some (.inl (x1 + 1, z8.2))))
def m_X7_settle (M : Mem) : Option (Int32 × Mem) :=
  (loopF (fun z => b_X7_settle_2 z.2 z.1) FUEL (1, M)).bind fun z9 => sumC z9 (fun z10 => some (((-1000000), z10))) (fun z => some z)
set_option maxHeartbeats 4000000 in
set_option maxRecDepth 100000 in
theorem c_X7_settle (l : Launch) (D : va_G) (cA : cAt) (B : Nat) (aK aV : Nat → Nat) (M : Mem) (R : Int32 × Mem) (h : m_X7_settle M = some R) : CI l D cA B aK aV yX7_settle cX7_settle 6 .int 5 [.ref (B + 0)] M R.1 R.2 := by
  refine CI_of (by decide +kernel) (Nat.le_of_ble_eq_true rfl) ?_
  intro p e s m args below meth c C hr hlk
  have C : Cx p (rmd 5) s m args c 0 0 D cA B aK aV cX7_settle 6 RX7 := C
  generalize hQ : MQ below _ args s 0 0 _ = Q
  refine v_eq (M' := M) (pc' := 0) (L' := [(0, .ref (B + 0))]) (st' := []) ?_
  unfold m_X7_settle at h
  refine v_iconst C dX7_settle_0 ct_i_1 ?_
  refine v_istore_n (L' := [(1, .int 1), (0, .ref (B + 0))]) C dX7_settle_1 rfl (by decide) rfl ?_
  have LB2 : ∀ (M : Mem) (x1 : Int32) (o2 : (Int32 × Mem) ⊕ (Mem ⊕ (Int32 × Mem))) (h : b_X7_settle_2 M x1 = some o2) (hc2 : ∀ z : Int32 × Mem, o2 = .inl z → V p l e (rmd 5) s m args below meth c 0 0 D cA B 6 Q z.2 2 [(0, .ref (B + 0)), (1, .int z.1)] []) (he2 : ∀ z : Mem, o2 = .inr (.inl z) → V p l e (rmd 5) s m args below meth c 0 0 D cA B 6 Q z 89 [] []) (hr2 : ∀ z : Int32 × Mem, o2 = .inr (.inr z) → z = R), V p l e (rmd 5) s m args below meth c 0 0 D cA B 6 Q M 2 [(0, .ref (B + 0)), (1, .int x1)] [] := by
    intro M x1 o2 h hc2 he2 hr2
    unfold b_X7_settle_2 at h
    refine v_iload_n (j := 1) C dX7_settle_2 rfl rfl ?_
    refine v_bipush C dX7_settle_3 ct_b_20 ?_
    refine v_icmp_gt (tgt := 89) C dX7_settle_5 (by decide) (fun g => ?_) (fun g => ?_)
    · replace h := ite_t g h
      replace h := Option.some.inj h; subst h
      refine v_sub [] rfl ?_
      exact he2 M rfl
    · replace h := ite_f g h
      refine v_iconst C dX7_settle_8 ct_i_0 ?_
      refine v_istore_n (L' := [(2, .int 0), (0, .ref (B + 0)), (1, .int x1)]) C dX7_settle_9 rfl (by decide) rfl ?_
      refine v_iconst C dX7_settle_10 ct_i_0 ?_
      refine v_pc (pc' := 11) rfl ?_
      refine v_istore_n (L' := [(3, .int 0), (2, .int 0), (0, .ref (B + 0)), (1, .int x1)]) C dX7_settle_11 rfl (by decide) rfl ?_
      have LB12 : ∀ (M : Mem) (x1 : Int32) (x2 : Int32) (x3 : Int32) (o12 : (Int32 × Int32 × Mem) ⊕ (Int32 × Mem)) (h : b_X7_settle_12 M x1 x2 x3 = some o12) (hc12 : ∀ z : Int32 × Int32 × Mem, o12 = .inl z → V p l e (rmd 5) s m args below meth c 0 0 D cA B 6 Q z.2.2 12 [(0, .ref (B + 0)), (1, .int x1), (2, .int z.1), (3, .int z.2.1)] []) (he12 : ∀ z : Int32 × Mem, o12 = .inr z → V p l e (rmd 5) s m args below meth c 0 0 D cA B 6 Q z.2 77 [(0, .ref (B + 0)), (1, .int x1), (2, .int z.1)] []), V p l e (rmd 5) s m args below meth c 0 0 D cA B 6 Q M 12 [(0, .ref (B + 0)), (1, .int x1), (2, .int x2), (3, .int x3)] [] := by
        intro M x1 x2 x3 o12 h hc12 he12
        unfold b_X7_settle_12 at h
        have J45 : ∀ (M : Mem) (x2 : Int32) (x3 : Int32) (x4 : Option Nat) (s0 : Int32), j_X7_settle_45 M x1 x2 x3 x4 s0 = some o12 → V p l e (rmd 5) s m args below meth c 0 0 D cA B 6 Q M 45 [(0, .ref (B + 0)), (1, .int x1), (2, .int x2), (3, .int x3), (4, rv B x4)] [.int s0] := by
          intro M x2 x3 x4 s0 h
          unfold j_X7_settle_45 at h
          refine v_istore (L' := [(5, .int s0), (0, .ref (B + 0)), (1, .int x1), (2, .int x2), (3, .int x3), (4, rv B x4)]) C dX7_settle_45 (by decide) (by cases x4 <;> rfl) ?_
          refine v_aloadO (j := 5) C dX7_settle_47 rfl ?_
          replace h := optC_ex h
          rcases h with ⟨rfl, h⟩ | ⟨a1, rfl, h⟩
          · refine v_eq (M' := M) (pc' := 49) (L' := [(5, .int s0), (0, .ref (B + 0)), (1, .int x1), (2, .int x2), (3, .int x3), (4, .null)]) (st' := [.null]) ?_
            refine v_ifnullN (tgt := 71) C dX7_settle_49 (by decide) ?_
            refine v_iinc (j := 4) (L' := [(3, .int (x3 + 1)), (5, .int s0), (0, .ref (B + 0)), (1, .int x1), (2, .int x2), (4, .null)]) C dX7_settle_71 rfl (congrArg (fun z => _ + z) ct_i_1) (by decide) rfl ?_
            refine v_goto (tgt := 12) C dX7_settle_74 (by decide) ?_
            replace h := Option.some.inj h; subst h
            refine v_sub [2, 3, 4, 0] rfl ?_
            exact hc12 (x2, x3 + 1, M) rfl
          · replace h := chk_some h; obtain ⟨g2, h⟩ := h
            replace g2 := kdB_eq g2
            refine v_eq (M' := M) (pc' := 49) (L' := [(5, .int s0), (0, .ref (B + 0)), (1, .int x1), (2, .int x2), (3, .int x3), (4, .ref (B + a1))]) (st' := [.ref (B + a1)]) ?_
            refine v_ifnullS C dX7_settle_49 ?_
            refine v_aloadR (j := 5) C dX7_settle_52 rfl ?_
            refine gf_X7_186 C g2 dX7_settle_54 ?_
            refine v_iload (j := 0) C dX7_settle_57 rfl ?_
            refine v_icmp_eq (tgt := 71) C dX7_settle_59 (by decide) (fun g => ?_) (fun g => ?_)
            · replace h := ite_t g h
              refine v_iinc (j := 4) (L' := [(3, .int (x3 + 1)), (5, .int s0), (0, .ref (B + 0)), (1, .int x1), (2, .int x2), (4, .ref (B + a1))]) C dX7_settle_71 rfl (congrArg (fun z => _ + z) ct_i_1) (by decide) rfl ?_
              refine v_goto (tgt := 12) C dX7_settle_74 (by decide) ?_
              replace h := Option.some.inj h; subst h
              refine v_sub [2, 3, 4, 0] rfl ?_
              exact hc12 (x2, x3 + 1, M) rfl
            · replace h := ite_f g h
              refine v_aloadR (j := 5) C dX7_settle_62 rfl ?_
              refine v_iload (j := 0) C dX7_settle_64 rfl ?_
              refine v_pc (pc' := 66) rfl ?_
              replace h := nm_ex h; obtain ⟨M3, eM3, h⟩ := h
              refine pf_X7_186 C g2 dX7_settle_66 ?_
              refine v_mem eM3 ?_
              refine v_iconst C dX7_settle_69 ct_i_1 ?_
              refine v_istore_n (L' := [(2, .int 1), (5, .int s0), (0, .ref (B + 0)), (1, .int x1), (3, .int x3), (4, .ref (B + a1))]) C dX7_settle_70 rfl (by decide) rfl ?_
              refine v_iinc (j := 4) (L' := [(3, .int (x3 + 1)), (2, .int 1), (5, .int s0), (0, .ref (B + 0)), (1, .int x1), (4, .ref (B + a1))]) C dX7_settle_71 rfl (congrArg (fun z => _ + z) ct_i_1) (by decide) rfl ?_
              refine v_goto (tgt := 12) C dX7_settle_74 (by decide) ?_
              replace h := Option.some.inj h; subst h
              refine v_sub [3, 4, 1, 0] rfl ?_
              exact hc12 (1, x3 + 1, M3) rfl
        refine v_iload_n (j := 3) C dX7_settle_12 rfl rfl ?_
        refine v_iconst C dX7_settle_13 ct_i_5 ?_
        refine v_icmp_ge (tgt := 77) C dX7_settle_14 (by decide) (fun g => ?_) (fun g => ?_)
        · replace h := ite_t g h
          replace h := Option.some.inj h; subst h
          refine v_sub [0, 1, 2] rfl ?_
          exact he12 (x2, M) rfl
        · replace h := ite_f g h
          refine v_aload_nR (j := 0) C dX7_settle_17 rfl rfl ?_
          refine gf_X7_32 C ks_0 dX7_settle_18 ?_
          refine v_iload_n (j := 3) C dX7_settle_21 rfl rfl ?_
          refine v_pc (pc' := 22) rfl ?_
          replace h := bind_ex h; obtain ⟨r4, hr4, h⟩ := h
          refine cvN_Q C tw_534 tw_105 tw_634 tw_533 tw_25 pd_X5_at (Nat.le_of_ble_eq_true rfl) (Nat.le_of_ble_eq_true rfl) (q := 18) (kd_lt ks_18 (by decide)) (sh5 ks_18) rfl (As := [.int x3]) (rest := []) rfl rfl (Nat.le_of_ble_eq_true rfl) (c_X5_at l D cA B aK aV M 18 x3 ks_18 r4 hr4) dX7_settle_22 ?_
          refine v_astoreO (L' := [(4, rv B r4), (0, .ref (B + 0)), (1, .int x1), (2, .int x2), (3, .int x3)]) C dX7_settle_25 (by decide) rfl ?_
          refine v_aloadO (j := 0) C dX7_settle_27 rfl ?_
          replace h := optC_ex h
          rcases h with ⟨rfl, h⟩ | ⟨a5, rfl, h⟩
          · refine v_eq (M' := M) (pc' := 29) (L' := [(4, .null), (0, .ref (B + 0)), (1, .int x1), (2, .int x2), (3, .int x3)]) (st' := [.null]) ?_
            refine v_ifnonnullN C dX7_settle_29 ?_
            refine v_iconst C dX7_settle_32 ct_i_m1 ?_
            refine v_goto (tgt := 45) C dX7_settle_33 (by decide) ?_
            refine v_sub [1, 2, 3, 4, 0] rfl ?_
            exact J45 M x2 x3 none (-1) h
          · replace h := chk_some h; obtain ⟨g6, h⟩ := h
            replace g6 := kdB_eq g6
            refine v_eq (M' := M) (pc' := 29) (L' := [(4, .ref (B + a5)), (0, .ref (B + 0)), (1, .int x1), (2, .int x2), (3, .int x3)]) (st' := [.ref (B + a5)]) ?_
            refine v_ifnonnullS (tgt := 36) C dX7_settle_29 (by decide) ?_
            refine v_aload_nR (j := 1) C dX7_settle_36 rfl rfl ?_
            refine v_aload_nR (j := 1) C dX7_settle_37 rfl rfl ?_
            refine gf_X7_32 C ks_0 dX7_settle_38 ?_
            refine v_iload_n (j := 4) C dX7_settle_41 rfl rfl ?_
            replace h := bind_ex h; obtain ⟨r7, hr7, h⟩ := h
            refine cv_I C tw_697 tw_103 tw_694 tw_696 tw_43 pd_X7_bestCell (Nat.le_of_ble_eq_true rfl) (Nat.le_of_ble_eq_true rfl) (q := 0) (kd_lt ks_0 (by decide)) (sh7 ks_0) rfl (As := [.ref (B + 18), .int x3]) (rest := []) rfl rfl (Nat.le_of_ble_eq_true rfl) (c_X7_bestCell l D cA B aK aV M 18 x3 ks_18 r7 hr7) dX7_settle_42 ?_
            refine v_sub [1, 2, 3, 4, 0] rfl ?_
            exact J45 r7.2 x2 x3 (some a5) r7.1 h
      replace h := bind_ex h; obtain ⟨z8, hz8, h⟩ := h
      refine v_sub [2, 3, 1, 0] rfl ?_
      refine loopF_walk (Pσ := fun z => V p l e (rmd 5) s m args below meth c 0 0 D cA B 6 Q z.2.2 12 [(0, .ref (B + 0)), (1, .int x1), (2, .int z.1), (3, .int z.2.1)] []) (Pρ := fun y => V p l e (rmd 5) s m args below meth c 0 0 D cA B 6 Q y.2 77 [(0, .ref (B + 0)), (1, .int x1), (2, .int y.1)] []) ?_ FUEL (0, 0, M) z8 hz8 ?_
      · intro z o hb hc he
        exact LB12 z.2.2 x1 z.1 z.2.1 o hb hc he
      · refine v_iload_n (j := 2) C dX7_settle_77 rfl rfl ?_
        refine v_if_ne (tgt := 83) C dX7_settle_78 (by decide) (fun g => ?_) (fun g => ?_)
        · replace h := ite_t g h
          refine v_iload_n (j := 1) C dX7_settle_81 rfl rfl ?_
          replace h := Option.some.inj h; subst h
          have hR := hr2 _ rfl
          subst hR
          subst hQ
          exact v_iret C hr hlk dX7_settle_82
        · replace h := ite_f g h
          refine v_iinc (j := 1) (L' := [(1, .int (x1 + 1)), (0, .ref (B + 0)), (2, .int z8.1)]) C dX7_settle_83 rfl (congrArg (fun z => _ + z) ct_i_1) (by decide) rfl ?_
          refine v_goto (tgt := 2) C dX7_settle_86 (by decide) ?_
          replace h := Option.some.inj h; subst h
          refine v_sub [1, 0] rfl ?_
          exact hc2 (x1 + 1, z8.2) rfl
  replace h := bind_ex h; obtain ⟨z9, hz9, h⟩ := h
  refine v_sub [1, 0] rfl ?_
  refine loopF_walk (Pσ := fun z => V p l e (rmd 5) s m args below meth c 0 0 D cA B 6 Q z.2 2 [(0, .ref (B + 0)), (1, .int z.1)] []) (Pρ := fun r => (∀ y : Mem, r = .inl y → V p l e (rmd 5) s m args below meth c 0 0 D cA B 6 Q y 89 [] []) ∧ (∀ y : Int32 × Mem, r = .inr y → y = R)) ?_ FUEL (1, M) z9 hz9 ?_
  · intro z o hb hc he
    exact LB2 z.2 z.1 o hb hc (fun y e => (he _ e).1 y rfl) (fun y e => (he _ e).2 y rfl)
  · refine ⟨fun z10 e => ?_, fun y e => ?_⟩
    · subst e
      replace h := sumC_l h
      refine v_ldc C tw_665 dX7_settle_89 ?_
      replace h := Option.some.inj h; subst h
      subst hQ
      exact v_iret C hr hlk dX7_settle_91
    · subst e
      replace h := sumC_r h
      exact Option.some.inj h
def j_X7_rounds_46 (M : Mem) (x1 : Int32) (x2 : Int32) (x3 : Int32) : Option (Int32 × Mem) :=
  (m_X5_takeFrom M 18 4).bind fun r1 => (m_X3_throwAt r1 x1 x2).bind fun r2 => (m_X7_settle r2).bind fun r3 => nm r3.1 fun y4 => (m_X5_at r3.2 18 x3).bind fun r5 => if y4 = (-1000000) then (some ((y4, r3.2))) else (optC r5 (some ((y4, r3.2))) (fun a6 => chk (kdB a6 2) (some ((r3.2 a6 3, r3.2)))))
def m_X7_rounds (M : Mem) (x1 : Int32) (x2 : Int32) (x3 : Int32) : Option (Int32 × Mem) :=
  if (M 4 1) = 0 then (some (((-1000002), M))) else ((m_X7_isCell M x1).bind fun r8 => if r8 = 0 then (some (((-1000001), M))) else ((m_X7_isSpread M x2).bind fun r9 => if r9 = 0 then (some (((-1000001), M))) else (if x3 = (-1) then (j_X7_rounds_46 M x1 x2 x3) else ((m_X5_at M 4 x3).bind fun r10 => optC r10 (some (((-1000001), M))) (fun a11 => chk (kdB a11 2) (j_X7_rounds_46 M x1 x2 x3))))))
set_option maxHeartbeats 4000000 in
set_option maxRecDepth 100000 in
theorem c_X7_rounds (l : Launch) (D : va_G) (cA : cAt) (B : Nat) (aK aV : Nat → Nat) (M : Mem) (x1 : Int32) (x2 : Int32) (x3 : Int32) (R : Int32 × Mem) (h : m_X7_rounds M x1 x2 x3 = some R) : CI l D cA B aK aV yX7_rounds cX7_rounds 6 .int 6 [.ref (B + 0), .int x1, .int x2, .int x3] M R.1 R.2 := by
  refine CI_of (by decide +kernel) (Nat.le_of_ble_eq_true rfl) ?_
  intro p e s m args below meth c C hr hlk
  have C : Cx p (rmd 6) s m args c 0 0 D cA B aK aV cX7_rounds 6 RX7 := C
  generalize hQ : MQ below _ args s 0 0 _ = Q
  refine v_eq (M' := M) (pc' := 0) (L' := [(0, .ref (B + 0)), (1, .int x1), (2, .int x2), (3, .int x3)]) (st' := []) ?_
  unfold m_X7_rounds at h
  have J46 : ∀ (M : Mem), j_X7_rounds_46 M x1 x2 x3 = some R → V p l e (rmd 6) s m args below meth c 0 0 D cA B 6 Q M 46 [(0, .ref (B + 0)), (1, .int x1), (2, .int x2), (3, .int x3)] [] := by
    intro M h
    unfold j_X7_rounds_46 at h
    refine v_aload_nR (j := 0) C dX7_rounds_46 rfl rfl ?_
    refine gf_X7_32 C ks_0 dX7_rounds_47 ?_
    refine v_aload_nR (j := 0) C dX7_rounds_50 rfl rfl ?_
    refine gf_X7_25 C ks_0 dX7_rounds_51 ?_
    replace h := bind_ex h; obtain ⟨r1, hr1, h⟩ := h
    refine cvN_V C tw_539 tw_105 tw_536 tw_538 tw_26 pd_X5_takeFrom (Nat.le_of_ble_eq_true rfl) (Nat.le_of_ble_eq_true rfl) (q := 18) (kd_lt ks_18 (by decide)) (sh5 ks_18) rfl (As := [.ref (B + 4)]) (rest := []) rfl rfl (Nat.le_of_ble_eq_true rfl) (c_X5_takeFrom l D cA B aK aV M 18 4 ks_18 ks_4 r1 hr1) dX7_rounds_54 ?_
    refine v_aload_nR (j := 0) C dX7_rounds_57 rfl rfl ?_
    refine v_pc (pc' := 58) rfl ?_
    refine gf_X7_49 C ks_0 dX7_rounds_58 ?_
    refine v_iload_n (j := 1) C dX7_rounds_61 rfl rfl ?_
    refine v_iload_n (j := 2) C dX7_rounds_62 rfl rfl ?_
    replace h := bind_ex h; obtain ⟨r2, hr2, h⟩ := h
    refine cvN_V C tw_584 tw_108 tw_581 tw_583 tw_32 pd_X3_throwAt (Nat.le_of_ble_eq_true rfl) (Nat.le_of_ble_eq_true rfl) (q := 196) (kd_lt ks_196 (by decide)) (sh3 ks_196) rfl (As := [.int x1, .int x2]) (rest := []) rfl rfl (Nat.le_of_ble_eq_true rfl) (c_X3_throwAt l D cA B aK aV r1 x1 x2 r2 hr2) dX7_rounds_63 ?_
    refine v_aload_nR (j := 0) C dX7_rounds_66 rfl rfl ?_
    replace h := bind_ex h; obtain ⟨r3, hr3, h⟩ := h
    refine cv_I C tw_734 tw_103 tw_731 tw_733 tw_47 pd_X7_settle (Nat.le_of_ble_eq_true rfl) (Nat.le_of_ble_eq_true rfl) (q := 0) (kd_lt ks_0 (by decide)) (sh7 ks_0) rfl (As := []) (rest := []) rfl rfl (Nat.le_of_ble_eq_true rfl) (c_X7_settle l D cA B aK aV r2 r3 hr3) dX7_rounds_67 ?_
    replace h := nm_ex h; obtain ⟨y4, ey4, h⟩ := h
    refine v_topI ey4 ?_
    refine v_istore (L' := [(4, .int y4), (0, .ref (B + 0)), (1, .int x1), (2, .int x2), (3, .int x3)]) C dX7_rounds_70 (by decide) rfl ?_
    refine v_pc (pc' := 72) rfl ?_
    refine v_aload_nR (j := 1) C dX7_rounds_72 rfl rfl ?_
    refine gf_X7_32 C ks_0 dX7_rounds_73 ?_
    refine v_iload_n (j := 4) C dX7_rounds_76 rfl rfl ?_
    replace h := bind_ex h; obtain ⟨r5, hr5, h⟩ := h
    refine cvN_Q C tw_534 tw_105 tw_634 tw_533 tw_25 pd_X5_at (Nat.le_of_ble_eq_true rfl) (Nat.le_of_ble_eq_true rfl) (q := 18) (kd_lt ks_18 (by decide)) (sh5 ks_18) rfl (As := [.int x3]) (rest := []) rfl rfl (Nat.le_of_ble_eq_true rfl) (c_X5_at l D cA B aK aV r3.2 18 x3 ks_18 r5 hr5) dX7_rounds_77 ?_
    refine v_astoreO (L' := [(5, rv B r5), (4, .int y4), (0, .ref (B + 0)), (1, .int x1), (2, .int x2), (3, .int x3)]) C dX7_rounds_80 (by decide) rfl ?_
    refine v_iload (j := 1) C dX7_rounds_82 rfl ?_
    refine v_ldc C tw_665 dX7_rounds_84 ?_
    refine v_pc (pc' := 86) rfl ?_
    refine v_icmp_eq (tgt := 94) C dX7_rounds_86 (by decide) (fun g => ?_) (fun g => ?_)
    · replace h := ite_t g h
      refine v_iload (j := 1) C dX7_rounds_94 rfl ?_
      refine v_goto (tgt := 104) C dX7_rounds_96 (by decide) ?_
      replace h := Option.some.inj h; subst h
      subst hQ
      exact v_iret C hr hlk dX7_rounds_104
    · replace h := ite_f g h
      refine v_aloadO (j := 0) C dX7_rounds_89 rfl ?_
      replace h := optC_ex h
      rcases h with ⟨rfl, h⟩ | ⟨a6, rfl, h⟩
      · refine v_eq (M' := r3.2) (pc' := 91) (L' := [(5, .null), (4, .int y4), (0, .ref (B + 0)), (1, .int x1), (2, .int x2), (3, .int x3)]) (st' := [.null]) ?_
        refine v_ifnonnullN C dX7_rounds_91 ?_
        refine v_iload (j := 1) C dX7_rounds_94 rfl ?_
        refine v_goto (tgt := 104) C dX7_rounds_96 (by decide) ?_
        replace h := Option.some.inj h; subst h
        subst hQ
        exact v_iret C hr hlk dX7_rounds_104
      · replace h := chk_some h; obtain ⟨g7, h⟩ := h
        replace g7 := kdB_eq g7
        refine v_eq (M' := r3.2) (pc' := 91) (L' := [(5, .ref (B + a6)), (4, .int y4), (0, .ref (B + 0)), (1, .int x1), (2, .int x2), (3, .int x3)]) (st' := [.ref (B + a6)]) ?_
        refine v_ifnonnullS (tgt := 99) C dX7_rounds_91 (by decide) ?_
        refine v_aloadR (j := 0) C dX7_rounds_99 rfl ?_
        refine gf_X7_186 C g7 dX7_rounds_101 ?_
        replace h := Option.some.inj h; subst h
        subst hQ
        exact v_iret C hr hlk dX7_rounds_104
  refine v_aload_nR (j := 0) C dX7_rounds_0 rfl rfl ?_
  refine gf_X7_25 C ks_0 dX7_rounds_1 ?_
  refine gf_X7_147 C ks_4 dX7_rounds_4 ?_
  refine v_if_ne (tgt := 13) C dX7_rounds_7 (by decide) (fun g => ?_) (fun g => ?_)
  · replace h := ite_t g h
    refine v_ldc C tw_553 dX7_rounds_10 ?_
    replace h := Option.some.inj h; subst h
    subst hQ
    exact v_iret C hr hlk dX7_rounds_12
  · replace h := ite_f g h
    refine v_iload_n (j := 1) C dX7_rounds_13 rfl rfl ?_
    replace h := bind_ex h; obtain ⟨r8, hr8, h⟩ := h
    refine cs_I C tw_556 tw_103 tw_554 tw_555 pd_X7_isCell (Nat.le_of_ble_eq_true rfl) (Nat.le_of_ble_eq_true rfl) (As := [.int x1]) (rest := []) rfl rfl (Nat.le_of_ble_eq_true rfl) (c_X7_isCell l D cA B aK aV M x1 r8 hr8) dX7_rounds_14 ?_
    refine v_if_eq (tgt := 43) C dX7_rounds_17 (by decide) (fun g => ?_) (fun g => ?_)
    · replace h := ite_t g h
      refine v_ldc C tw_343 dX7_rounds_43 ?_
      replace h := Option.some.inj h; subst h
      subst hQ
      exact v_iret C hr hlk dX7_rounds_45
    · replace h := ite_f g h
      refine v_iload_n (j := 2) C dX7_rounds_20 rfl rfl ?_
      replace h := bind_ex h; obtain ⟨r9, hr9, h⟩ := h
      refine cs_I C tw_559 tw_103 tw_557 tw_558 pd_X7_isSpread (Nat.le_of_ble_eq_true rfl) (Nat.le_of_ble_eq_true rfl) (As := [.int x2]) (rest := []) rfl rfl (Nat.le_of_ble_eq_true rfl) (c_X7_isSpread l D cA B aK aV M x2 r9 hr9) dX7_rounds_21 ?_
      refine v_if_eq (tgt := 43) C dX7_rounds_24 (by decide) (fun g => ?_) (fun g => ?_)
      · replace h := ite_t g h
        refine v_ldc C tw_343 dX7_rounds_43 ?_
        replace h := Option.some.inj h; subst h
        subst hQ
        exact v_iret C hr hlk dX7_rounds_45
      · replace h := ite_f g h
        refine v_pc (pc' := 27) rfl ?_
        refine v_iload_n (j := 3) C dX7_rounds_27 rfl rfl ?_
        refine v_iconst C dX7_rounds_28 ct_i_m1 ?_
        refine v_icmp_eq (tgt := 46) C dX7_rounds_29 (by decide) (fun g => ?_) (fun g => ?_)
        · replace h := ite_t g h
          refine v_sub [0, 1, 2, 3] rfl ?_
          exact J46 M h
        · replace h := ite_f g h
          refine v_aload_nR (j := 0) C dX7_rounds_32 rfl rfl ?_
          refine gf_X7_25 C ks_0 dX7_rounds_33 ?_
          refine v_iload_n (j := 3) C dX7_rounds_36 rfl rfl ?_
          replace h := bind_ex h; obtain ⟨r10, hr10, h⟩ := h
          refine cvN_Q C tw_534 tw_105 tw_634 tw_533 tw_25 pd_X5_at (Nat.le_of_ble_eq_true rfl) (Nat.le_of_ble_eq_true rfl) (q := 4) (kd_lt ks_4 (by decide)) (sh5 ks_4) rfl (As := [.int x3]) (rest := []) rfl rfl (Nat.le_of_ble_eq_true rfl) (c_X5_at l D cA B aK aV M 4 x3 ks_4 r10 hr10) dX7_rounds_37 ?_
          refine v_pc (pc' := 40) rfl ?_
          replace h := optC_ex h
          rcases h with ⟨rfl, h⟩ | ⟨a11, rfl, h⟩
          · refine v_eq (M' := M) (pc' := 40) (L' := [(0, .ref (B + 0)), (1, .int x1), (2, .int x2), (3, .int x3)]) (st' := [.null]) ?_
            refine v_ifnonnullN C dX7_rounds_40 ?_
            refine v_ldc C tw_343 dX7_rounds_43 ?_
            replace h := Option.some.inj h; subst h
            subst hQ
            exact v_iret C hr hlk dX7_rounds_45
          · replace h := chk_some h; obtain ⟨g12, h⟩ := h
            replace g12 := kdB_eq g12
            refine v_eq (M' := M) (pc' := 40) (L' := [(0, .ref (B + 0)), (1, .int x1), (2, .int x2), (3, .int x3)]) (st' := [.ref (B + a11)]) ?_
            refine v_ifnonnullS (tgt := 46) C dX7_rounds_40 (by decide) ?_
            refine v_sub [0, 1, 2, 3] rfl ?_
            exact J46 M h
def b_X7_tellPleased_2 (M : Mem) (x1 : Int32) (x2 : Int32) : Option ((Int32 × Mem) ⊕ Mem) :=
  if 30 ≤ x2 then (some (.inr M)) else ((m_X3_throwAt M x2 x1).bind fun r1 => (m_X3_pickers r1 4).bind fun r2 => chk (inB x2 30) (nm (mset r1 200 x2.toNatClampNeg r2) fun M4 => some (.inl (x2 + 1, M4))))
def m_X7_tellPleased (M : Mem) (x1 : Int32) : Option Mem :=
  (loopF (fun z => b_X7_tellPleased_2 z.2 x1 z.1) FUEL (0, M)).bind fun z5 => some z5
set_option maxHeartbeats 4000000 in
set_option maxRecDepth 100000 in
theorem c_X7_tellPleased (l : Launch) (D : va_G) (cA : cAt) (B : Nat) (aK aV : Nat → Nat) (M : Mem) (x1 : Int32) (R : Mem) (h : m_X7_tellPleased M x1 = some R) : CV l D cA B aK aV yX7_tellPleased cX7_tellPleased 3 4 [.ref (B + 0), .int x1] M R := by
  refine CV_of (by decide +kernel) (Nat.le_of_ble_eq_true rfl) ?_
  intro p e s m args below meth c C hr hlk
  have C : Cx p (rmd 4) s m args c 0 0 D cA B aK aV cX7_tellPleased 3 RX7 := C
  generalize hQ : MQ below _ args s 0 0 _ = Q
  refine v_eq (M' := M) (pc' := 0) (L' := [(0, .ref (B + 0)), (1, .int x1)]) (st' := []) ?_
  unfold m_X7_tellPleased at h
  refine v_iconst C dX7_tellPleased_0 ct_i_0 ?_
  refine v_istore_n (L' := [(2, .int 0), (0, .ref (B + 0)), (1, .int x1)]) C dX7_tellPleased_1 rfl (by decide) rfl ?_
  have LB2 : ∀ (M : Mem) (x2 : Int32) (o2 : (Int32 × Mem) ⊕ Mem) (h : b_X7_tellPleased_2 M x1 x2 = some o2) (hc2 : ∀ z : Int32 × Mem, o2 = .inl z → V p l e (rmd 4) s m args below meth c 0 0 D cA B 3 Q z.2 2 [(0, .ref (B + 0)), (1, .int x1), (2, .int z.1)] []) (he2 : ∀ z : Mem, o2 = .inr z → V p l e (rmd 4) s m args below meth c 0 0 D cA B 3 Q z 43 [] []), V p l e (rmd 4) s m args below meth c 0 0 D cA B 3 Q M 2 [(0, .ref (B + 0)), (1, .int x1), (2, .int x2)] [] := by
    intro M x2 o2 h hc2 he2
    unfold b_X7_tellPleased_2 at h
    refine v_iload_n (j := 2) C dX7_tellPleased_2 rfl rfl ?_
    refine v_aload_nR (j := 0) C dX7_tellPleased_3 rfl rfl ?_
    refine gf_X7_60 C ks_0 dX7_tellPleased_4 ?_
    refine v_alen9 (v := 30) C ks_200 rfl dX7_tellPleased_7 ?_
    refine v_icmp_ge (tgt := 43) C dX7_tellPleased_8 (by decide) (fun g => ?_) (fun g => ?_)
    · replace h := ite_t g h
      replace h := Option.some.inj h; subst h
      refine v_sub [] rfl ?_
      exact he2 M rfl
    · replace h := ite_f g h
      refine v_aload_nR (j := 0) C dX7_tellPleased_11 rfl rfl ?_
      refine v_pc (pc' := 12) rfl ?_
      refine gf_X7_49 C ks_0 dX7_tellPleased_12 ?_
      refine v_iload_n (j := 2) C dX7_tellPleased_15 rfl rfl ?_
      refine v_iload_n (j := 1) C dX7_tellPleased_16 rfl rfl ?_
      replace h := bind_ex h; obtain ⟨r1, hr1, h⟩ := h
      refine cvN_V C tw_584 tw_108 tw_581 tw_583 tw_32 pd_X3_throwAt (Nat.le_of_ble_eq_true rfl) (Nat.le_of_ble_eq_true rfl) (q := 196) (kd_lt ks_196 (by decide)) (sh3 ks_196) rfl (As := [.int x2, .int x1]) (rest := []) rfl rfl (Nat.le_of_ble_eq_true rfl) (c_X3_throwAt l D cA B aK aV M x2 x1 r1 hr1) dX7_tellPleased_17 ?_
      refine v_aload_nR (j := 0) C dX7_tellPleased_20 rfl rfl ?_
      refine gf_X7_60 C ks_0 dX7_tellPleased_21 ?_
      refine v_iload_n (j := 2) C dX7_tellPleased_24 rfl rfl ?_
      refine v_pc (pc' := 25) rfl ?_
      refine v_aload_nR (j := 0) C dX7_tellPleased_25 rfl rfl ?_
      refine gf_X7_49 C ks_0 dX7_tellPleased_26 ?_
      refine v_aload_nR (j := 0) C dX7_tellPleased_29 rfl rfl ?_
      refine gf_X7_25 C ks_0 dX7_tellPleased_30 ?_
      replace h := bind_ex h; obtain ⟨r2, hr2, h⟩ := h
      refine cvN_I C tw_746 tw_108 tw_743 tw_745 tw_49 pd_X3_pickers (Nat.le_of_ble_eq_true rfl) (Nat.le_of_ble_eq_true rfl) (q := 196) (kd_lt ks_196 (by decide)) (sh3 ks_196) rfl (As := [.ref (B + 4)]) (rest := [.int x2, .ref (B + 200)]) rfl rfl (Nat.le_of_ble_eq_true rfl) (c_X3_pickers l D cA B aK aV r1 4 ks_4 r2 hr2) dX7_tellPleased_33 ?_
      replace h := chk_some h; obtain ⟨g3, h⟩ := h
      replace h := nm_ex h; obtain ⟨M4, eM4, h⟩ := h
      refine v_iast C ks_200 (inB_vp g3) dX7_tellPleased_36 ?_
      refine v_mem eM4 ?_
      refine v_iinc (j := 2) (L' := [(2, .int (x2 + 1)), (0, .ref (B + 0)), (1, .int x1)]) C dX7_tellPleased_37 rfl (congrArg (fun z => _ + z) ct_i_1) (by decide) rfl ?_
      refine v_pc (pc' := 40) rfl ?_
      refine v_goto (tgt := 2) C dX7_tellPleased_40 (by decide) ?_
      replace h := Option.some.inj h; subst h
      refine v_sub [1, 2, 0] rfl ?_
      exact hc2 (x2 + 1, M4) rfl
  replace h := bind_ex h; obtain ⟨z5, hz5, h⟩ := h
  refine v_sub [1, 2, 0] rfl ?_
  refine loopF_walk (Pσ := fun z => V p l e (rmd 4) s m args below meth c 0 0 D cA B 3 Q z.2 2 [(0, .ref (B + 0)), (1, .int x1), (2, .int z.1)] []) (Pρ := fun y => V p l e (rmd 4) s m args below meth c 0 0 D cA B 3 Q y 43 [] []) ?_ FUEL (0, M) z5 hz5 ?_
  · intro z o hb hc he
    exact LB2 z.2 z.1 o hb hc he
  · replace h := Option.some.inj h; subst h
    subst hQ
    exact v_vret C hr hlk dX7_tellPleased_43
def m_X7_aim (M : Mem) (x1 : Int32) (x2 : Int32) : Option (Int32 × Mem) :=
  if (M 4 1) = 0 then (some (((-1000002), M))) else ((m_X7_isSpread M x1).bind fun r1 => if r1 = 0 then (some (((-1000001), M))) else ((m_X7_isEither M x2).bind fun r2 => if r2 = 0 then (some (((-1000001), M))) else ((m_X7_tellPleased M x1).bind fun r3 => (m_X7_largest r3 200).bind fun r4 => (m_X3_throwAt r3 r4 x1).bind fun r5 => if x2 = 0 then (some ((r4, r5))) else ((m_X3_pickers r5 4).bind fun r6 => (m_J6_bitCount_0f7a4 r5 r6).bind fun r7 => some ((r7, r5))))))
set_option maxHeartbeats 4000000 in
set_option maxRecDepth 100000 in
theorem c_X7_aim (l : Launch) (D : va_G) (cA : cAt) (B : Nat) (aK aV : Nat → Nat) (M : Mem) (x1 : Int32) (x2 : Int32) (R : Int32 × Mem) (h : m_X7_aim M x1 x2 = some R) : CI l D cA B aK aV yX7_aim cX7_aim 4 .int 5 [.ref (B + 0), .int x1, .int x2] M R.1 R.2 := by
  refine CI_of (by decide +kernel) (Nat.le_of_ble_eq_true rfl) ?_
  intro p e s m args below meth c C hr hlk
  have C : Cx p (rmd 5) s m args c 0 0 D cA B aK aV cX7_aim 4 RX7 := C
  generalize hQ : MQ below _ args s 0 0 _ = Q
  refine v_eq (M' := M) (pc' := 0) (L' := [(0, .ref (B + 0)), (1, .int x1), (2, .int x2)]) (st' := []) ?_
  unfold m_X7_aim at h
  refine v_aload_nR (j := 0) C dX7_aim_0 rfl rfl ?_
  refine gf_X7_25 C ks_0 dX7_aim_1 ?_
  refine gf_X7_147 C ks_4 dX7_aim_4 ?_
  refine v_if_ne (tgt := 13) C dX7_aim_7 (by decide) (fun g => ?_) (fun g => ?_)
  · replace h := ite_t g h
    refine v_ldc C tw_553 dX7_aim_10 ?_
    replace h := Option.some.inj h; subst h
    subst hQ
    exact v_iret C hr hlk dX7_aim_12
  · replace h := ite_f g h
    refine v_iload_n (j := 1) C dX7_aim_13 rfl rfl ?_
    replace h := bind_ex h; obtain ⟨r1, hr1, h⟩ := h
    refine cs_I C tw_559 tw_103 tw_557 tw_558 pd_X7_isSpread (Nat.le_of_ble_eq_true rfl) (Nat.le_of_ble_eq_true rfl) (As := [.int x1]) (rest := []) rfl rfl (Nat.le_of_ble_eq_true rfl) (c_X7_isSpread l D cA B aK aV M x1 r1 hr1) dX7_aim_14 ?_
    refine v_if_eq (tgt := 27) C dX7_aim_17 (by decide) (fun g => ?_) (fun g => ?_)
    · replace h := ite_t g h
      refine v_ldc C tw_343 dX7_aim_27 ?_
      replace h := Option.some.inj h; subst h
      subst hQ
      exact v_iret C hr hlk dX7_aim_29
    · replace h := ite_f g h
      refine v_iload_n (j := 2) C dX7_aim_20 rfl rfl ?_
      replace h := bind_ex h; obtain ⟨r2, hr2, h⟩ := h
      refine cs_I C tw_663 tw_103 tw_661 tw_662 pd_X7_isEither (Nat.le_of_ble_eq_true rfl) (Nat.le_of_ble_eq_true rfl) (As := [.int x2]) (rest := []) rfl rfl (Nat.le_of_ble_eq_true rfl) (c_X7_isEither l D cA B aK aV M x2 r2 hr2) dX7_aim_21 ?_
      refine v_if_ne (tgt := 30) C dX7_aim_24 (by decide) (fun g => ?_) (fun g => ?_)
      · replace h := ite_t g h
        refine v_pc (pc' := 27) rfl ?_
        refine v_ldc C tw_343 dX7_aim_27 ?_
        replace h := Option.some.inj h; subst h
        subst hQ
        exact v_iret C hr hlk dX7_aim_29
      · replace h := ite_f g h
        refine v_aload_nR (j := 0) C dX7_aim_30 rfl rfl ?_
        refine v_iload_n (j := 1) C dX7_aim_31 rfl rfl ?_
        replace h := bind_ex h; obtain ⟨r3, hr3, h⟩ := h
        refine cv_V C tw_742 tw_103 tw_739 tw_741 tw_48 pd_X7_tellPleased (Nat.le_of_ble_eq_true rfl) (Nat.le_of_ble_eq_true rfl) (q := 0) (kd_lt ks_0 (by decide)) (sh7 ks_0) rfl (As := [.int x1]) (rest := []) rfl rfl (Nat.le_of_ble_eq_true rfl) (c_X7_tellPleased l D cA B aK aV M x1 r3 hr3) dX7_aim_32 ?_
        refine v_aload_nR (j := 0) C dX7_aim_35 rfl rfl ?_
        refine gf_X7_60 C ks_0 dX7_aim_36 ?_
        replace h := bind_ex h; obtain ⟨r4, hr4, h⟩ := h
        refine cs_I C tw_712 tw_103 tw_710 tw_711 pd_X7_largest (Nat.le_of_ble_eq_true rfl) (Nat.le_of_ble_eq_true rfl) (As := [.ref (B + 200)]) (rest := []) rfl rfl (Nat.le_of_ble_eq_true rfl) (c_X7_largest l D cA B aK aV r3 200 ks_200 r4 hr4) dX7_aim_39 ?_
        refine v_pc (pc' := 42) rfl ?_
        refine v_istore_n (L' := [(3, .int r4), (0, .ref (B + 0)), (1, .int x1), (2, .int x2)]) C dX7_aim_42 rfl (by decide) rfl ?_
        refine v_aload_nR (j := 1) C dX7_aim_43 rfl rfl ?_
        refine gf_X7_49 C ks_0 dX7_aim_44 ?_
        refine v_iload_n (j := 0) C dX7_aim_47 rfl rfl ?_
        refine v_iload_n (j := 2) C dX7_aim_48 rfl rfl ?_
        replace h := bind_ex h; obtain ⟨r5, hr5, h⟩ := h
        refine cvN_V C tw_584 tw_108 tw_581 tw_583 tw_32 pd_X3_throwAt (Nat.le_of_ble_eq_true rfl) (Nat.le_of_ble_eq_true rfl) (q := 196) (kd_lt ks_196 (by decide)) (sh3 ks_196) rfl (As := [.int r4, .int x1]) (rest := []) rfl rfl (Nat.le_of_ble_eq_true rfl) (c_X3_throwAt l D cA B aK aV r3 r4 x1 r5 hr5) dX7_aim_49 ?_
        refine v_iload_n (j := 3) C dX7_aim_52 rfl rfl ?_
        refine v_pc (pc' := 53) rfl ?_
        refine v_if_ne (tgt := 60) C dX7_aim_53 (by decide) (fun g => ?_) (fun g => ?_)
        · replace h := ite_t g h
          refine v_iload_n (j := 0) C dX7_aim_56 rfl rfl ?_
          refine v_goto (tgt := 74) C dX7_aim_57 (by decide) ?_
          replace h := Option.some.inj h; subst h
          subst hQ
          exact v_iret C hr hlk dX7_aim_74
        · replace h := ite_f g h
          refine v_aload_nR (j := 1) C dX7_aim_60 rfl rfl ?_
          refine gf_X7_49 C ks_0 dX7_aim_61 ?_
          refine v_aload_nR (j := 1) C dX7_aim_64 rfl rfl ?_
          refine gf_X7_25 C ks_0 dX7_aim_65 ?_
          replace h := bind_ex h; obtain ⟨r6, hr6, h⟩ := h
          refine cvN_I C tw_746 tw_108 tw_743 tw_745 tw_49 pd_X3_pickers (Nat.le_of_ble_eq_true rfl) (Nat.le_of_ble_eq_true rfl) (q := 196) (kd_lt ks_196 (by decide)) (sh3 ks_196) rfl (As := [.ref (B + 4)]) (rest := []) rfl rfl (Nat.le_of_ble_eq_true rfl) (c_X3_pickers l D cA B aK aV r5 4 ks_4 r6 hr6) dX7_aim_68 ?_
          replace h := bind_ex h; obtain ⟨r7, hr7, h⟩ := h
          refine cs_I C tw_715 tw_119 tw_713 tw_714 pd_J6_bitCount_0f7a4 (Nat.le_of_ble_eq_true rfl) (Nat.le_of_ble_eq_true rfl) (As := [.int r6]) (rest := []) rfl rfl (Nat.le_of_ble_eq_true rfl) (c_J6_bitCount_0f7a4 l D cA B aK aV r5 r6 r7 hr7) dX7_aim_71 ?_
          refine v_pc (pc' := 74) rfl ?_
          replace h := Option.some.inj h; subst h
          subst hQ
          exact v_iret C hr hlk dX7_aim_74
def m_X7_choose (M : Mem) (x1 : Int32) (x2 : Int32) : Option Mem :=
  if x1 < 0 then (some M) else (if 3 ≤ x1 then (some M) else (chk (inB x1 3) (nm (mset M 201 x1.toNatClampNeg x2) fun M2 => some M2)))
set_option maxHeartbeats 4000000 in
set_option maxRecDepth 100000 in
theorem c_X7_choose (l : Launch) (D : va_G) (cA : cAt) (B : Nat) (aK aV : Nat → Nat) (M : Mem) (x1 : Int32) (x2 : Int32) (R : Mem) (h : m_X7_choose M x1 x2 = some R) : CV l D cA B aK aV yX7_choose cX7_choose 3 0 [.ref (B + 0), .int x1, .int x2] M R := by
  refine CV_of (by decide +kernel) (Nat.le_of_ble_eq_true rfl) ?_
  intro p e s m args below meth c C hr hlk
  have C : Cx p (rmd 0) s m args c 0 0 D cA B aK aV cX7_choose 3 RX7 := C
  generalize hQ : MQ below _ args s 0 0 _ = Q
  refine v_eq (M' := M) (pc' := 0) (L' := [(0, .ref (B + 0)), (1, .int x1), (2, .int x2)]) (st' := []) ?_
  unfold m_X7_choose at h
  refine v_iload_n (j := 1) C dX7_choose_0 rfl rfl ?_
  refine v_if_lt (tgt := 20) C dX7_choose_1 (by decide) (fun g => ?_) (fun g => ?_)
  · replace h := ite_t g h
    replace h := Option.some.inj h; subst h
    subst hQ
    exact v_vret C hr hlk dX7_choose_20
  · replace h := ite_f g h
    refine v_iload_n (j := 1) C dX7_choose_4 rfl rfl ?_
    refine v_aload_nR (j := 0) C dX7_choose_5 rfl rfl ?_
    refine gf_X7_63 C ks_0 dX7_choose_6 ?_
    refine v_alen9 (v := 3) C ks_201 rfl dX7_choose_9 ?_
    refine v_pc (pc' := 10) rfl ?_
    refine v_icmp_ge (tgt := 20) C dX7_choose_10 (by decide) (fun g => ?_) (fun g => ?_)
    · replace h := ite_t g h
      replace h := Option.some.inj h; subst h
      subst hQ
      exact v_vret C hr hlk dX7_choose_20
    · replace h := ite_f g h
      refine v_aload_nR (j := 0) C dX7_choose_13 rfl rfl ?_
      refine gf_X7_63 C ks_0 dX7_choose_14 ?_
      refine v_iload_n (j := 1) C dX7_choose_17 rfl rfl ?_
      refine v_iload_n (j := 2) C dX7_choose_18 rfl rfl ?_
      replace h := chk_some h; obtain ⟨g1, h⟩ := h
      replace h := nm_ex h; obtain ⟨M2, eM2, h⟩ := h
      refine v_iast C ks_201 (inB_vp g1) dX7_choose_19 ?_
      refine v_mem eM2 ?_
      replace h := Option.some.inj h; subst h
      subst hQ
      exact v_vret C hr hlk dX7_choose_20
def b_X7_chooseOne_7 (M : Mem) (x1 : Int32) (x3 : Int32) (x4 : Int32) (x5 : Int32) : Option ((Int32 × Mem) ⊕ (Mem ⊕ (Int32 × Mem))) :=
  if 30 ≤ x5 then (some (.inr (.inl M))) else (chk (inB x5 30) (if (x3 ||| (M 200 x5.toNatClampNeg)) = x4 then ((m_X7_choose M x1 x5).bind fun r3 => some (.inr (.inr ((1, r3))))) else (some (.inl (x5 + 1, M)))))
def m_X7_chooseOne (M : Mem) (x1 : Int32) (x2 : Int32) (x3 : Int32) (x4 : Int32) : Option (Int32 × Mem) :=
  nm (if x2 < 0 then 0 else x2) fun y1 => (loopF (fun z => b_X7_chooseOne_7 z.2 x1 x3 x4 z.1) FUEL (y1, M)).bind fun z4 => sumC z4 (fun z5 => some ((0, z5))) (fun z => some z)
set_option maxHeartbeats 4000000 in
set_option maxRecDepth 100000 in
theorem c_X7_chooseOne (l : Launch) (D : va_G) (cA : cAt) (B : Nat) (aK aV : Nat → Nat) (M : Mem) (x1 : Int32) (x2 : Int32) (x3 : Int32) (x4 : Int32) (R : Int32 × Mem) (h : m_X7_chooseOne M x1 x2 x3 x4 = some R) : CI l D cA B aK aV yX7_chooseOne cX7_chooseOne 6 .boolean 1 [.ref (B + 0), .int x1, .int x2, .int x3, .int x4] M R.1 R.2 := by
  refine CI_of (by decide +kernel) (Nat.le_of_ble_eq_true rfl) ?_
  intro p e s m args below meth c C hr hlk
  have C : Cx p (rmd 1) s m args c 0 0 D cA B aK aV cX7_chooseOne 6 RX7 := C
  generalize hQ : MQ below _ args s 0 0 _ = Q
  refine v_eq (M' := M) (pc' := 0) (L' := [(0, .ref (B + 0)), (1, .int x1), (2, .int x2), (3, .int x3), (4, .int x4)]) (st' := []) ?_
  unfold m_X7_chooseOne at h
  refine v_iload_n (j := 2) C dX7_chooseOne_0 rfl rfl ?_
  refine v_iconst C dX7_chooseOne_1 ct_i_0 ?_
  refine v_mmax C tw_759 tw_566 tw_118 tw_567 (Nat.le_of_ble_eq_true rfl) (Nat.le_of_ble_eq_true rfl) dX7_chooseOne_2 ?_
  replace h := nm_ex h; obtain ⟨y1, ey1, h⟩ := h
  refine v_topI ey1 ?_
  refine v_istore (L' := [(5, .int y1), (0, .ref (B + 0)), (1, .int x1), (2, .int x2), (3, .int x3), (4, .int x4)]) C dX7_chooseOne_5 (by decide) rfl ?_
  have LB7 : ∀ (M : Mem) (x5 : Int32) (o7 : (Int32 × Mem) ⊕ (Mem ⊕ (Int32 × Mem))) (h : b_X7_chooseOne_7 M x1 x3 x4 x5 = some o7) (hc7 : ∀ z : Int32 × Mem, o7 = .inl z → V p l e (rmd 1) s m args below meth c 0 0 D cA B 6 Q z.2 7 [(0, .ref (B + 0)), (1, .int x1), (3, .int x3), (4, .int x4), (5, .int z.1)] []) (he7 : ∀ z : Mem, o7 = .inr (.inl z) → V p l e (rmd 1) s m args below meth c 0 0 D cA B 6 Q z 46 [] []) (hr7 : ∀ z : Int32 × Mem, o7 = .inr (.inr z) → z = R), V p l e (rmd 1) s m args below meth c 0 0 D cA B 6 Q M 7 [(0, .ref (B + 0)), (1, .int x1), (3, .int x3), (4, .int x4), (5, .int x5)] [] := by
    intro M x5 o7 h hc7 he7 hr7
    unfold b_X7_chooseOne_7 at h
    refine v_iload (j := 4) C dX7_chooseOne_7 rfl ?_
    refine v_aload_nR (j := 0) C dX7_chooseOne_9 rfl rfl ?_
    refine gf_X7_60 C ks_0 dX7_chooseOne_10 ?_
    refine v_alen9 (v := 30) C ks_200 rfl dX7_chooseOne_13 ?_
    refine v_icmp_ge (tgt := 46) C dX7_chooseOne_14 (by decide) (fun g => ?_) (fun g => ?_)
    · replace h := ite_t g h
      replace h := Option.some.inj h; subst h
      refine v_sub [] rfl ?_
      exact he7 M rfl
    · replace h := ite_f g h
      refine v_iload_n (j := 2) C dX7_chooseOne_17 rfl rfl ?_
      refine v_pc (pc' := 18) rfl ?_
      refine v_aload_nR (j := 0) C dX7_chooseOne_18 rfl rfl ?_
      refine gf_X7_60 C ks_0 dX7_chooseOne_19 ?_
      refine v_iload (j := 4) C dX7_chooseOne_22 rfl ?_
      replace h := chk_some h; obtain ⟨g2, h⟩ := h
      refine v_iald C ks_200 (inB_vp g2) dX7_chooseOne_24 ?_
      refine v_ior C dX7_chooseOne_25 ?_
      refine v_iload (j := 3) C dX7_chooseOne_26 rfl ?_
      refine v_icmp_ne (tgt := 40) C dX7_chooseOne_28 (by decide) (fun g => ?_) (fun g => ?_)
      · replace h := ite_t g h
        refine v_pc (pc' := 31) rfl ?_
        refine v_aload_nR (j := 0) C dX7_chooseOne_31 rfl rfl ?_
        refine v_iload_n (j := 1) C dX7_chooseOne_32 rfl rfl ?_
        refine v_iload (j := 4) C dX7_chooseOne_33 rfl ?_
        replace h := bind_ex h; obtain ⟨r3, hr3, h⟩ := h
        refine cv_V C tw_763 tw_103 tw_760 tw_762 tw_52 pd_X7_choose (Nat.le_of_ble_eq_true rfl) (Nat.le_of_ble_eq_true rfl) (q := 0) (kd_lt ks_0 (by decide)) (sh7 ks_0) rfl (As := [.int x1, .int x5]) (rest := []) rfl rfl (Nat.le_of_ble_eq_true rfl) (c_X7_choose l D cA B aK aV M x1 x5 r3 hr3) dX7_chooseOne_35 ?_
        refine v_iconst C dX7_chooseOne_38 ct_i_1 ?_
        replace h := Option.some.inj h; subst h
        have hR := hr7 _ rfl
        subst hR
        subst hQ
        exact v_zret C hr hlk (show narrow .boolean (.int 1) = .int 1 from rfl) dX7_chooseOne_39
      · replace h := ite_f g h
        refine v_iinc (j := 4) (L' := [(5, .int (x5 + 1)), (0, .ref (B + 0)), (1, .int x1), (3, .int x3), (4, .int x4)]) C dX7_chooseOne_40 rfl (congrArg (fun z => _ + z) ct_i_1) (by decide) rfl ?_
        refine v_goto (tgt := 7) C dX7_chooseOne_43 (by decide) ?_
        replace h := Option.some.inj h; subst h
        refine v_sub [1, 2, 3, 4, 0] rfl ?_
        exact hc7 (x5 + 1, M) rfl
  replace h := bind_ex h; obtain ⟨z4, hz4, h⟩ := h
  refine v_sub [1, 2, 4, 5, 0] rfl ?_
  refine loopF_walk (Pσ := fun z => V p l e (rmd 1) s m args below meth c 0 0 D cA B 6 Q z.2 7 [(0, .ref (B + 0)), (1, .int x1), (3, .int x3), (4, .int x4), (5, .int z.1)] []) (Pρ := fun r => (∀ y : Mem, r = .inl y → V p l e (rmd 1) s m args below meth c 0 0 D cA B 6 Q y 46 [] []) ∧ (∀ y : Int32 × Mem, r = .inr y → y = R)) ?_ FUEL (y1, M) z4 hz4 ?_
  · intro z o hb hc he
    exact LB7 z.2 z.1 o hb hc (fun y e => (he _ e).1 y rfl) (fun y e => (he _ e).2 y rfl)
  · refine ⟨fun z5 e => ?_, fun y e => ?_⟩
    · subst e
      replace h := sumC_l h
      refine v_iconst C dX7_chooseOne_46 ct_i_0 ?_
      replace h := Option.some.inj h; subst h
      subst hQ
      exact v_zret C hr hlk (show narrow .boolean (.int 0) = .int 0 from rfl) dX7_chooseOne_47
    · subst e
      replace h := sumC_r h
      exact Option.some.inj h
def b_X7_chooseTwo_7 (M : Mem) (x1 : Int32) (x3 : Int32) (x4 : Int32) (x5 : Int32) : Option ((Int32 × Mem) ⊕ (Mem ⊕ (Int32 × Mem))) :=
  if 30 ≤ x5 then (some (.inr (.inl M))) else (chk (inB x5 30) ((m_X7_chooseOne M (x1 + 1) (x5 + 1) (x3 ||| (M 200 x5.toNatClampNeg)) x4).bind fun r3 => if r3.1 = 0 then (some (.inl (x5 + 1, r3.2))) else ((m_X7_choose r3.2 x1 x5).bind fun r4 => some (.inr (.inr ((1, r4)))))))
def m_X7_chooseTwo (M : Mem) (x1 : Int32) (x2 : Int32) (x3 : Int32) (x4 : Int32) : Option (Int32 × Mem) :=
  nm (if x2 < 0 then 0 else x2) fun y1 => (loopF (fun z => b_X7_chooseTwo_7 z.2 x1 x3 x4 z.1) FUEL (y1, M)).bind fun z5 => sumC z5 (fun z6 => some ((0, z6))) (fun z => some z)
set_option maxHeartbeats 4000000 in
set_option maxRecDepth 100000 in
theorem c_X7_chooseTwo (l : Launch) (D : va_G) (cA : cAt) (B : Nat) (aK aV : Nat → Nat) (M : Mem) (x1 : Int32) (x2 : Int32) (x3 : Int32) (x4 : Int32) (R : Int32 × Mem) (h : m_X7_chooseTwo M x1 x2 x3 x4 = some R) : CI l D cA B aK aV yX7_chooseTwo cX7_chooseTwo 6 .boolean 2 [.ref (B + 0), .int x1, .int x2, .int x3, .int x4] M R.1 R.2 := by
  refine CI_of (by decide +kernel) (Nat.le_of_ble_eq_true rfl) ?_
  intro p e s m args below meth c C hr hlk
  have C : Cx p (rmd 2) s m args c 0 0 D cA B aK aV cX7_chooseTwo 6 RX7 := C
  generalize hQ : MQ below _ args s 0 0 _ = Q
  refine v_eq (M' := M) (pc' := 0) (L' := [(0, .ref (B + 0)), (1, .int x1), (2, .int x2), (3, .int x3), (4, .int x4)]) (st' := []) ?_
  unfold m_X7_chooseTwo at h
  refine v_iload_n (j := 2) C dX7_chooseTwo_0 rfl rfl ?_
  refine v_iconst C dX7_chooseTwo_1 ct_i_0 ?_
  refine v_mmax C tw_759 tw_566 tw_118 tw_567 (Nat.le_of_ble_eq_true rfl) (Nat.le_of_ble_eq_true rfl) dX7_chooseTwo_2 ?_
  replace h := nm_ex h; obtain ⟨y1, ey1, h⟩ := h
  refine v_topI ey1 ?_
  refine v_istore (L' := [(5, .int y1), (0, .ref (B + 0)), (1, .int x1), (2, .int x2), (3, .int x3), (4, .int x4)]) C dX7_chooseTwo_5 (by decide) rfl ?_
  have LB7 : ∀ (M : Mem) (x5 : Int32) (o7 : (Int32 × Mem) ⊕ (Mem ⊕ (Int32 × Mem))) (h : b_X7_chooseTwo_7 M x1 x3 x4 x5 = some o7) (hc7 : ∀ z : Int32 × Mem, o7 = .inl z → V p l e (rmd 2) s m args below meth c 0 0 D cA B 6 Q z.2 7 [(0, .ref (B + 0)), (1, .int x1), (3, .int x3), (4, .int x4), (5, .int z.1)] []) (he7 : ∀ z : Mem, o7 = .inr (.inl z) → V p l e (rmd 2) s m args below meth c 0 0 D cA B 6 Q z 57 [] []) (hr7 : ∀ z : Int32 × Mem, o7 = .inr (.inr z) → z = R), V p l e (rmd 2) s m args below meth c 0 0 D cA B 6 Q M 7 [(0, .ref (B + 0)), (1, .int x1), (3, .int x3), (4, .int x4), (5, .int x5)] [] := by
    intro M x5 o7 h hc7 he7 hr7
    unfold b_X7_chooseTwo_7 at h
    refine v_iload (j := 4) C dX7_chooseTwo_7 rfl ?_
    refine v_aload_nR (j := 0) C dX7_chooseTwo_9 rfl rfl ?_
    refine gf_X7_60 C ks_0 dX7_chooseTwo_10 ?_
    refine v_alen9 (v := 30) C ks_200 rfl dX7_chooseTwo_13 ?_
    refine v_icmp_ge (tgt := 57) C dX7_chooseTwo_14 (by decide) (fun g => ?_) (fun g => ?_)
    · replace h := ite_t g h
      replace h := Option.some.inj h; subst h
      refine v_sub [] rfl ?_
      exact he7 M rfl
    · replace h := ite_f g h
      refine v_aload_nR (j := 0) C dX7_chooseTwo_17 rfl rfl ?_
      refine v_pc (pc' := 18) rfl ?_
      refine v_iload_n (j := 1) C dX7_chooseTwo_18 rfl rfl ?_
      refine v_iconst C dX7_chooseTwo_19 ct_i_1 ?_
      refine v_iadd C dX7_chooseTwo_20 ?_
      refine v_iload (j := 4) C dX7_chooseTwo_21 rfl ?_
      refine v_iconst C dX7_chooseTwo_23 ct_i_1 ?_
      refine v_iadd C dX7_chooseTwo_24 ?_
      refine v_iload_n (j := 2) C dX7_chooseTwo_25 rfl rfl ?_
      refine v_pc (pc' := 26) rfl ?_
      refine v_aload_nR (j := 0) C dX7_chooseTwo_26 rfl rfl ?_
      refine gf_X7_60 C ks_0 dX7_chooseTwo_27 ?_
      refine v_iload (j := 4) C dX7_chooseTwo_30 rfl ?_
      replace h := chk_some h; obtain ⟨g2, h⟩ := h
      refine v_iald C ks_200 (inB_vp g2) dX7_chooseTwo_32 ?_
      refine v_ior C dX7_chooseTwo_33 ?_
      refine v_iload (j := 3) C dX7_chooseTwo_34 rfl ?_
      replace h := bind_ex h; obtain ⟨r3, hr3, h⟩ := h
      refine cv_I C tw_758 tw_103 tw_755 tw_757 tw_51 pd_X7_chooseOne (Nat.le_of_ble_eq_true rfl) (Nat.le_of_ble_eq_true rfl) (q := 0) (kd_lt ks_0 (by decide)) (sh7 ks_0) rfl (As := [.int (x1 + 1), .int (x5 + 1), .int (x3 ||| (M 200 x5.toNatClampNeg)), .int x4]) (rest := []) rfl rfl (Nat.le_of_ble_eq_true rfl) (c_X7_chooseOne l D cA B aK aV M (x1 + 1) (x5 + 1) (x3 ||| (M 200 x5.toNatClampNeg)) x4 r3 hr3) dX7_chooseTwo_36 ?_
      refine v_pc (pc' := 39) rfl ?_
      refine v_if_eq (tgt := 51) C dX7_chooseTwo_39 (by decide) (fun g => ?_) (fun g => ?_)
      · replace h := ite_t g h
        refine v_iinc (j := 4) (L' := [(5, .int (x5 + 1)), (0, .ref (B + 0)), (1, .int x1), (3, .int x3), (4, .int x4)]) C dX7_chooseTwo_51 rfl (congrArg (fun z => _ + z) ct_i_1) (by decide) rfl ?_
        refine v_goto (tgt := 7) C dX7_chooseTwo_54 (by decide) ?_
        replace h := Option.some.inj h; subst h
        refine v_sub [1, 2, 3, 4, 0] rfl ?_
        exact hc7 (x5 + 1, r3.2) rfl
      · replace h := ite_f g h
        refine v_aload_nR (j := 0) C dX7_chooseTwo_42 rfl rfl ?_
        refine v_iload_n (j := 1) C dX7_chooseTwo_43 rfl rfl ?_
        refine v_iload (j := 4) C dX7_chooseTwo_44 rfl ?_
        replace h := bind_ex h; obtain ⟨r4, hr4, h⟩ := h
        refine cv_V C tw_763 tw_103 tw_760 tw_762 tw_52 pd_X7_choose (Nat.le_of_ble_eq_true rfl) (Nat.le_of_ble_eq_true rfl) (q := 0) (kd_lt ks_0 (by decide)) (sh7 ks_0) rfl (As := [.int x1, .int x5]) (rest := []) rfl rfl (Nat.le_of_ble_eq_true rfl) (c_X7_choose l D cA B aK aV r3.2 x1 x5 r4 hr4) dX7_chooseTwo_46 ?_
        refine v_iconst C dX7_chooseTwo_49 ct_i_1 ?_
        replace h := Option.some.inj h; subst h
        have hR := hr7 _ rfl
        subst hR
        subst hQ
        exact v_zret C hr hlk (show narrow .boolean (.int 1) = .int 1 from rfl) dX7_chooseTwo_50
  replace h := bind_ex h; obtain ⟨z5, hz5, h⟩ := h
  refine v_sub [1, 2, 4, 5, 0] rfl ?_
  refine loopF_walk (Pσ := fun z => V p l e (rmd 2) s m args below meth c 0 0 D cA B 6 Q z.2 7 [(0, .ref (B + 0)), (1, .int x1), (3, .int x3), (4, .int x4), (5, .int z.1)] []) (Pρ := fun r => (∀ y : Mem, r = .inl y → V p l e (rmd 2) s m args below meth c 0 0 D cA B 6 Q y 57 [] []) ∧ (∀ y : Int32 × Mem, r = .inr y → y = R)) ?_ FUEL (y1, M) z5 hz5 ?_
  · intro z o hb hc he
    exact LB7 z.2 z.1 o hb hc (fun y e => (he _ e).1 y rfl) (fun y e => (he _ e).2 y rfl)
  · refine ⟨fun z6 e => ?_, fun y e => ?_⟩
    · subst e
      replace h := sumC_l h
      refine v_iconst C dX7_chooseTwo_57 ct_i_0 ?_
      replace h := Option.some.inj h; subst h
      subst hQ
      exact v_zret C hr hlk (show narrow .boolean (.int 0) = .int 0 from rfl) dX7_chooseTwo_58
    · subst e
      replace h := sumC_r h
      exact Option.some.inj h
def b_X7_chooseThree_2 (M : Mem) (x1 : Int32) (x2 : Int32) : Option ((Int32 × Mem) ⊕ (Mem ⊕ (Int32 × Mem))) :=
  if 30 ≤ x2 then (some (.inr (.inl M))) else (chk (inB x2 30) ((m_X7_chooseTwo M 1 (x2 + 1) (M 200 x2.toNatClampNeg) x1).bind fun r2 => if r2.1 = 0 then (some (.inl (x2 + 1, r2.2))) else ((m_X7_choose r2.2 0 x2).bind fun r3 => some (.inr (.inr ((1, r3)))))))
def m_X7_chooseThree (M : Mem) (x1 : Int32) : Option (Int32 × Mem) :=
  (loopF (fun z => b_X7_chooseThree_2 z.2 x1 z.1) FUEL (0, M)).bind fun z4 => sumC z4 (fun z5 => some ((0, z5))) (fun z => some z)
set_option maxHeartbeats 4000000 in
set_option maxRecDepth 100000 in
theorem c_X7_chooseThree (l : Launch) (D : va_G) (cA : cAt) (B : Nat) (aK aV : Nat → Nat) (M : Mem) (x1 : Int32) (R : Int32 × Mem) (h : m_X7_chooseThree M x1 = some R) : CI l D cA B aK aV yX7_chooseThree cX7_chooseThree 3 .boolean 3 [.ref (B + 0), .int x1] M R.1 R.2 := by
  refine CI_of (by decide +kernel) (Nat.le_of_ble_eq_true rfl) ?_
  intro p e s m args below meth c C hr hlk
  have C : Cx p (rmd 3) s m args c 0 0 D cA B aK aV cX7_chooseThree 3 RX7 := C
  generalize hQ : MQ below _ args s 0 0 _ = Q
  refine v_eq (M' := M) (pc' := 0) (L' := [(0, .ref (B + 0)), (1, .int x1)]) (st' := []) ?_
  unfold m_X7_chooseThree at h
  refine v_iconst C dX7_chooseThree_0 ct_i_0 ?_
  refine v_istore_n (L' := [(2, .int 0), (0, .ref (B + 0)), (1, .int x1)]) C dX7_chooseThree_1 rfl (by decide) rfl ?_
  have LB2 : ∀ (M : Mem) (x2 : Int32) (o2 : (Int32 × Mem) ⊕ (Mem ⊕ (Int32 × Mem))) (h : b_X7_chooseThree_2 M x1 x2 = some o2) (hc2 : ∀ z : Int32 × Mem, o2 = .inl z → V p l e (rmd 3) s m args below meth c 0 0 D cA B 3 Q z.2 2 [(0, .ref (B + 0)), (1, .int x1), (2, .int z.1)] []) (he2 : ∀ z : Mem, o2 = .inr (.inl z) → V p l e (rmd 3) s m args below meth c 0 0 D cA B 3 Q z 43 [] []) (hr2 : ∀ z : Int32 × Mem, o2 = .inr (.inr z) → z = R), V p l e (rmd 3) s m args below meth c 0 0 D cA B 3 Q M 2 [(0, .ref (B + 0)), (1, .int x1), (2, .int x2)] [] := by
    intro M x2 o2 h hc2 he2 hr2
    unfold b_X7_chooseThree_2 at h
    refine v_iload_n (j := 2) C dX7_chooseThree_2 rfl rfl ?_
    refine v_aload_nR (j := 0) C dX7_chooseThree_3 rfl rfl ?_
    refine gf_X7_60 C ks_0 dX7_chooseThree_4 ?_
    refine v_alen9 (v := 30) C ks_200 rfl dX7_chooseThree_7 ?_
    refine v_icmp_ge (tgt := 43) C dX7_chooseThree_8 (by decide) (fun g => ?_) (fun g => ?_)
    · replace h := ite_t g h
      replace h := Option.some.inj h; subst h
      refine v_sub [] rfl ?_
      exact he2 M rfl
    · replace h := ite_f g h
      refine v_aload_nR (j := 0) C dX7_chooseThree_11 rfl rfl ?_
      refine v_pc (pc' := 12) rfl ?_
      refine v_iconst C dX7_chooseThree_12 ct_i_1 ?_
      refine v_iload_n (j := 2) C dX7_chooseThree_13 rfl rfl ?_
      refine v_iconst C dX7_chooseThree_14 ct_i_1 ?_
      refine v_iadd C dX7_chooseThree_15 ?_
      refine v_aload_nR (j := 0) C dX7_chooseThree_16 rfl rfl ?_
      refine gf_X7_60 C ks_0 dX7_chooseThree_17 ?_
      refine v_iload_n (j := 2) C dX7_chooseThree_20 rfl rfl ?_
      refine v_pc (pc' := 21) rfl ?_
      replace h := chk_some h; obtain ⟨g1, h⟩ := h
      refine v_iald C ks_200 (inB_vp g1) dX7_chooseThree_21 ?_
      refine v_iload_n (j := 1) C dX7_chooseThree_22 rfl rfl ?_
      replace h := bind_ex h; obtain ⟨r2, hr2, h⟩ := h
      refine cv_I C tw_767 tw_103 tw_764 tw_766 tw_53 pd_X7_chooseTwo (Nat.le_of_ble_eq_true rfl) (Nat.le_of_ble_eq_true rfl) (q := 0) (kd_lt ks_0 (by decide)) (sh7 ks_0) rfl (As := [.int 1, .int (x2 + 1), .int (M 200 x2.toNatClampNeg), .int x1]) (rest := []) rfl rfl (Nat.le_of_ble_eq_true rfl) (c_X7_chooseTwo l D cA B aK aV M 1 (x2 + 1) (M 200 x2.toNatClampNeg) x1 r2 hr2) dX7_chooseThree_23 ?_
      refine v_if_eq (tgt := 37) C dX7_chooseThree_26 (by decide) (fun g => ?_) (fun g => ?_)
      · replace h := ite_t g h
        refine v_iinc (j := 2) (L' := [(2, .int (x2 + 1)), (0, .ref (B + 0)), (1, .int x1)]) C dX7_chooseThree_37 rfl (congrArg (fun z => _ + z) ct_i_1) (by decide) rfl ?_
        refine v_goto (tgt := 2) C dX7_chooseThree_40 (by decide) ?_
        replace h := Option.some.inj h; subst h
        refine v_sub [1, 2, 0] rfl ?_
        exact hc2 (x2 + 1, r2.2) rfl
      · replace h := ite_f g h
        refine v_aload_nR (j := 0) C dX7_chooseThree_29 rfl rfl ?_
        refine v_iconst C dX7_chooseThree_30 ct_i_0 ?_
        refine v_iload_n (j := 2) C dX7_chooseThree_31 rfl rfl ?_
        refine v_pc (pc' := 32) rfl ?_
        replace h := bind_ex h; obtain ⟨r3, hr3, h⟩ := h
        refine cv_V C tw_763 tw_103 tw_760 tw_762 tw_52 pd_X7_choose (Nat.le_of_ble_eq_true rfl) (Nat.le_of_ble_eq_true rfl) (q := 0) (kd_lt ks_0 (by decide)) (sh7 ks_0) rfl (As := [.int 0, .int x2]) (rest := []) rfl rfl (Nat.le_of_ble_eq_true rfl) (c_X7_choose l D cA B aK aV r2.2 0 x2 r3 hr3) dX7_chooseThree_32 ?_
        refine v_iconst C dX7_chooseThree_35 ct_i_1 ?_
        replace h := Option.some.inj h; subst h
        have hR := hr2 _ rfl
        subst hR
        subst hQ
        exact v_zret C hr hlk (show narrow .boolean (.int 1) = .int 1 from rfl) dX7_chooseThree_36
  replace h := bind_ex h; obtain ⟨z4, hz4, h⟩ := h
  refine v_sub [1, 2, 0] rfl ?_
  refine loopF_walk (Pσ := fun z => V p l e (rmd 3) s m args below meth c 0 0 D cA B 3 Q z.2 2 [(0, .ref (B + 0)), (1, .int x1), (2, .int z.1)] []) (Pρ := fun r => (∀ y : Mem, r = .inl y → V p l e (rmd 3) s m args below meth c 0 0 D cA B 3 Q y 43 [] []) ∧ (∀ y : Int32 × Mem, r = .inr y → y = R)) ?_ FUEL (0, M) z4 hz4 ?_
  · intro z o hb hc he
    exact LB2 z.2 z.1 o hb hc (fun y e => (he _ e).1 y rfl) (fun y e => (he _ e).2 y rfl)
  · refine ⟨fun z5 e => ?_, fun y e => ?_⟩
    · subst e
      replace h := sumC_l h
      refine v_iconst C dX7_chooseThree_43 ct_i_0 ?_
      replace h := Option.some.inj h; subst h
      subst hQ
      exact v_zret C hr hlk (show narrow .boolean (.int 0) = .int 0 from rfl) dX7_chooseThree_44
    · subst e
      replace h := sumC_r h
      exact Option.some.inj h
def m_X7_fewestThrows (M : Mem) (x1 : Int32) : Option (Int32 × Mem) :=
  if x1 = 0 then (some ((0, M))) else ((m_X7_chooseOne M 0 0 0 x1).bind fun r1 => if r1.1 = 0 then ((m_X7_chooseTwo r1.2 0 0 0 x1).bind fun r2 => if r2.1 = 0 then ((m_X7_chooseThree r2.2 x1).bind fun r3 => if r3.1 = 0 then (some (((-1000000), r3.2))) else (some ((3, r3.2)))) else (some ((2, r2.2)))) else (some ((1, r1.2))))
set_option maxHeartbeats 4000000 in
set_option maxRecDepth 100000 in
theorem c_X7_fewestThrows (l : Launch) (D : va_G) (cA : cAt) (B : Nat) (aK aV : Nat → Nat) (M : Mem) (x1 : Int32) (R : Int32 × Mem) (h : m_X7_fewestThrows M x1 = some R) : CI l D cA B aK aV yX7_fewestThrows cX7_fewestThrows 2 .int 4 [.ref (B + 0), .int x1] M R.1 R.2 := by
  refine CI_of (by decide +kernel) (Nat.le_of_ble_eq_true rfl) ?_
  intro p e s m args below meth c C hr hlk
  have C : Cx p (rmd 4) s m args c 0 0 D cA B aK aV cX7_fewestThrows 2 RX7 := C
  generalize hQ : MQ below _ args s 0 0 _ = Q
  refine v_eq (M' := M) (pc' := 0) (L' := [(0, .ref (B + 0)), (1, .int x1)]) (st' := []) ?_
  unfold m_X7_fewestThrows at h
  refine v_iload_n (j := 1) C dX7_fewestThrows_0 rfl rfl ?_
  refine v_if_ne (tgt := 6) C dX7_fewestThrows_1 (by decide) (fun g => ?_) (fun g => ?_)
  · replace h := ite_t g h
    refine v_iconst C dX7_fewestThrows_4 ct_i_0 ?_
    replace h := Option.some.inj h; subst h
    subst hQ
    exact v_iret C hr hlk dX7_fewestThrows_5
  · replace h := ite_f g h
    refine v_aload_nR (j := 0) C dX7_fewestThrows_6 rfl rfl ?_
    refine v_iconst C dX7_fewestThrows_7 ct_i_0 ?_
    refine v_iconst C dX7_fewestThrows_8 ct_i_0 ?_
    refine v_iconst C dX7_fewestThrows_9 ct_i_0 ?_
    refine v_iload_n (j := 1) C dX7_fewestThrows_10 rfl rfl ?_
    replace h := bind_ex h; obtain ⟨r1, hr1, h⟩ := h
    refine cv_I C tw_758 tw_103 tw_755 tw_757 tw_51 pd_X7_chooseOne (Nat.le_of_ble_eq_true rfl) (Nat.le_of_ble_eq_true rfl) (q := 0) (kd_lt ks_0 (by decide)) (sh7 ks_0) rfl (As := [.int 0, .int 0, .int 0, .int x1]) (rest := []) rfl rfl (Nat.le_of_ble_eq_true rfl) (c_X7_chooseOne l D cA B aK aV M 0 0 0 x1 r1 hr1) dX7_fewestThrows_11 ?_
    refine v_pc (pc' := 14) rfl ?_
    refine v_if_eq (tgt := 19) C dX7_fewestThrows_14 (by decide) (fun g => ?_) (fun g => ?_)
    · replace h := ite_t g h
      refine v_aload_nR (j := 0) C dX7_fewestThrows_19 rfl rfl ?_
      refine v_iconst C dX7_fewestThrows_20 ct_i_0 ?_
      refine v_iconst C dX7_fewestThrows_21 ct_i_0 ?_
      refine v_iconst C dX7_fewestThrows_22 ct_i_0 ?_
      refine v_iload_n (j := 1) C dX7_fewestThrows_23 rfl rfl ?_
      replace h := bind_ex h; obtain ⟨r2, hr2, h⟩ := h
      refine cv_I C tw_767 tw_103 tw_764 tw_766 tw_53 pd_X7_chooseTwo (Nat.le_of_ble_eq_true rfl) (Nat.le_of_ble_eq_true rfl) (q := 0) (kd_lt ks_0 (by decide)) (sh7 ks_0) rfl (As := [.int 0, .int 0, .int 0, .int x1]) (rest := []) rfl rfl (Nat.le_of_ble_eq_true rfl) (c_X7_chooseTwo l D cA B aK aV r1.2 0 0 0 x1 r2 hr2) dX7_fewestThrows_24 ?_
      refine v_pc (pc' := 27) rfl ?_
      refine v_if_eq (tgt := 32) C dX7_fewestThrows_27 (by decide) (fun g => ?_) (fun g => ?_)
      · replace h := ite_t g h
        refine v_aload_nR (j := 0) C dX7_fewestThrows_32 rfl rfl ?_
        refine v_iload_n (j := 1) C dX7_fewestThrows_33 rfl rfl ?_
        replace h := bind_ex h; obtain ⟨r3, hr3, h⟩ := h
        refine cv_I C tw_771 tw_103 tw_768 tw_770 tw_54 pd_X7_chooseThree (Nat.le_of_ble_eq_true rfl) (Nat.le_of_ble_eq_true rfl) (q := 0) (kd_lt ks_0 (by decide)) (sh7 ks_0) rfl (As := [.int x1]) (rest := []) rfl rfl (Nat.le_of_ble_eq_true rfl) (c_X7_chooseThree l D cA B aK aV r2.2 x1 r3 hr3) dX7_fewestThrows_34 ?_
        refine v_if_eq (tgt := 44) C dX7_fewestThrows_37 (by decide) (fun g => ?_) (fun g => ?_)
        · replace h := ite_t g h
          refine v_ldc C tw_665 dX7_fewestThrows_44 ?_
          replace h := Option.some.inj h; subst h
          subst hQ
          exact v_iret C hr hlk dX7_fewestThrows_46
        · replace h := ite_f g h
          refine v_iconst C dX7_fewestThrows_40 ct_i_3 ?_
          refine v_goto (tgt := 46) C dX7_fewestThrows_41 (by decide) ?_
          replace h := Option.some.inj h; subst h
          subst hQ
          exact v_iret C hr hlk dX7_fewestThrows_46
      · replace h := ite_f g h
        refine v_iconst C dX7_fewestThrows_30 ct_i_2 ?_
        replace h := Option.some.inj h; subst h
        subst hQ
        exact v_iret C hr hlk dX7_fewestThrows_31
    · replace h := ite_f g h
      refine v_iconst C dX7_fewestThrows_17 ct_i_1 ?_
      replace h := Option.some.inj h; subst h
      subst hQ
      exact v_iret C hr hlk dX7_fewestThrows_18
def m_X7_throwsFor (M : Mem) (x1 : Int32) (x2 : Int32) : Option (Int32 × Mem) :=
  if (M 4 1) = 0 then (some (((-1000002), M))) else ((m_X7_isSpread M x1).bind fun r1 => if r1 = 0 then (some (((-1000001), M))) else (if (-1) ≤ x2 then ((m_X7_tellPleased M x1).bind fun r2 => (m_X7_fewestThrows r2 ((1 <<< ((r2 4 4) &&& 31)) - 1)).bind fun r3 => nm r3.1 fun y4 => if y4 = (-1000000) then (some ((y4, r3.2))) else (if x2 = (-1) then (some ((y4, r3.2))) else (if x2 < 0 then (some (((-1000000), r3.2))) else (if y4 ≤ x2 then (some (((-1000000), r3.2))) else (if 3 ≤ x2 then (some (((-1000000), r3.2))) else (chk (inB x2 3) (some ((r3.2 201 x2.toNatClampNeg, r3.2))))))))) else (some (((-1000001), M)))))
set_option maxHeartbeats 4000000 in
set_option maxRecDepth 100000 in
theorem c_X7_throwsFor (l : Launch) (D : va_G) (cA : cAt) (B : Nat) (aK aV : Nat → Nat) (M : Mem) (x1 : Int32) (x2 : Int32) (R : Int32 × Mem) (h : m_X7_throwsFor M x1 x2 = some R) : CI l D cA B aK aV yX7_throwsFor cX7_throwsFor 4 .int 5 [.ref (B + 0), .int x1, .int x2] M R.1 R.2 := by
  refine CI_of (by decide +kernel) (Nat.le_of_ble_eq_true rfl) ?_
  intro p e s m args below meth c C hr hlk
  have C : Cx p (rmd 5) s m args c 0 0 D cA B aK aV cX7_throwsFor 4 RX7 := C
  generalize hQ : MQ below _ args s 0 0 _ = Q
  refine v_eq (M' := M) (pc' := 0) (L' := [(0, .ref (B + 0)), (1, .int x1), (2, .int x2)]) (st' := []) ?_
  unfold m_X7_throwsFor at h
  refine v_aload_nR (j := 0) C dX7_throwsFor_0 rfl rfl ?_
  refine gf_X7_25 C ks_0 dX7_throwsFor_1 ?_
  refine gf_X7_147 C ks_4 dX7_throwsFor_4 ?_
  refine v_if_ne (tgt := 13) C dX7_throwsFor_7 (by decide) (fun g => ?_) (fun g => ?_)
  · replace h := ite_t g h
    refine v_ldc C tw_553 dX7_throwsFor_10 ?_
    replace h := Option.some.inj h; subst h
    subst hQ
    exact v_iret C hr hlk dX7_throwsFor_12
  · replace h := ite_f g h
    refine v_iload_n (j := 1) C dX7_throwsFor_13 rfl rfl ?_
    replace h := bind_ex h; obtain ⟨r1, hr1, h⟩ := h
    refine cs_I C tw_559 tw_103 tw_557 tw_558 pd_X7_isSpread (Nat.le_of_ble_eq_true rfl) (Nat.le_of_ble_eq_true rfl) (As := [.int x1]) (rest := []) rfl rfl (Nat.le_of_ble_eq_true rfl) (c_X7_isSpread l D cA B aK aV M x1 r1 hr1) dX7_throwsFor_14 ?_
    refine v_if_eq (tgt := 25) C dX7_throwsFor_17 (by decide) (fun g => ?_) (fun g => ?_)
    · replace h := ite_t g h
      refine v_ldc C tw_343 dX7_throwsFor_25 ?_
      replace h := Option.some.inj h; subst h
      subst hQ
      exact v_iret C hr hlk dX7_throwsFor_27
    · replace h := ite_f g h
      refine v_iload_n (j := 2) C dX7_throwsFor_20 rfl rfl ?_
      refine v_iconst C dX7_throwsFor_21 ct_i_m1 ?_
      refine v_icmp_ge (tgt := 28) C dX7_throwsFor_22 (by decide) (fun g => ?_) (fun g => ?_)
      · replace h := ite_t g h
        refine v_aload_nR (j := 0) C dX7_throwsFor_28 rfl rfl ?_
        refine v_iload_n (j := 1) C dX7_throwsFor_29 rfl rfl ?_
        replace h := bind_ex h; obtain ⟨r2, hr2, h⟩ := h
        refine cv_V C tw_742 tw_103 tw_739 tw_741 tw_48 pd_X7_tellPleased (Nat.le_of_ble_eq_true rfl) (Nat.le_of_ble_eq_true rfl) (q := 0) (kd_lt ks_0 (by decide)) (sh7 ks_0) rfl (As := [.int x1]) (rest := []) rfl rfl (Nat.le_of_ble_eq_true rfl) (c_X7_tellPleased l D cA B aK aV M x1 r2 hr2) dX7_throwsFor_30 ?_
        refine v_aload_nR (j := 0) C dX7_throwsFor_33 rfl rfl ?_
        refine v_iconst C dX7_throwsFor_34 ct_i_1 ?_
        refine v_aload_nR (j := 0) C dX7_throwsFor_35 rfl rfl ?_
        refine v_pc (pc' := 36) rfl ?_
        refine gf_X7_25 C ks_0 dX7_throwsFor_36 ?_
        refine gf_X7_158 C ks_4 dX7_throwsFor_39 ?_
        refine v_ishl C dX7_throwsFor_42 ?_
        refine v_iconst C dX7_throwsFor_43 ct_i_1 ?_
        refine v_isub C dX7_throwsFor_44 ?_
        replace h := bind_ex h; obtain ⟨r3, hr3, h⟩ := h
        refine cv_I C tw_754 tw_103 tw_751 tw_753 tw_50 pd_X7_fewestThrows (Nat.le_of_ble_eq_true rfl) (Nat.le_of_ble_eq_true rfl) (q := 0) (kd_lt ks_0 (by decide)) (sh7 ks_0) rfl (As := [.int ((1 <<< ((r2 4 4) &&& 31)) - 1)]) (rest := []) rfl rfl (Nat.le_of_ble_eq_true rfl) (c_X7_fewestThrows l D cA B aK aV r2 ((1 <<< ((r2 4 4) &&& 31)) - 1) r3 hr3) dX7_throwsFor_45 ?_
        replace h := nm_ex h; obtain ⟨y4, ey4, h⟩ := h
        refine v_topI ey4 ?_
        refine v_istore_n (L' := [(3, .int y4), (0, .ref (B + 0)), (1, .int x1), (2, .int x2)]) C dX7_throwsFor_48 rfl (by decide) rfl ?_
        refine v_pc (pc' := 49) rfl ?_
        refine v_iload_n (j := 0) C dX7_throwsFor_49 rfl rfl ?_
        refine v_ldc C tw_665 dX7_throwsFor_50 ?_
        refine v_icmp_eq (tgt := 60) C dX7_throwsFor_52 (by decide) (fun g => ?_) (fun g => ?_)
        · replace h := ite_t g h
          refine v_iload_n (j := 0) C dX7_throwsFor_60 rfl rfl ?_
          replace h := Option.some.inj h; subst h
          subst hQ
          exact v_iret C hr hlk dX7_throwsFor_61
        · replace h := ite_f g h
          refine v_iload_n (j := 3) C dX7_throwsFor_55 rfl rfl ?_
          refine v_iconst C dX7_throwsFor_56 ct_i_m1 ?_
          refine v_icmp_ne (tgt := 62) C dX7_throwsFor_57 (by decide) (fun g => ?_) (fun g => ?_)
          · replace h := ite_t g h
            refine v_iload_n (j := 0) C dX7_throwsFor_60 rfl rfl ?_
            refine v_pc (pc' := 61) rfl ?_
            replace h := Option.some.inj h; subst h
            subst hQ
            exact v_iret C hr hlk dX7_throwsFor_61
          · replace h := ite_f g h
            refine v_iload_n (j := 3) C dX7_throwsFor_62 rfl rfl ?_
            refine v_if_lt (tgt := 89) C dX7_throwsFor_63 (by decide) (fun g => ?_) (fun g => ?_)
            · replace h := ite_t g h
              refine v_ldc C tw_665 dX7_throwsFor_89 ?_
              replace h := Option.some.inj h; subst h
              subst hQ
              exact v_iret C hr hlk dX7_throwsFor_91
            · replace h := ite_f g h
              refine v_iload_n (j := 3) C dX7_throwsFor_66 rfl rfl ?_
              refine v_iload_n (j := 0) C dX7_throwsFor_67 rfl rfl ?_
              refine v_icmp_ge (tgt := 89) C dX7_throwsFor_68 (by decide) (fun g => ?_) (fun g => ?_)
              · replace h := ite_t g h
                refine v_ldc C tw_665 dX7_throwsFor_89 ?_
                replace h := Option.some.inj h; subst h
                subst hQ
                exact v_iret C hr hlk dX7_throwsFor_91
              · replace h := ite_f g h
                refine v_iload_n (j := 3) C dX7_throwsFor_71 rfl rfl ?_
                refine v_pc (pc' := 72) rfl ?_
                refine v_aload_nR (j := 1) C dX7_throwsFor_72 rfl rfl ?_
                refine gf_X7_63 C ks_0 dX7_throwsFor_73 ?_
                refine v_alen9 (v := 3) C ks_201 rfl dX7_throwsFor_76 ?_
                refine v_icmp_ge (tgt := 89) C dX7_throwsFor_77 (by decide) (fun g => ?_) (fun g => ?_)
                · replace h := ite_t g h
                  refine v_ldc C tw_665 dX7_throwsFor_89 ?_
                  replace h := Option.some.inj h; subst h
                  subst hQ
                  exact v_iret C hr hlk dX7_throwsFor_91
                · replace h := ite_f g h
                  refine v_aload_nR (j := 1) C dX7_throwsFor_80 rfl rfl ?_
                  refine gf_X7_63 C ks_0 dX7_throwsFor_81 ?_
                  refine v_iload_n (j := 3) C dX7_throwsFor_84 rfl rfl ?_
                  refine v_pc (pc' := 85) rfl ?_
                  replace h := chk_some h; obtain ⟨g5, h⟩ := h
                  refine v_iald C ks_201 (inB_vp g5) dX7_throwsFor_85 ?_
                  refine v_goto (tgt := 91) C dX7_throwsFor_86 (by decide) ?_
                  replace h := Option.some.inj h; subst h
                  subst hQ
                  exact v_iret C hr hlk dX7_throwsFor_91
      · replace h := ite_f g h
        refine v_pc (pc' := 25) rfl ?_
        refine v_ldc C tw_343 dX7_throwsFor_25 ?_
        replace h := Option.some.inj h; subst h
        subst hQ
        exact v_iret C hr hlk dX7_throwsFor_27
