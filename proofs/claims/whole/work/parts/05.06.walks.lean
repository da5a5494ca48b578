def b_X7_cool_51 (M : Mem) (x1 : Int32) (x4 : Int32) : Option ((Int32 × Mem) ⊕ (Mem ⊕ (Int32 × Mem))) :=
  if 20 < x4 then (some (.inr (.inl M))) else (nm (mset M 18 2 x4) fun M8 => (m_X3_countPickedBy M8 18 x1).bind fun r9 => if r9 = 0 then (some (.inr (.inr ((x4, M8))))) else (some (.inl (x4 + 1, M8))))
def m_X7_cool (M : Mem) (x1 : Int32) (x2 : Int32) (x3 : Int32) : Option (Int32 × Mem) :=
  (m_X5_at M 4 x1).bind fun r1 => optC r1 (some (((-1000001), M))) (fun a2 => chk (kdB a2 2) ((m_X7_isCell M x2).bind fun r4 => if r4 = 0 then (some (((-1000001), M))) else ((m_X7_isSpread M x3).bind fun r5 => if r5 = 0 then (some (((-1000001), M))) else ((m_X5_takeFrom M 18 4).bind fun r6 => (m_X3_throwAt r6 x2 x3).bind fun r7 => (loopF (fun z => b_X7_cool_51 z.2 x1 z.1) FUEL (0, r7)).bind fun z10 => sumC z10 (fun z11 => some (((-1000000), z11))) (fun z => some z)))))
set_option maxHeartbeats 4000000 in
set_option maxRecDepth 100000 in
theorem c_X7_cool (l : Launch) (D : va_G) (cA : cAt) (B : Nat) (aK aV : Nat → Nat) (M : Mem) (x1 : Int32) (x2 : Int32) (x3 : Int32) (R : Int32 × Mem) (h : m_X7_cool M x1 x2 x3 = some R) : CI l D cA B aK aV yX7_cool cX7_cool 5 .int 4 [.ref (B + 0), .int x1, .int x2, .int x3] M R.1 R.2 := by
  refine CI_of (by decide +kernel) (Nat.le_of_ble_eq_true rfl) ?_
  intro p e s m args below meth c C hr hlk
  have C : Cx p (rmd 4) s m args c 0 0 D cA B aK aV cX7_cool 5 RX7 := C
  generalize hQ : MQ below _ args s 0 0 _ = Q
  refine v_eq (M' := M) (pc' := 0) (L' := [(0, .ref (B + 0)), (1, .int x1), (2, .int x2), (3, .int x3)]) (st' := []) ?_
  unfold m_X7_cool at h
  refine v_aload_nR (j := 0) C dX7_cool_0 rfl rfl ?_
  refine gf_X7_25 C ks_0 dX7_cool_1 ?_
  refine v_iload_n (j := 1) C dX7_cool_4 rfl rfl ?_
  replace h := bind_ex h; obtain ⟨r1, hr1, h⟩ := h
  refine cvN_Q C tw_534 tw_105 tw_634 tw_533 tw_25 pd_X5_at (Nat.le_of_ble_eq_true rfl) (Nat.le_of_ble_eq_true rfl) (q := 4) (kd_lt ks_4 (by decide)) (sh5 ks_4) rfl (As := [.int x1]) (rest := []) rfl rfl (Nat.le_of_ble_eq_true rfl) (c_X5_at l D cA B aK aV M 4 x1 ks_4 r1 hr1) dX7_cool_5 ?_
  replace h := optC_ex h
  rcases h with ⟨rfl, h⟩ | ⟨a2, rfl, h⟩
  · refine v_eq (M' := M) (pc' := 8) (L' := [(0, .ref (B + 0)), (1, .int x1), (2, .int x2), (3, .int x3)]) (st' := [.null]) ?_
    refine v_ifnullN (tgt := 25) C dX7_cool_8 (by decide) ?_
    refine v_ldc C tw_343 dX7_cool_25 ?_
    replace h := Option.some.inj h; subst h
    subst hQ
    exact v_iret C hr hlk dX7_cool_27
  · replace h := chk_some h; obtain ⟨g3, h⟩ := h
    replace g3 := kdB_eq g3
    refine v_eq (M' := M) (pc' := 8) (L' := [(0, .ref (B + 0)), (1, .int x1), (2, .int x2), (3, .int x3)]) (st' := [.ref (B + a2)]) ?_
    refine v_ifnullS C dX7_cool_8 ?_
    refine v_iload_n (j := 2) C dX7_cool_11 rfl rfl ?_
    replace h := bind_ex h; obtain ⟨r4, hr4, h⟩ := h
    refine cs_I C tw_556 tw_103 tw_554 tw_555 pd_X7_isCell (Nat.le_of_ble_eq_true rfl) (Nat.le_of_ble_eq_true rfl) (As := [.int x2]) (rest := []) rfl rfl (Nat.le_of_ble_eq_true rfl) (c_X7_isCell l D cA B aK aV M x2 r4 hr4) dX7_cool_12 ?_
    refine v_if_eq (tgt := 25) C dX7_cool_15 (by decide) (fun g => ?_) (fun g => ?_)
    · replace h := ite_t g h
      refine v_ldc C tw_343 dX7_cool_25 ?_
      replace h := Option.some.inj h; subst h
      subst hQ
      exact v_iret C hr hlk dX7_cool_27
    · replace h := ite_f g h
      refine v_iload_n (j := 3) C dX7_cool_18 rfl rfl ?_
      replace h := bind_ex h; obtain ⟨r5, hr5, h⟩ := h
      refine cs_I C tw_559 tw_103 tw_557 tw_558 pd_X7_isSpread (Nat.le_of_ble_eq_true rfl) (Nat.le_of_ble_eq_true rfl) (As := [.int x3]) (rest := []) rfl rfl (Nat.le_of_ble_eq_true rfl) (c_X7_isSpread l D cA B aK aV M x3 r5 hr5) dX7_cool_19 ?_
      refine v_if_ne (tgt := 28) C dX7_cool_22 (by decide) (fun g => ?_) (fun g => ?_)
      · replace h := ite_t g h
        refine v_pc (pc' := 25) rfl ?_
        refine v_ldc C tw_343 dX7_cool_25 ?_
        replace h := Option.some.inj h; subst h
        subst hQ
        exact v_iret C hr hlk dX7_cool_27
      · replace h := ite_f g h
        refine v_aload_nR (j := 0) C dX7_cool_28 rfl rfl ?_
        refine gf_X7_32 C ks_0 dX7_cool_29 ?_
        refine v_aload_nR (j := 0) C dX7_cool_32 rfl rfl ?_
        refine gf_X7_25 C ks_0 dX7_cool_33 ?_
        replace h := bind_ex h; obtain ⟨r6, hr6, h⟩ := h
        refine cvN_V C tw_539 tw_105 tw_536 tw_538 tw_26 pd_X5_takeFrom (Nat.le_of_ble_eq_true rfl) (Nat.le_of_ble_eq_true rfl) (q := 18) (kd_lt ks_18 (by decide)) (sh5 ks_18) rfl (As := [.ref (B + 4)]) (rest := []) rfl rfl (Nat.le_of_ble_eq_true rfl) (c_X5_takeFrom l D cA B aK aV M 18 4 ks_18 ks_4 r6 hr6) dX7_cool_36 ?_
        refine v_aload_nR (j := 0) C dX7_cool_39 rfl rfl ?_
        refine v_pc (pc' := 40) rfl ?_
        refine gf_X7_49 C ks_0 dX7_cool_40 ?_
        refine v_iload_n (j := 2) C dX7_cool_43 rfl rfl ?_
        refine v_iload_n (j := 3) C dX7_cool_44 rfl rfl ?_
        replace h := bind_ex h; obtain ⟨r7, hr7, h⟩ := h
        refine cvN_V C tw_584 tw_108 tw_581 tw_583 tw_32 pd_X3_throwAt (Nat.le_of_ble_eq_true rfl) (Nat.le_of_ble_eq_true rfl) (q := 196) (kd_lt ks_196 (by decide)) (sh3 ks_196) rfl (As := [.int x2, .int x3]) (rest := []) rfl rfl (Nat.le_of_ble_eq_true rfl) (c_X3_throwAt l D cA B aK aV r6 x2 x3 r7 hr7) dX7_cool_45 ?_
        refine v_iconst C dX7_cool_48 ct_i_0 ?_
        refine v_istore (L' := [(4, .int 0), (0, .ref (B + 0)), (1, .int x1), (2, .int x2), (3, .int x3)]) C dX7_cool_49 (by decide) rfl ?_
        have LB51 : ∀ (M : Mem) (x4 : Int32) (o51 : (Int32 × Mem) ⊕ (Mem ⊕ (Int32 × Mem))) (h : b_X7_cool_51 M x1 x4 = some o51) (hc51 : ∀ z : Int32 × Mem, o51 = .inl z → V p l e (rmd 4) s m args below meth c 0 0 D cA B 5 Q z.2 51 [(0, .ref (B + 0)), (1, .int x1), (4, .int z.1)] []) (he51 : ∀ z : Mem, o51 = .inr (.inl z) → V p l e (rmd 4) s m args below meth c 0 0 D cA B 5 Q z 91 [] []) (hr51 : ∀ z : Int32 × Mem, o51 = .inr (.inr z) → z = R), V p l e (rmd 4) s m args below meth c 0 0 D cA B 5 Q M 51 [(0, .ref (B + 0)), (1, .int x1), (4, .int x4)] [] := by
          intro M x4 o51 h hc51 he51 hr51
          unfold b_X7_cool_51 at h
          refine v_iload (j := 2) C dX7_cool_51 rfl ?_
          refine v_bipush C dX7_cool_53 ct_b_20 ?_
          refine v_icmp_gt (tgt := 91) C dX7_cool_55 (by decide) (fun g => ?_) (fun g => ?_)
          · replace h := ite_t g h
            replace h := Option.some.inj h; subst h
            refine v_sub [] rfl ?_
            exact he51 M rfl
          · replace h := ite_f g h
            refine v_aload_nR (j := 0) C dX7_cool_58 rfl rfl ?_
            refine gf_X7_32 C ks_0 dX7_cool_59 ?_
            refine v_iload (j := 2) C dX7_cool_62 rfl ?_
            refine v_pc (pc' := 64) rfl ?_
            replace h := nm_ex h; obtain ⟨M8, eM8, h⟩ := h
            refine pf_X7_216 C ks_18 dX7_cool_64 ?_
            refine v_mem eM8 ?_
            refine v_aload_nR (j := 0) C dX7_cool_67 rfl rfl ?_
            refine gf_X7_49 C ks_0 dX7_cool_68 ?_
            refine v_aload_nR (j := 0) C dX7_cool_71 rfl rfl ?_
            refine gf_X7_32 C ks_0 dX7_cool_72 ?_
            refine v_iload_n (j := 1) C dX7_cool_75 rfl rfl ?_
            replace h := bind_ex h; obtain ⟨r9, hr9, h⟩ := h
            refine cvN_I C tw_678 tw_108 tw_675 tw_677 tw_42 pd_X3_countPickedBy (Nat.le_of_ble_eq_true rfl) (Nat.le_of_ble_eq_true rfl) (q := 196) (kd_lt ks_196 (by decide)) (sh3 ks_196) rfl (As := [.ref (B + 18), .int x1]) (rest := []) rfl rfl (Nat.le_of_ble_eq_true rfl) (c_X3_countPickedBy l D cA B aK aV M8 18 x1 ks_18 r9 hr9) dX7_cool_76 ?_
            refine v_pc (pc' := 79) rfl ?_
            refine v_if_ne (tgt := 85) C dX7_cool_79 (by decide) (fun g => ?_) (fun g => ?_)
            · replace h := ite_t g h
              refine v_iload (j := 2) C dX7_cool_82 rfl ?_
              replace h := Option.some.inj h; subst h
              have hR := hr51 _ rfl
              subst hR
              subst hQ
              exact v_iret C hr hlk dX7_cool_84
            · replace h := ite_f g h
              refine v_iinc (j := 2) (L' := [(4, .int (x4 + 1)), (0, .ref (B + 0)), (1, .int x1)]) C dX7_cool_85 rfl (congrArg (fun z => _ + z) ct_i_1) (by decide) rfl ?_
              refine v_goto (tgt := 51) C dX7_cool_88 (by decide) ?_
              replace h := Option.some.inj h; subst h
              refine v_sub [1, 2, 0] rfl ?_
              exact hc51 (x4 + 1, M8) rfl
        replace h := bind_ex h; obtain ⟨z10, hz10, h⟩ := h
        refine v_sub [1, 2, 0] rfl ?_
        refine loopF_walk (Pσ := fun z => V p l e (rmd 4) s m args below meth c 0 0 D cA B 5 Q z.2 51 [(0, .ref (B + 0)), (1, .int x1), (4, .int z.1)] []) (Pρ := fun r => (∀ y : Mem, r = .inl y → V p l e (rmd 4) s m args below meth c 0 0 D cA B 5 Q y 91 [] []) ∧ (∀ y : Int32 × Mem, r = .inr y → y = R)) ?_ FUEL (0, r7) z10 hz10 ?_
        · intro z o hb hc he
          exact LB51 z.2 z.1 o hb hc (fun y e => (he _ e).1 y rfl) (fun y e => (he _ e).2 y rfl)
        · refine ⟨fun z11 e => ?_, fun y e => ?_⟩
          · subst e
            replace h := sumC_l h
            refine v_ldc C tw_665 dX7_cool_91 ?_
            replace h := Option.some.inj h; subst h
            subst hQ
            exact v_iret C hr hlk dX7_cool_93
          · subst e
            replace h := sumC_r h
            exact Option.some.inj h
def b_X7_cellsWith_4 (M : Mem) (x1 : Int32) (x2 : Int32) (x3 : Int32) : Option ((Int32 × Int32) ⊕ Int32) :=
  if 30 ≤ x3 then (some (.inr x2)) else (chk (inB x3 30) ((m_J6_bitCount_0f7a4 M (M 198 x3.toNatClampNeg)).bind fun r2 => if r2 = x1 then (nm (x2 ||| (1 <<< (x3 &&& 31))) fun y3 => some (.inl (y3, x3 + 1))) else (some (.inl (x2, x3 + 1)))))
def m_X7_cellsWith (M : Mem) (x1 : Int32) : Option Int32 :=
  (loopF (fun z => b_X7_cellsWith_4 M x1 z.1 z.2) FUEL (0, 0)).bind fun z4 => some z4
set_option maxHeartbeats 4000000 in
set_option maxRecDepth 100000 in
theorem c_X7_cellsWith (l : Launch) (D : va_G) (cA : cAt) (B : Nat) (aK aV : Nat → Nat) (M : Mem) (x1 : Int32) (R : Int32) (h : m_X7_cellsWith M x1 = some R) : CI l D cA B aK aV yX7_cellsWith cX7_cellsWith 4 .int 1 [.ref (B + 0), .int x1] M R M := by
  refine CI_of (by decide +kernel) (Nat.le_of_ble_eq_true rfl) ?_
  intro p e s m args below meth c C hr hlk
  have C : Cx p (rmd 1) s m args c 0 0 D cA B aK aV cX7_cellsWith 4 RX7 := C
  generalize hQ : MQ below _ args s 0 0 _ = Q
  refine v_eq (M' := M) (pc' := 0) (L' := [(0, .ref (B + 0)), (1, .int x1)]) (st' := []) ?_
  unfold m_X7_cellsWith at h
  refine v_iconst C dX7_cellsWith_0 ct_i_0 ?_
  refine v_istore_n (L' := [(2, .int 0), (0, .ref (B + 0)), (1, .int x1)]) C dX7_cellsWith_1 rfl (by decide) rfl ?_
  refine v_iconst C dX7_cellsWith_2 ct_i_0 ?_
  refine v_istore_n (L' := [(3, .int 0), (2, .int 0), (0, .ref (B + 0)), (1, .int x1)]) C dX7_cellsWith_3 rfl (by decide) rfl ?_
  have LB4 : ∀  (x2 : Int32) (x3 : Int32) (o4 : (Int32 × Int32) ⊕ Int32) (h : b_X7_cellsWith_4 M x1 x2 x3 = some o4) (hc4 : ∀ z : Int32 × Int32, o4 = .inl z → V p l e (rmd 1) s m args below meth c 0 0 D cA B 4 Q M 4 [(0, .ref (B + 0)), (1, .int x1), (2, .int z.1), (3, .int z.2)] []) (he4 : ∀ z : Int32, o4 = .inr z → V p l e (rmd 1) s m args below meth c 0 0 D cA B 4 Q M 38 [(2, .int z)] []), V p l e (rmd 1) s m args below meth c 0 0 D cA B 4 Q M 4 [(0, .ref (B + 0)), (1, .int x1), (2, .int x2), (3, .int x3)] [] := by
    intro x2 x3 o4 h hc4 he4
    unfold b_X7_cellsWith_4 at h
    refine v_iload_n (j := 3) C dX7_cellsWith_4 rfl rfl ?_
    refine v_aload_nR (j := 0) C dX7_cellsWith_5 rfl rfl ?_
    refine gf_X7_53 C ks_0 dX7_cellsWith_6 ?_
    refine v_alen9 (v := 30) C ks_198 rfl dX7_cellsWith_9 ?_
    refine v_icmp_ge (tgt := 38) C dX7_cellsWith_10 (by decide) (fun g => ?_) (fun g => ?_)
    · replace h := ite_t g h
      replace h := Option.some.inj h; subst h
      refine v_sub [2] rfl ?_
      exact he4 x2 rfl
    · replace h := ite_f g h
      refine v_aload_nR (j := 0) C dX7_cellsWith_13 rfl rfl ?_
      refine v_pc (pc' := 14) rfl ?_
      refine gf_X7_53 C ks_0 dX7_cellsWith_14 ?_
      refine v_iload_n (j := 3) C dX7_cellsWith_17 rfl rfl ?_
      replace h := chk_some h; obtain ⟨g1, h⟩ := h
      refine v_iald C ks_198 (inB_vp g1) dX7_cellsWith_18 ?_
      replace h := bind_ex h; obtain ⟨r2, hr2, h⟩ := h
      refine cs_I C tw_715 tw_119 tw_713 tw_714 pd_J6_bitCount_0f7a4 (Nat.le_of_ble_eq_true rfl) (Nat.le_of_ble_eq_true rfl) (As := [.int (M 198 x3.toNatClampNeg)]) (rest := []) rfl rfl (Nat.le_of_ble_eq_true rfl) (c_J6_bitCount_0f7a4 l D cA B aK aV M (M 198 x3.toNatClampNeg) r2 hr2) dX7_cellsWith_19 ?_
      refine v_iload_n (j := 1) C dX7_cellsWith_22 rfl rfl ?_
      refine v_icmp_ne (tgt := 32) C dX7_cellsWith_23 (by decide) (fun g => ?_) (fun g => ?_)
      · replace h := ite_t g h
        refine v_iload_n (j := 2) C dX7_cellsWith_26 rfl rfl ?_
        refine v_pc (pc' := 27) rfl ?_
        refine v_iconst C dX7_cellsWith_27 ct_i_1 ?_
        refine v_iload_n (j := 3) C dX7_cellsWith_28 rfl rfl ?_
        refine v_ishl C dX7_cellsWith_29 ?_
        refine v_ior C dX7_cellsWith_30 ?_
        replace h := nm_ex h; obtain ⟨y3, ey3, h⟩ := h
        refine v_topI ey3 ?_
        refine v_istore_n (L' := [(2, .int y3), (0, .ref (B + 0)), (1, .int x1), (3, .int x3)]) C dX7_cellsWith_31 rfl (by decide) rfl ?_
        refine v_iinc (j := 3) (L' := [(3, .int (x3 + 1)), (2, .int y3), (0, .ref (B + 0)), (1, .int x1)]) C dX7_cellsWith_32 rfl (congrArg (fun z => _ + z) ct_i_1) (by decide) rfl ?_
        refine v_goto (tgt := 4) C dX7_cellsWith_35 (by decide) ?_
        replace h := Option.some.inj h; subst h
        refine v_sub [2, 3, 1, 0] rfl ?_
        exact hc4 (y3, x3 + 1) rfl
      · replace h := ite_f g h
        refine v_iinc (j := 3) (L' := [(3, .int (x3 + 1)), (0, .ref (B + 0)), (1, .int x1), (2, .int x2)]) C dX7_cellsWith_32 rfl (congrArg (fun z => _ + z) ct_i_1) (by decide) rfl ?_
        refine v_goto (tgt := 4) C dX7_cellsWith_35 (by decide) ?_
        replace h := Option.some.inj h; subst h
        refine v_sub [1, 2, 3, 0] rfl ?_
        exact hc4 (x2, x3 + 1) rfl
  replace h := bind_ex h; obtain ⟨z4, hz4, h⟩ := h
  refine v_sub [2, 3, 1, 0] rfl ?_
  refine loopF_walk (Pσ := fun z => V p l e (rmd 1) s m args below meth c 0 0 D cA B 4 Q M 4 [(0, .ref (B + 0)), (1, .int x1), (2, .int z.1), (3, .int z.2)] []) (Pρ := fun y => V p l e (rmd 1) s m args below meth c 0 0 D cA B 4 Q M 38 [(2, .int y)] []) ?_ FUEL (0, 0) z4 hz4 ?_
  · intro z o hb hc he
    exact LB4 z.1 z.2 o hb hc he
  · refine v_iload_n (j := 0) C dX7_cellsWith_38 rfl rfl ?_
    replace h := Option.some.inj h; subst h
    subst hQ
    exact v_iret C hr hlk dX7_cellsWith_39
def j_X7_stood_34 (M : Mem) (x2 : Int32) (x3 : Int32) (x4 : Int32) (x5 : Int32) (x6 : Option Nat) (s0 : Int32) : Option (Int32 × Mem) :=
  optC x6 (some (((-1000001), M))) (fun a1 => chk (kdB a1 4) (if s0 = 0 then (some (((-1000001), M))) else ((m_X5_at M 4 x4).bind fun r3 => optC r3 (some (((-1000001), M))) (fun a4 => chk (kdB a4 2) ((m_X4_isMissing M a1).bind fun r6 => if r6 = 0 then ((m_X4_holds M a1 x2 x3).bind fun r7 => if r7 = 0 then ((m_X7_found M 2).bind fun r12 => some ((r12.1, r12.2))) else ((m_X3_takeItems M a1 x2 x3).bind fun r8 => if r8.1 = 0 then (some (((-1000001), r8.2))) else ((m_X3_weigh r8.2 4 x4 (-1) 198).bind fun r9 => (m_X7_cellsWith r9 x5).bind fun r10 => (m_X7_nothingFound r9 r10).bind fun r11 => some ((r11.1, r11.2))))) else ((m_X7_found M 1).bind fun r13 => some ((r13.1, r13.2))))))))
def j_X7_stood_33 (M : Mem) (x2 : Int32) (x3 : Int32) (x4 : Int32) (x5 : Int32) (x6 : Option Nat) : Option (Int32 × Mem) :=
  j_X7_stood_34 M x2 x3 x4 x5 x6 0
def m_X7_stood (M : Mem) (x1 : Int32) (x2 : Int32) (x3 : Int32) (x4 : Int32) (x5 : Int32) : Option (Int32 × Mem) :=
  (m_X7_rowAt M x1).bind fun r14 => if x3 < 0 then (j_X7_stood_33 M x2 x3 x4 x5 r14) else (if 20 < x3 then (j_X7_stood_33 M x2 x3 x4 x5 r14) else (if x5 < 0 then (j_X7_stood_33 M x2 x3 x4 x5 r14) else (if 20 < x5 then (j_X7_stood_33 M x2 x3 x4 x5 r14) else (j_X7_stood_34 M x2 x3 x4 x5 r14 1))))
set_option maxHeartbeats 4000000 in
set_option maxRecDepth 100000 in
theorem c_X7_stood (l : Launch) (D : va_G) (cA : cAt) (B : Nat) (aK aV : Nat → Nat) (M : Mem) (x1 : Int32) (x2 : Int32) (x3 : Int32) (x4 : Int32) (x5 : Int32) (R : Int32 × Mem) (h : m_X7_stood M x1 x2 x3 x4 x5 = some R) : CI l D cA B aK aV yX7_stood cX7_stood 8 .int 4 [.ref (B + 0), .int x1, .int x2, .int x3, .int x4, .int x5] M R.1 R.2 := by
  refine CI_of (by decide +kernel) (Nat.le_of_ble_eq_true rfl) ?_
  intro p e s m args below meth c C hr hlk
  have C : Cx p (rmd 4) s m args c 0 0 D cA B aK aV cX7_stood 8 RX7 := C
  generalize hQ : MQ below _ args s 0 0 _ = Q
  refine v_eq (M' := M) (pc' := 0) (L' := [(0, .ref (B + 0)), (1, .int x1), (2, .int x2), (3, .int x3), (4, .int x4), (5, .int x5)]) (st' := []) ?_
  unfold m_X7_stood at h
  have J34 : ∀ (M : Mem) (x6 : Option Nat) (s0 : Int32), j_X7_stood_34 M x2 x3 x4 x5 x6 s0 = some R → V p l e (rmd 4) s m args below meth c 0 0 D cA B 8 Q M 34 [(0, .ref (B + 0)), (2, .int x2), (3, .int x3), (4, .int x4), (5, .int x5), (6, rv B x6)] [.int s0] := by
    intro M x6 s0 h
    unfold j_X7_stood_34 at h
    refine v_istore (L' := [(7, .int s0), (0, .ref (B + 0)), (2, .int x2), (3, .int x3), (4, .int x4), (5, .int x5), (6, rv B x6)]) C dX7_stood_34 (by decide) (by cases x6 <;> rfl) ?_
    refine v_aloadO (j := 6) C dX7_stood_36 rfl ?_
    replace h := optC_ex h
    rcases h with ⟨rfl, h⟩ | ⟨a1, rfl, h⟩
    · refine v_eq (M' := M) (pc' := 38) (L' := [(7, .int s0), (0, .ref (B + 0)), (2, .int x2), (3, .int x3), (4, .int x4), (5, .int x5), (6, .null)]) (st' := [.null]) ?_
      refine v_ifnullN (tgt := 58) C dX7_stood_38 (by decide) ?_
      refine v_ldc C tw_343 dX7_stood_58 ?_
      replace h := Option.some.inj h; subst h
      subst hQ
      exact v_iret C hr hlk dX7_stood_60
    · replace h := chk_some h; obtain ⟨g2, h⟩ := h
      replace g2 := kdB_eq g2
      refine v_eq (M' := M) (pc' := 38) (L' := [(7, .int s0), (0, .ref (B + 0)), (2, .int x2), (3, .int x3), (4, .int x4), (5, .int x5), (6, .ref (B + a1))]) (st' := [.ref (B + a1)]) ?_
      refine v_ifnullS C dX7_stood_38 ?_
      refine v_iload (j := 0) C dX7_stood_41 rfl ?_
      refine v_if_eq (tgt := 58) C dX7_stood_43 (by decide) (fun g => ?_) (fun g => ?_)
      · replace h := ite_t g h
        refine v_ldc C tw_343 dX7_stood_58 ?_
        replace h := Option.some.inj h; subst h
        subst hQ
        exact v_iret C hr hlk dX7_stood_60
      · replace h := ite_f g h
        refine v_aload_nR (j := 1) C dX7_stood_46 rfl rfl ?_
        refine gf_X7_25 C ks_0 dX7_stood_47 ?_
        refine v_iload (j := 4) C dX7_stood_50 rfl ?_
        replace h := bind_ex h; obtain ⟨r3, hr3, h⟩ := h
        refine cvN_Q C tw_534 tw_105 tw_634 tw_533 tw_25 pd_X5_at (Nat.le_of_ble_eq_true rfl) (Nat.le_of_ble_eq_true rfl) (q := 4) (kd_lt ks_4 (by decide)) (sh5 ks_4) rfl (As := [.int x4]) (rest := []) rfl rfl (Nat.le_of_ble_eq_true rfl) (c_X5_at l D cA B aK aV M 4 x4 ks_4 r3 hr3) dX7_stood_52 ?_
        refine v_pc (pc' := 55) rfl ?_
        replace h := optC_ex h
        rcases h with ⟨rfl, h⟩ | ⟨a4, rfl, h⟩
        · refine v_eq (M' := M) (pc' := 55) (L' := [(7, .int s0), (0, .ref (B + 0)), (2, .int x2), (3, .int x3), (4, .int x4), (5, .int x5), (6, .ref (B + a1))]) (st' := [.null]) ?_
          refine v_ifnonnullN C dX7_stood_55 ?_
          refine v_ldc C tw_343 dX7_stood_58 ?_
          replace h := Option.some.inj h; subst h
          subst hQ
          exact v_iret C hr hlk dX7_stood_60
        · replace h := chk_some h; obtain ⟨g5, h⟩ := h
          replace g5 := kdB_eq g5
          refine v_eq (M' := M) (pc' := 55) (L' := [(7, .int s0), (0, .ref (B + 0)), (2, .int x2), (3, .int x3), (4, .int x4), (5, .int x5), (6, .ref (B + a1))]) (st' := [.ref (B + a4)]) ?_
          refine v_ifnonnullS (tgt := 61) C dX7_stood_55 (by decide) ?_
          refine v_aloadR (j := 6) C dX7_stood_61 rfl ?_
          replace h := bind_ex h; obtain ⟨r6, hr6, h⟩ := h
          refine cvN_I C tw_367 tw_110 tw_364 tw_366 tw_4 pd_X4_isMissing (Nat.le_of_ble_eq_true rfl) (Nat.le_of_ble_eq_true rfl) (q := a1) (kd_lt g2 (by decide)) (sh4 g2) rfl (As := []) (rest := []) rfl rfl (Nat.le_of_ble_eq_true rfl) (c_X4_isMissing l D cA B aK aV M a1 g2 r6 hr6) dX7_stood_63 ?_
          refine v_if_eq (tgt := 75) C dX7_stood_66 (by decide) (fun g => ?_) (fun g => ?_)
          · replace h := ite_t g h
            refine v_aloadR (j := 6) C dX7_stood_75 rfl ?_
            refine v_iload_n (j := 2) C dX7_stood_77 rfl rfl ?_
            refine v_iload_n (j := 3) C dX7_stood_78 rfl rfl ?_
            replace h := bind_ex h; obtain ⟨r7, hr7, h⟩ := h
            refine cvN_I C tw_371 tw_110 tw_368 tw_370 tw_5 pd_X4_holds (Nat.le_of_ble_eq_true rfl) (Nat.le_of_ble_eq_true rfl) (q := a1) (kd_lt g2 (by decide)) (sh4 g2) rfl (As := [.int x2, .int x3]) (rest := []) rfl rfl (Nat.le_of_ble_eq_true rfl) (c_X4_holds l D cA B aK aV M a1 x2 x3 g2 r7 hr7) dX7_stood_79 ?_
            refine v_if_ne (tgt := 91) C dX7_stood_82 (by decide) (fun g => ?_) (fun g => ?_)
            · replace h := ite_t g h
              refine v_aload_nR (j := 1) C dX7_stood_85 rfl rfl ?_
              refine v_pc (pc' := 86) rfl ?_
              refine v_iconst C dX7_stood_86 ct_i_2 ?_
              replace h := bind_ex h; obtain ⟨r12, hr12, h⟩ := h
              refine cv_I C tw_347 tw_103 tw_344 tw_346 tw_1 pd_X7_found (Nat.le_of_ble_eq_true rfl) (Nat.le_of_ble_eq_true rfl) (q := 0) (kd_lt ks_0 (by decide)) (sh7 ks_0) rfl (As := [.int 2]) (rest := []) rfl rfl (Nat.le_of_ble_eq_true rfl) (c_X7_found l D cA B aK aV M 2 r12 hr12) dX7_stood_87 ?_
              replace h := Option.some.inj h; subst h
              subst hQ
              exact v_iret C hr hlk dX7_stood_90
            · replace h := ite_f g h
              refine v_aload_nR (j := 1) C dX7_stood_91 rfl rfl ?_
              refine gf_X7_49 C ks_0 dX7_stood_92 ?_
              refine v_aloadR (j := 6) C dX7_stood_95 rfl ?_
              refine v_iload_n (j := 2) C dX7_stood_97 rfl rfl ?_
              refine v_iload_n (j := 3) C dX7_stood_98 rfl rfl ?_
              replace h := bind_ex h; obtain ⟨r8, hr8, h⟩ := h
              refine cvN_I C tw_783 tw_108 tw_780 tw_782 tw_55 pd_X3_takeItems (Nat.le_of_ble_eq_true rfl) (Nat.le_of_ble_eq_true rfl) (q := 196) (kd_lt ks_196 (by decide)) (sh3 ks_196) rfl (As := [.ref (B + a1), .int x2, .int x3]) (rest := []) rfl rfl (Nat.le_of_ble_eq_true rfl) (c_X3_takeItems l D cA B aK aV M a1 x2 x3 g2 r8 hr8) dX7_stood_99 ?_
              refine v_pc (pc' := 102) rfl ?_
              refine v_if_ne (tgt := 108) C dX7_stood_102 (by decide) (fun g => ?_) (fun g => ?_)
              · replace h := ite_t g h
                refine v_ldc C tw_343 dX7_stood_105 ?_
                replace h := Option.some.inj h; subst h
                subst hQ
                exact v_iret C hr hlk dX7_stood_107
              · replace h := ite_f g h
                refine v_aload_nR (j := 1) C dX7_stood_108 rfl rfl ?_
                refine gf_X7_49 C ks_0 dX7_stood_109 ?_
                refine v_aload_nR (j := 1) C dX7_stood_112 rfl rfl ?_
                refine gf_X7_25 C ks_0 dX7_stood_113 ?_
                refine v_iload (j := 4) C dX7_stood_116 rfl ?_
                refine v_iconst C dX7_stood_118 ct_i_m1 ?_
                refine v_pc (pc' := 119) rfl ?_
                refine v_aload_nR (j := 1) C dX7_stood_119 rfl rfl ?_
                refine gf_X7_53 C ks_0 dX7_stood_120 ?_
                replace h := bind_ex h; obtain ⟨r9, hr9, h⟩ := h
                refine cvN_V C tw_701 tw_108 tw_698 tw_700 tw_44 pd_X3_weigh (Nat.le_of_ble_eq_true rfl) (Nat.le_of_ble_eq_true rfl) (q := 196) (kd_lt ks_196 (by decide)) (sh3 ks_196) rfl (As := [.ref (B + 4), .int x4, .int (-1), .ref (B + 198)]) (rest := []) rfl rfl (Nat.le_of_ble_eq_true rfl) (c_X3_weigh l D cA B aK aV r8.2 4 x4 (-1) 198 ks_4 ks_198 r9 hr9) dX7_stood_123 ?_
                refine v_aload_nR (j := 1) C dX7_stood_126 rfl rfl ?_
                refine v_aload_nR (j := 1) C dX7_stood_127 rfl rfl ?_
                refine v_iload (j := 5) C dX7_stood_128 rfl ?_
                replace h := bind_ex h; obtain ⟨r10, hr10, h⟩ := h
                refine cv_I C tw_792 tw_103 tw_789 tw_791 tw_57 pd_X7_cellsWith (Nat.le_of_ble_eq_true rfl) (Nat.le_of_ble_eq_true rfl) (q := 0) (kd_lt ks_0 (by decide)) (sh7 ks_0) rfl (As := [.int x5]) (rest := [.ref (B + 0)]) rfl rfl (Nat.le_of_ble_eq_true rfl) (c_X7_cellsWith l D cA B aK aV r9 x5 r10 hr10) dX7_stood_130 ?_
                refine v_pc (pc' := 133) rfl ?_
                replace h := bind_ex h; obtain ⟨r11, hr11, h⟩ := h
                refine cv_I C tw_359 tw_103 tw_356 tw_358 tw_3 pd_X7_nothingFound (Nat.le_of_ble_eq_true rfl) (Nat.le_of_ble_eq_true rfl) (q := 0) (kd_lt ks_0 (by decide)) (sh7 ks_0) rfl (As := [.int r10]) (rest := []) rfl rfl (Nat.le_of_ble_eq_true rfl) (c_X7_nothingFound l D cA B aK aV r9 r10 r11 hr11) dX7_stood_133 ?_
                replace h := Option.some.inj h; subst h
                subst hQ
                exact v_iret C hr hlk dX7_stood_136
          · replace h := ite_f g h
            refine v_aload_nR (j := 1) C dX7_stood_69 rfl rfl ?_
            refine v_iconst C dX7_stood_70 ct_i_1 ?_
            replace h := bind_ex h; obtain ⟨r13, hr13, h⟩ := h
            refine cv_I C tw_347 tw_103 tw_344 tw_346 tw_1 pd_X7_found (Nat.le_of_ble_eq_true rfl) (Nat.le_of_ble_eq_true rfl) (q := 0) (kd_lt ks_0 (by decide)) (sh7 ks_0) rfl (As := [.int 1]) (rest := []) rfl rfl (Nat.le_of_ble_eq_true rfl) (c_X7_found l D cA B aK aV M 1 r13 hr13) dX7_stood_71 ?_
            refine v_pc (pc' := 74) rfl ?_
            replace h := Option.some.inj h; subst h
            subst hQ
            exact v_iret C hr hlk dX7_stood_74
  have J33 : ∀ (M : Mem) (x6 : Option Nat), j_X7_stood_33 M x2 x3 x4 x5 x6 = some R → V p l e (rmd 4) s m args below meth c 0 0 D cA B 8 Q M 33 [(0, .ref (B + 0)), (2, .int x2), (3, .int x3), (4, .int x4), (5, .int x5), (6, rv B x6)] [] := by
    intro M x6 h
    unfold j_X7_stood_33 at h
    refine v_iconst C dX7_stood_33 ct_i_0 ?_
    refine v_sub [0, 1, 2, 3, 4, 5] rfl ?_
    exact J34 M x6 0 h
  refine v_aload_nR (j := 0) C dX7_stood_0 rfl rfl ?_
  refine v_iload_n (j := 1) C dX7_stood_1 rfl rfl ?_
  replace h := bind_ex h; obtain ⟨r14, hr14, h⟩ := h
  refine cv_Q C tw_342 tw_103 tw_339 tw_341 tw_0 pd_X7_rowAt (Nat.le_of_ble_eq_true rfl) (Nat.le_of_ble_eq_true rfl) (q := 0) (kd_lt ks_0 (by decide)) (sh7 ks_0) rfl (As := [.int x1]) (rest := []) rfl rfl (Nat.le_of_ble_eq_true rfl) (c_X7_rowAt l D cA B aK aV M x1 r14 hr14) dX7_stood_2 ?_
  refine v_astoreO (L' := [(6, rv B r14), (0, .ref (B + 0)), (1, .int x1), (2, .int x2), (3, .int x3), (4, .int x4), (5, .int x5)]) C dX7_stood_5 (by decide) rfl ?_
  refine v_iload_n (j := 4) C dX7_stood_7 rfl rfl ?_
  refine v_if_lt (tgt := 33) C dX7_stood_8 (by decide) (fun g => ?_) (fun g => ?_)
  · replace h := ite_t g h
    refine v_sub [1, 3, 4, 5, 6, 0] rfl ?_
    exact J33 M r14 h
  · replace h := ite_f g h
    refine v_pc (pc' := 11) rfl ?_
    refine v_iload_n (j := 4) C dX7_stood_11 rfl rfl ?_
    refine v_bipush C dX7_stood_12 ct_b_20 ?_
    refine v_icmp_gt (tgt := 33) C dX7_stood_14 (by decide) (fun g => ?_) (fun g => ?_)
    · replace h := ite_t g h
      refine v_sub [1, 3, 4, 5, 6, 0] rfl ?_
      exact J33 M r14 h
    · replace h := ite_f g h
      refine v_iload (j := 6) C dX7_stood_17 rfl ?_
      refine v_if_lt (tgt := 33) C dX7_stood_19 (by decide) (fun g => ?_) (fun g => ?_)
      · replace h := ite_t g h
        refine v_sub [1, 3, 4, 5, 6, 0] rfl ?_
        exact J33 M r14 h
      · replace h := ite_f g h
        refine v_iload (j := 6) C dX7_stood_22 rfl ?_
        refine v_bipush C dX7_stood_24 ct_b_20 ?_
        refine v_pc (pc' := 26) rfl ?_
        refine v_icmp_gt (tgt := 33) C dX7_stood_26 (by decide) (fun g => ?_) (fun g => ?_)
        · replace h := ite_t g h
          refine v_sub [1, 3, 4, 5, 6, 0] rfl ?_
          exact J33 M r14 h
        · replace h := ite_f g h
          refine v_iconst C dX7_stood_29 ct_i_1 ?_
          refine v_goto (tgt := 34) C dX7_stood_30 (by decide) ?_
          refine v_sub [1, 3, 4, 5, 6, 0] rfl ?_
          exact J34 M r14 1 h
def m_X7_imageAt (M : Mem) (x1 : Int32) : Option (Option Nat) :=
  if x1 < 0 then (some none) else (if 2 ≤ x1 then (some none) else (chk (inB x1 2) (some (some (220 + 7 * x1.toNatClampNeg)))))
set_option maxHeartbeats 4000000 in
set_option maxRecDepth 100000 in
theorem c_X7_imageAt (l : Launch) (D : va_G) (cA : cAt) (B : Nat) (aK aV : Nat → Nat) (M : Mem) (x1 : Int32) (R : Option Nat) (h : m_X7_imageAt M x1 = some R) : CQ l D cA B aK aV yX7_imageAt cX7_imageAt 2 (.object "HotPennies$Square") 0 [.ref (B + 0), .int x1] M R M := by
  refine CQ_of (by decide +kernel) (Nat.le_of_ble_eq_true rfl) ?_
  intro p e s m args below meth c C hr hlk
  have C : Cx p (rmd 0) s m args c 0 0 D cA B aK aV cX7_imageAt 2 RX7 := C
  generalize hQ : MQ below _ args s 0 0 _ = Q
  refine v_eq (M' := M) (pc' := 0) (L' := [(0, .ref (B + 0)), (1, .int x1)]) (st' := []) ?_
  unfold m_X7_imageAt at h
  refine v_iload_n (j := 1) C dX7_imageAt_0 rfl rfl ?_
  refine v_if_lt (tgt := 22) C dX7_imageAt_1 (by decide) (fun g => ?_) (fun g => ?_)
  · replace h := ite_t g h
    refine v_null C dX7_imageAt_22 ?_
    replace h := Option.some.inj h; subst h
    subst hQ
    exact v_aret C hr hlk (Or.inl ⟨_, rfl⟩) dX7_imageAt_23
  · replace h := ite_f g h
    refine v_iload_n (j := 1) C dX7_imageAt_4 rfl rfl ?_
    refine v_aload_nR (j := 0) C dX7_imageAt_5 rfl rfl ?_
    refine gf_X7_35 C ks_0 dX7_imageAt_6 ?_
    refine v_alenQ13 C ks_25 dX7_imageAt_9 ?_
    refine v_pc (pc' := 10) rfl ?_
    refine v_icmp_ge (tgt := 22) C dX7_imageAt_10 (by decide) (fun g => ?_) (fun g => ?_)
    · replace h := ite_t g h
      refine v_null C dX7_imageAt_22 ?_
      replace h := Option.some.inj h; subst h
      subst hQ
      exact v_aret C hr hlk (Or.inl ⟨_, rfl⟩) dX7_imageAt_23
    · replace h := ite_f g h
      refine v_aload_nR (j := 0) C dX7_imageAt_13 rfl rfl ?_
      refine gf_X7_35 C ks_0 dX7_imageAt_14 ?_
      refine v_iload_n (j := 1) C dX7_imageAt_17 rfl rfl ?_
      replace h := chk_some h; obtain ⟨g1, h⟩ := h
      refine v_aldI C (inB_vp g1) dX7_imageAt_18 ?_
      refine v_goto (tgt := 23) C dX7_imageAt_19 (by decide) ?_
      replace h := Option.some.inj h; subst h
      subst hQ
      exact v_aret C hr hlk (Or.inl ⟨_, rfl⟩) dX7_imageAt_23
def m_X7_image (M : Mem) (x1 : Int32) : Option (Int32 × Mem) :=
  (m_X7_imageAt M x1).bind fun r1 => optC r1 (some (((-1000001), M))) (fun a2 => chk (kdB a2 5) (if (M 4 1) = 0 then (some (((-1000002), M))) else ((m_X5_takeFrom M a2 4).bind fun r4 => some ((1, r4)))))
set_option maxHeartbeats 4000000 in
set_option maxRecDepth 100000 in
theorem c_X7_image (l : Launch) (D : va_G) (cA : cAt) (B : Nat) (aK aV : Nat → Nat) (M : Mem) (x1 : Int32) (R : Int32 × Mem) (h : m_X7_image M x1 = some R) : CI l D cA B aK aV yX7_image cX7_image 3 .int 2 [.ref (B + 0), .int x1] M R.1 R.2 := by
  refine CI_of (by decide +kernel) (Nat.le_of_ble_eq_true rfl) ?_
  intro p e s m args below meth c C hr hlk
  have C : Cx p (rmd 2) s m args c 0 0 D cA B aK aV cX7_image 3 RX7 := C
  generalize hQ : MQ below _ args s 0 0 _ = Q
  refine v_eq (M' := M) (pc' := 0) (L' := [(0, .ref (B + 0)), (1, .int x1)]) (st' := []) ?_
  unfold m_X7_image at h
  refine v_aload_nR (j := 0) C dX7_image_0 rfl rfl ?_
  refine v_iload_n (j := 1) C dX7_image_1 rfl rfl ?_
  replace h := bind_ex h; obtain ⟨r1, hr1, h⟩ := h
  refine cv_Q C tw_800 tw_103 tw_797 tw_799 tw_58 pd_X7_imageAt (Nat.le_of_ble_eq_true rfl) (Nat.le_of_ble_eq_true rfl) (q := 0) (kd_lt ks_0 (by decide)) (sh7 ks_0) rfl (As := [.int x1]) (rest := []) rfl rfl (Nat.le_of_ble_eq_true rfl) (c_X7_imageAt l D cA B aK aV M x1 r1 hr1) dX7_image_2 ?_
  refine v_astore_nO (L' := [(2, rv B r1), (0, .ref (B + 0)), (1, .int x1)]) C dX7_image_5 rfl (by decide) rfl ?_
  refine v_aload_nO (j := 0) C dX7_image_6 rfl rfl ?_
  replace h := optC_ex h
  rcases h with ⟨rfl, h⟩ | ⟨a2, rfl, h⟩
  · refine v_eq (M' := M) (pc' := 7) (L' := [(2, .null), (0, .ref (B + 0)), (1, .int x1)]) (st' := [.null]) ?_
    refine v_ifnonnullN C dX7_image_7 ?_
    refine v_ldc C tw_343 dX7_image_10 ?_
    replace h := Option.some.inj h; subst h
    subst hQ
    exact v_iret C hr hlk dX7_image_12
  · replace h := chk_some h; obtain ⟨g3, h⟩ := h
    replace g3 := kdB_eq g3
    refine v_eq (M' := M) (pc' := 7) (L' := [(2, .ref (B + a2)), (0, .ref (B + 0)), (1, .int x1)]) (st' := [.ref (B + a2)]) ?_
    refine v_ifnonnullS (tgt := 13) C dX7_image_7 (by decide) ?_
    refine v_aload_nR (j := 1) C dX7_image_13 rfl rfl ?_
    refine gf_X7_25 C ks_0 dX7_image_14 ?_
    refine gf_X7_147 C ks_4 dX7_image_17 ?_
    refine v_if_ne (tgt := 26) C dX7_image_20 (by decide) (fun g => ?_) (fun g => ?_)
    · replace h := ite_t g h
      refine v_ldc C tw_553 dX7_image_23 ?_
      replace h := Option.some.inj h; subst h
      subst hQ
      exact v_iret C hr hlk dX7_image_25
    · replace h := ite_f g h
      refine v_aload_nR (j := 0) C dX7_image_26 rfl rfl ?_
      refine v_aload_nR (j := 1) C dX7_image_27 rfl rfl ?_
      refine gf_X7_25 C ks_0 dX7_image_28 ?_
      replace h := bind_ex h; obtain ⟨r4, hr4, h⟩ := h
      refine cvN_V C tw_539 tw_105 tw_536 tw_538 tw_26 pd_X5_takeFrom (Nat.le_of_ble_eq_true rfl) (Nat.le_of_ble_eq_true rfl) (q := a2) (kd_lt g3 (by decide)) (sh5 g3) rfl (As := [.ref (B + 4)]) (rest := []) rfl rfl (Nat.le_of_ble_eq_true rfl) (c_X5_takeFrom l D cA B aK aV M a2 4 g3 ks_4 r4 hr4) dX7_image_31 ?_
      refine v_iconst C dX7_image_34 ct_i_1 ?_
      replace h := Option.some.inj h; subst h
      subst hQ
      exact v_iret C hr hlk dX7_image_35
def m_X7_restore (M : Mem) (x1 : Int32) : Option (Int32 × Mem) :=
  (m_X7_imageAt M x1).bind fun r1 => optC r1 (some (((-1000001), M))) (fun a2 => chk (kdB a2 5) (if (M a2 1) = 0 then (some (((-1000002), M))) else ((m_X5_takeFrom M 4 a2).bind fun r4 => nm (mset r4 26 1 0) fun M5 => some ((1, M5)))))
set_option maxHeartbeats 4000000 in
set_option maxRecDepth 100000 in
theorem c_X7_restore (l : Launch) (D : va_G) (cA : cAt) (B : Nat) (aK aV : Nat → Nat) (M : Mem) (x1 : Int32) (R : Int32 × Mem) (h : m_X7_restore M x1 = some R) : CI l D cA B aK aV yX7_restore cX7_restore 3 .int 2 [.ref (B + 0), .int x1] M R.1 R.2 := by
  refine CI_of (by decide +kernel) (Nat.le_of_ble_eq_true rfl) ?_
  intro p e s m args below meth c C hr hlk
  have C : Cx p (rmd 2) s m args c 0 0 D cA B aK aV cX7_restore 3 RX7 := C
  generalize hQ : MQ below _ args s 0 0 _ = Q
  refine v_eq (M' := M) (pc' := 0) (L' := [(0, .ref (B + 0)), (1, .int x1)]) (st' := []) ?_
  unfold m_X7_restore at h
  refine v_aload_nR (j := 0) C dX7_restore_0 rfl rfl ?_
  refine v_iload_n (j := 1) C dX7_restore_1 rfl rfl ?_
  replace h := bind_ex h; obtain ⟨r1, hr1, h⟩ := h
  refine cv_Q C tw_800 tw_103 tw_797 tw_799 tw_58 pd_X7_imageAt (Nat.le_of_ble_eq_true rfl) (Nat.le_of_ble_eq_true rfl) (q := 0) (kd_lt ks_0 (by decide)) (sh7 ks_0) rfl (As := [.int x1]) (rest := []) rfl rfl (Nat.le_of_ble_eq_true rfl) (c_X7_imageAt l D cA B aK aV M x1 r1 hr1) dX7_restore_2 ?_
  refine v_astore_nO (L' := [(2, rv B r1), (0, .ref (B + 0)), (1, .int x1)]) C dX7_restore_5 rfl (by decide) rfl ?_
  refine v_aload_nO (j := 0) C dX7_restore_6 rfl rfl ?_
  replace h := optC_ex h
  rcases h with ⟨rfl, h⟩ | ⟨a2, rfl, h⟩
  · refine v_eq (M' := M) (pc' := 7) (L' := [(2, .null), (0, .ref (B + 0)), (1, .int x1)]) (st' := [.null]) ?_
    refine v_ifnonnullN C dX7_restore_7 ?_
    refine v_ldc C tw_343 dX7_restore_10 ?_
    replace h := Option.some.inj h; subst h
    subst hQ
    exact v_iret C hr hlk dX7_restore_12
  · replace h := chk_some h; obtain ⟨g3, h⟩ := h
    replace g3 := kdB_eq g3
    refine v_eq (M' := M) (pc' := 7) (L' := [(2, .ref (B + a2)), (0, .ref (B + 0)), (1, .int x1)]) (st' := [.ref (B + a2)]) ?_
    refine v_ifnonnullS (tgt := 13) C dX7_restore_7 (by decide) ?_
    refine v_aload_nR (j := 0) C dX7_restore_13 rfl rfl ?_
    refine gf_X7_147 C g3 dX7_restore_14 ?_
    refine v_if_ne (tgt := 23) C dX7_restore_17 (by decide) (fun g => ?_) (fun g => ?_)
    · replace h := ite_t g h
      refine v_ldc C tw_553 dX7_restore_20 ?_
      replace h := Option.some.inj h; subst h
      subst hQ
      exact v_iret C hr hlk dX7_restore_22
    · replace h := ite_f g h
      refine v_aload_nR (j := 1) C dX7_restore_23 rfl rfl ?_
      refine gf_X7_25 C ks_0 dX7_restore_24 ?_
      refine v_aload_nR (j := 0) C dX7_restore_27 rfl rfl ?_
      replace h := bind_ex h; obtain ⟨r4, hr4, h⟩ := h
      refine cvN_V C tw_539 tw_105 tw_536 tw_538 tw_26 pd_X5_takeFrom (Nat.le_of_ble_eq_true rfl) (Nat.le_of_ble_eq_true rfl) (q := 4) (kd_lt ks_4 (by decide)) (sh5 ks_4) rfl (As := [.ref (B + a2)]) (rest := []) rfl rfl (Nat.le_of_ble_eq_true rfl) (c_X5_takeFrom l D cA B aK aV M 4 a2 ks_4 g3 r4 hr4) dX7_restore_28 ?_
      refine v_aload_nR (j := 1) C dX7_restore_31 rfl rfl ?_
      refine gf_X7_42 C ks_0 dX7_restore_32 ?_
      refine v_pc (pc' := 35) rfl ?_
      refine v_iconst C dX7_restore_35 ct_i_0 ?_
      replace h := nm_ex h; obtain ⟨M5, eM5, h⟩ := h
      refine pf_X7_155 C ks_26 dX7_restore_36 ?_
      refine v_mem eM5 ?_
      refine v_iconst C dX7_restore_39 ct_i_1 ?_
      replace h := Option.some.inj h; subst h
      subst hQ
      exact v_iret C hr hlk dX7_restore_40
def m_X7_kind (M : Mem) (x1 : Int32) : Option Int32 :=
  (m_X5_at M 4 x1).bind fun r1 => optC r1 (some (-1000001)) (fun a2 => chk (kdB a2 2) (some (M a2 1)))
set_option maxHeartbeats 4000000 in
set_option maxRecDepth 100000 in
theorem c_X7_kind (l : Launch) (D : va_G) (cA : cAt) (B : Nat) (aK aV : Nat → Nat) (M : Mem) (x1 : Int32) (R : Int32) (h : m_X7_kind M x1 = some R) : CI l D cA B aK aV yX7_kind cX7_kind 3 .int 1 [.ref (B + 0), .int x1] M R M := by
  refine CI_of (by decide +kernel) (Nat.le_of_ble_eq_true rfl) ?_
  intro p e s m args below meth c C hr hlk
  have C : Cx p (rmd 1) s m args c 0 0 D cA B aK aV cX7_kind 3 RX7 := C
  generalize hQ : MQ below _ args s 0 0 _ = Q
  refine v_eq (M' := M) (pc' := 0) (L' := [(0, .ref (B + 0)), (1, .int x1)]) (st' := []) ?_
  unfold m_X7_kind at h
  refine v_aload_nR (j := 0) C dX7_kind_0 rfl rfl ?_
  refine gf_X7_25 C ks_0 dX7_kind_1 ?_
  refine v_iload_n (j := 1) C dX7_kind_4 rfl rfl ?_
  replace h := bind_ex h; obtain ⟨r1, hr1, h⟩ := h
  refine cvN_Q C tw_534 tw_105 tw_634 tw_533 tw_25 pd_X5_at (Nat.le_of_ble_eq_true rfl) (Nat.le_of_ble_eq_true rfl) (q := 4) (kd_lt ks_4 (by decide)) (sh5 ks_4) rfl (As := [.int x1]) (rest := []) rfl rfl (Nat.le_of_ble_eq_true rfl) (c_X5_at l D cA B aK aV M 4 x1 ks_4 r1 hr1) dX7_kind_5 ?_
  refine v_astore_nO (L' := [(2, rv B r1), (0, .ref (B + 0)), (1, .int x1)]) C dX7_kind_8 rfl (by decide) rfl ?_
  refine v_aload_nO (j := 0) C dX7_kind_9 rfl rfl ?_
  refine v_pc (pc' := 10) rfl ?_
  replace h := optC_ex h
  rcases h with ⟨rfl, h⟩ | ⟨a2, rfl, h⟩
  · refine v_eq (M' := M) (pc' := 10) (L' := [(2, .null), (0, .ref (B + 0)), (1, .int x1)]) (st' := [.null]) ?_
    refine v_ifnonnullN C dX7_kind_10 ?_
    refine v_ldc C tw_343 dX7_kind_13 ?_
    refine v_goto (tgt := 22) C dX7_kind_15 (by decide) ?_
    replace h := Option.some.inj h; subst h
    subst hQ
    exact v_iret C hr hlk dX7_kind_22
  · replace h := chk_some h; obtain ⟨g3, h⟩ := h
    replace g3 := kdB_eq g3
    refine v_eq (M' := M) (pc' := 10) (L' := [(2, .ref (B + a2)), (0, .ref (B + 0)), (1, .int x1)]) (st' := [.ref (B + a2)]) ?_
    refine v_ifnonnullS (tgt := 18) C dX7_kind_10 (by decide) ?_
    refine v_aload_nR (j := 0) C dX7_kind_18 rfl rfl ?_
    refine gf_X7_274 C g3 dX7_kind_19 ?_
    replace h := Option.some.inj h; subst h
    subst hQ
    exact v_iret C hr hlk dX7_kind_22
def m_X7_as (M : Mem) (x1 : Int32) (x2 : Int32) : Option (Int32 × Mem) :=
  (m_X5_at M 4 x1).bind fun r1 => optC r1 (some (((-1000001), M))) (fun a2 => chk (kdB a2 2) (if x2 < 0 then (some (((-1000001), M))) else (if x2 ≤ 5 then ((m_X2_isOne M a2 x2).bind fun r4 => if r4 = 0 then ((m_X7_found M 3).bind fun r5 => some ((r5.1, r5.2))) else ((m_X7_nothingFound M x1).bind fun r6 => some ((r6.1, r6.2)))) else (some (((-1000001), M))))))
set_option maxHeartbeats 4000000 in
set_option maxRecDepth 100000 in
theorem c_X7_as (l : Launch) (D : va_G) (cA : cAt) (B : Nat) (aK aV : Nat → Nat) (M : Mem) (x1 : Int32) (x2 : Int32) (R : Int32 × Mem) (h : m_X7_as M x1 x2 = some R) : CI l D cA B aK aV yX7_as cX7_as 4 .int 1 [.ref (B + 0), .int x1, .int x2] M R.1 R.2 := by
  refine CI_of (by decide +kernel) (Nat.le_of_ble_eq_true rfl) ?_
  intro p e s m args below meth c C hr hlk
  have C : Cx p (rmd 1) s m args c 0 0 D cA B aK aV cX7_as 4 RX7 := C
  generalize hQ : MQ below _ args s 0 0 _ = Q
  refine v_eq (M' := M) (pc' := 0) (L' := [(0, .ref (B + 0)), (1, .int x1), (2, .int x2)]) (st' := []) ?_
  unfold m_X7_as at h
  refine v_aload_nR (j := 0) C dX7_as_0 rfl rfl ?_
  refine gf_X7_25 C ks_0 dX7_as_1 ?_
  refine v_iload_n (j := 1) C dX7_as_4 rfl rfl ?_
  replace h := bind_ex h; obtain ⟨r1, hr1, h⟩ := h
  refine cvN_Q C tw_534 tw_105 tw_634 tw_533 tw_25 pd_X5_at (Nat.le_of_ble_eq_true rfl) (Nat.le_of_ble_eq_true rfl) (q := 4) (kd_lt ks_4 (by decide)) (sh5 ks_4) rfl (As := [.int x1]) (rest := []) rfl rfl (Nat.le_of_ble_eq_true rfl) (c_X5_at l D cA B aK aV M 4 x1 ks_4 r1 hr1) dX7_as_5 ?_
  refine v_astore_nO (L' := [(3, rv B r1), (0, .ref (B + 0)), (1, .int x1), (2, .int x2)]) C dX7_as_8 rfl (by decide) rfl ?_
  refine v_aload_nO (j := 0) C dX7_as_9 rfl rfl ?_
  refine v_pc (pc' := 10) rfl ?_
  replace h := optC_ex h
  rcases h with ⟨rfl, h⟩ | ⟨a2, rfl, h⟩
  · refine v_eq (M' := M) (pc' := 10) (L' := [(3, .null), (0, .ref (B + 0)), (1, .int x1), (2, .int x2)]) (st' := [.null]) ?_
    refine v_ifnullN (tgt := 22) C dX7_as_10 (by decide) ?_
    refine v_ldc C tw_343 dX7_as_22 ?_
    replace h := Option.some.inj h; subst h
    subst hQ
    exact v_iret C hr hlk dX7_as_24
  · replace h := chk_some h; obtain ⟨g3, h⟩ := h
    replace g3 := kdB_eq g3
    refine v_eq (M' := M) (pc' := 10) (L' := [(3, .ref (B + a2)), (0, .ref (B + 0)), (1, .int x1), (2, .int x2)]) (st' := [.ref (B + a2)]) ?_
    refine v_ifnullS C dX7_as_10 ?_
    refine v_iload_n (j := 3) C dX7_as_13 rfl rfl ?_
    refine v_if_lt (tgt := 22) C dX7_as_14 (by decide) (fun g => ?_) (fun g => ?_)
    · replace h := ite_t g h
      refine v_ldc C tw_343 dX7_as_22 ?_
      replace h := Option.some.inj h; subst h
      subst hQ
      exact v_iret C hr hlk dX7_as_24
    · replace h := ite_f g h
      refine v_iload_n (j := 3) C dX7_as_17 rfl rfl ?_
      refine v_iconst C dX7_as_18 ct_i_5 ?_
      refine v_icmp_le (tgt := 25) C dX7_as_19 (by decide) (fun g => ?_) (fun g => ?_)
      · replace h := ite_t g h
        refine v_aload_nR (j := 0) C dX7_as_25 rfl rfl ?_
        refine v_iload_n (j := 3) C dX7_as_26 rfl rfl ?_
        replace h := bind_ex h; obtain ⟨r4, hr4, h⟩ := h
        refine cvN_I C tw_816 tw_106 tw_813 tw_815 tw_59 pd_X2_isOne (Nat.le_of_ble_eq_true rfl) (Nat.le_of_ble_eq_true rfl) (q := a2) (kd_lt g3 (by decide)) (sh2 g3) rfl (As := [.int x2]) (rest := []) rfl rfl (Nat.le_of_ble_eq_true rfl) (c_X2_isOne l D cA B aK aV M a2 x2 g3 r4 hr4) dX7_as_27 ?_
        refine v_if_eq (tgt := 41) C dX7_as_30 (by decide) (fun g => ?_) (fun g => ?_)
        · replace h := ite_t g h
          refine v_aload_nR (j := 1) C dX7_as_41 rfl rfl ?_
          refine v_iconst C dX7_as_42 ct_i_3 ?_
          replace h := bind_ex h; obtain ⟨r5, hr5, h⟩ := h
          refine cv_I C tw_347 tw_103 tw_344 tw_346 tw_1 pd_X7_found (Nat.le_of_ble_eq_true rfl) (Nat.le_of_ble_eq_true rfl) (q := 0) (kd_lt ks_0 (by decide)) (sh7 ks_0) rfl (As := [.int 3]) (rest := []) rfl rfl (Nat.le_of_ble_eq_true rfl) (c_X7_found l D cA B aK aV M 3 r5 hr5) dX7_as_43 ?_
          replace h := Option.some.inj h; subst h
          subst hQ
          exact v_iret C hr hlk dX7_as_46
        · replace h := ite_f g h
          refine v_aload_nR (j := 1) C dX7_as_33 rfl rfl ?_
          refine v_iload_n (j := 2) C dX7_as_34 rfl rfl ?_
          refine v_pc (pc' := 35) rfl ?_
          replace h := bind_ex h; obtain ⟨r6, hr6, h⟩ := h
          refine cv_I C tw_359 tw_103 tw_356 tw_358 tw_3 pd_X7_nothingFound (Nat.le_of_ble_eq_true rfl) (Nat.le_of_ble_eq_true rfl) (q := 0) (kd_lt ks_0 (by decide)) (sh7 ks_0) rfl (As := [.int x1]) (rest := []) rfl rfl (Nat.le_of_ble_eq_true rfl) (c_X7_nothingFound l D cA B aK aV M x1 r6 hr6) dX7_as_35 ?_
          refine v_goto (tgt := 46) C dX7_as_38 (by decide) ?_
          replace h := Option.some.inj h; subst h
          subst hQ
          exact v_iret C hr hlk dX7_as_46
      · replace h := ite_f g h
        refine v_ldc C tw_343 dX7_as_22 ?_
        refine v_pc (pc' := 24) rfl ?_
        replace h := Option.some.inj h; subst h
        subst hQ
        exact v_iret C hr hlk dX7_as_24
def m_X7_ask (M : Mem) (x1 : Int32) (x2 : Int32) : Option (Int32 × Mem) :=
  (m_X5_at M 4 x1).bind fun r1 => optC r1 (some (((-1000001), M))) (fun a2 => chk (kdB a2 2) ((m_X7_isEither M x2).bind fun r4 => if r4 = 0 then (some (((-1000001), M))) else (nm (mset M 202 1 0) fun M5 => if x2 = 0 then ((m_X1_askSize M5 a2).bind fun r7 => some ((r7.1, r7.2))) else ((m_X1_askMark M5 a2).bind fun r6 => some ((r6.1, r6.2))))))
set_option maxHeartbeats 4000000 in
set_option maxRecDepth 100000 in
theorem c_X7_ask (l : Launch) (D : va_G) (cA : cAt) (B : Nat) (aK aV : Nat → Nat) (M : Mem) (x1 : Int32) (x2 : Int32) (R : Int32 × Mem) (h : m_X7_ask M x1 x2 = some R) : CI l D cA B aK aV yX7_ask cX7_ask 4 .int 6 [.ref (B + 0), .int x1, .int x2] M R.1 R.2 := by
  refine CI_of (by decide +kernel) (Nat.le_of_ble_eq_true rfl) ?_
  intro p e s m args below meth c C hr hlk
  have C : Cx p (rmd 6) s m args c 0 0 D cA B aK aV cX7_ask 4 RX7 := C
  generalize hQ : MQ below _ args s 0 0 _ = Q
  refine v_eq (M' := M) (pc' := 0) (L' := [(0, .ref (B + 0)), (1, .int x1), (2, .int x2)]) (st' := []) ?_
  unfold m_X7_ask at h
  refine v_aload_nR (j := 0) C dX7_ask_0 rfl rfl ?_
  refine gf_X7_25 C ks_0 dX7_ask_1 ?_
  refine v_iload_n (j := 1) C dX7_ask_4 rfl rfl ?_
  replace h := bind_ex h; obtain ⟨r1, hr1, h⟩ := h
  refine cvN_Q C tw_534 tw_105 tw_634 tw_533 tw_25 pd_X5_at (Nat.le_of_ble_eq_true rfl) (Nat.le_of_ble_eq_true rfl) (q := 4) (kd_lt ks_4 (by decide)) (sh5 ks_4) rfl (As := [.int x1]) (rest := []) rfl rfl (Nat.le_of_ble_eq_true rfl) (c_X5_at l D cA B aK aV M 4 x1 ks_4 r1 hr1) dX7_ask_5 ?_
  refine v_astore_nO (L' := [(3, rv B r1), (0, .ref (B + 0)), (1, .int x1), (2, .int x2)]) C dX7_ask_8 rfl (by decide) rfl ?_
  refine v_aload_nO (j := 0) C dX7_ask_9 rfl rfl ?_
  refine v_pc (pc' := 10) rfl ?_
  replace h := optC_ex h
  rcases h with ⟨rfl, h⟩ | ⟨a2, rfl, h⟩
  · refine v_eq (M' := M) (pc' := 10) (L' := [(3, .null), (0, .ref (B + 0)), (1, .int x1), (2, .int x2)]) (st' := [.null]) ?_
    refine v_ifnullN (tgt := 20) C dX7_ask_10 (by decide) ?_
    refine v_ldc C tw_343 dX7_ask_20 ?_
    replace h := Option.some.inj h; subst h
    subst hQ
    exact v_iret C hr hlk dX7_ask_22
  · replace h := chk_some h; obtain ⟨g3, h⟩ := h
    replace g3 := kdB_eq g3
    refine v_eq (M' := M) (pc' := 10) (L' := [(3, .ref (B + a2)), (0, .ref (B + 0)), (1, .int x1), (2, .int x2)]) (st' := [.ref (B + a2)]) ?_
    refine v_ifnullS C dX7_ask_10 ?_
    refine v_iload_n (j := 3) C dX7_ask_13 rfl rfl ?_
    replace h := bind_ex h; obtain ⟨r4, hr4, h⟩ := h
    refine cs_I C tw_663 tw_103 tw_661 tw_662 pd_X7_isEither (Nat.le_of_ble_eq_true rfl) (Nat.le_of_ble_eq_true rfl) (As := [.int x2]) (rest := []) rfl rfl (Nat.le_of_ble_eq_true rfl) (c_X7_isEither l D cA B aK aV M x2 r4 hr4) dX7_ask_14 ?_
    refine v_if_ne (tgt := 23) C dX7_ask_17 (by decide) (fun g => ?_) (fun g => ?_)
    · replace h := ite_t g h
      refine v_ldc C tw_343 dX7_ask_20 ?_
      replace h := Option.some.inj h; subst h
      subst hQ
      exact v_iret C hr hlk dX7_ask_22
    · replace h := ite_f g h
      refine v_aload_nR (j := 1) C dX7_ask_23 rfl rfl ?_
      refine gf_X7_69 C ks_0 dX7_ask_24 ?_
      refine v_iconst C dX7_ask_27 ct_i_0 ?_
      replace h := nm_ex h; obtain ⟨M5, eM5, h⟩ := h
      refine pf_X7_280 C ks_202 dX7_ask_28 ?_
      refine v_mem eM5 ?_
      refine v_iload_n (j := 3) C dX7_ask_31 rfl rfl ?_
      refine v_if_ne (tgt := 46) C dX7_ask_32 (by decide) (fun g => ?_) (fun g => ?_)
      · replace h := ite_t g h
        refine v_pc (pc' := 35) rfl ?_
        refine v_aload_nR (j := 1) C dX7_ask_35 rfl rfl ?_
        refine gf_X7_69 C ks_0 dX7_ask_36 ?_
        refine v_aload_nR (j := 0) C dX7_ask_39 rfl rfl ?_
        replace h := bind_ex h; obtain ⟨r7, hr7, h⟩ := h
        refine cvN_I C tw_824 tw_109 tw_821 tw_823 tw_60 pd_X1_askSize (Nat.le_of_ble_eq_true rfl) (Nat.le_of_ble_eq_true rfl) (q := 202) (kd_lt ks_202 (by decide)) (sh1 ks_202) rfl (As := [.ref (B + a2)]) (rest := []) rfl rfl (Nat.le_of_ble_eq_true rfl) (c_X1_askSize l D cA B aK aV M5 a2 g3 r7 hr7) dX7_ask_40 ?_
        refine v_goto (tgt := 54) C dX7_ask_43 (by decide) ?_
        replace h := Option.some.inj h; subst h
        subst hQ
        exact v_iret C hr hlk dX7_ask_54
      · replace h := ite_f g h
        refine v_aload_nR (j := 1) C dX7_ask_46 rfl rfl ?_
        refine gf_X7_69 C ks_0 dX7_ask_47 ?_
        refine v_aload_nR (j := 0) C dX7_ask_50 rfl rfl ?_
        replace h := bind_ex h; obtain ⟨r6, hr6, h⟩ := h
        refine cvN_I C tw_860 tw_109 tw_857 tw_859 tw_69 pd_X1_askMark (Nat.le_of_ble_eq_true rfl) (Nat.le_of_ble_eq_true rfl) (q := 202) (kd_lt ks_202 (by decide)) (sh1 ks_202) rfl (As := [.ref (B + a2)]) (rest := []) rfl rfl (Nat.le_of_ble_eq_true rfl) (c_X1_askMark l D cA B aK aV M5 a2 g3 r6 hr6) dX7_ask_51 ?_
        replace h := Option.some.inj h; subst h
        subst hQ
        exact v_iret C hr hlk dX7_ask_54
def m_X7_trace (M : Mem) (x1 : Int32) : Option Int32 :=
  (m_X1_bodyAt M x1).bind fun r1 => some r1
set_option maxHeartbeats 4000000 in
set_option maxRecDepth 100000 in
theorem c_X7_trace (l : Launch) (D : va_G) (cA : cAt) (B : Nat) (aK aV : Nat → Nat) (M : Mem) (x1 : Int32) (R : Int32) (h : m_X7_trace M x1 = some R) : CI l D cA B aK aV yX7_trace cX7_trace 2 .int 1 [.ref (B + 0), .int x1] M R M := by
  refine CI_of (by decide +kernel) (Nat.le_of_ble_eq_true rfl) ?_
  intro p e s m args below meth c C hr hlk
  have C : Cx p (rmd 1) s m args c 0 0 D cA B aK aV cX7_trace 2 RX7 := C
  generalize hQ : MQ below _ args s 0 0 _ = Q
  refine v_eq (M' := M) (pc' := 0) (L' := [(0, .ref (B + 0)), (1, .int x1)]) (st' := []) ?_
  unfold m_X7_trace at h
  refine v_aload_nR (j := 0) C dX7_trace_0 rfl rfl ?_
  refine gf_X7_69 C ks_0 dX7_trace_1 ?_
  refine v_iload_n (j := 1) C dX7_trace_4 rfl rfl ?_
  replace h := bind_ex h; obtain ⟨r1, hr1, h⟩ := h
  refine cvN_I C tw_868 tw_109 tw_865 tw_867 tw_70 pd_X1_bodyAt (Nat.le_of_ble_eq_true rfl) (Nat.le_of_ble_eq_true rfl) (q := 202) (kd_lt ks_202 (by decide)) (sh1 ks_202) rfl (As := [.int x1]) (rest := []) rfl rfl (Nat.le_of_ble_eq_true rfl) (c_X1_bodyAt l D cA B aK aV M x1 r1 hr1) dX7_trace_5 ?_
  replace h := Option.some.inj h; subst h
  subst hQ
  exact v_iret C hr hlk dX7_trace_8
def b_X7_countRows_4 (M : Mem) (x1 : Int32) (x2 : Int32) : Option ((Int32 × Int32) ⊕ Int32) :=
  if 8 ≤ x2 then (some (.inr x1)) else ((m_X7_rowAt M x2).bind fun r1 => optC r1 (some (.inl (x1, x2 + 1))) (fun a2 => chk (kdB a2 4) ((m_X4_isMissing M a2).bind fun r4 => if r4 = 0 then (some (.inl (x1 + 1, x2 + 1))) else (some (.inl (x1, x2 + 1))))))
def m_X7_countRows (M : Mem) : Option Int32 :=
  (loopF (fun z => b_X7_countRows_4 M z.1 z.2) FUEL (0, 0)).bind fun z5 => some z5
set_option maxHeartbeats 4000000 in
set_option maxRecDepth 100000 in
theorem c_X7_countRows (l : Launch) (D : va_G) (cA : cAt) (B : Nat) (aK aV : Nat → Nat) (M : Mem) (R : Int32) (h : m_X7_countRows M = some R) : CI l D cA B aK aV yX7_countRows cX7_countRows 4 .int 1 [.ref (B + 0)] M R M := by
  refine CI_of (by decide +kernel) (Nat.le_of_ble_eq_true rfl) ?_
  intro p e s m args below meth c C hr hlk
  have C : Cx p (rmd 1) s m args c 0 0 D cA B aK aV cX7_countRows 4 RX7 := C
  generalize hQ : MQ below _ args s 0 0 _ = Q
  refine v_eq (M' := M) (pc' := 0) (L' := [(0, .ref (B + 0))]) (st' := []) ?_
  unfold m_X7_countRows at h
  refine v_iconst C dX7_countRows_0 ct_i_0 ?_
  refine v_istore_n (L' := [(1, .int 0), (0, .ref (B + 0))]) C dX7_countRows_1 rfl (by decide) rfl ?_
  refine v_iconst C dX7_countRows_2 ct_i_0 ?_
  refine v_istore_n (L' := [(2, .int 0), (1, .int 0), (0, .ref (B + 0))]) C dX7_countRows_3 rfl (by decide) rfl ?_
  have LB4 : ∀  (x1 : Int32) (x2 : Int32) (o4 : (Int32 × Int32) ⊕ Int32) (h : b_X7_countRows_4 M x1 x2 = some o4) (hc4 : ∀ z : Int32 × Int32, o4 = .inl z → V p l e (rmd 1) s m args below meth c 0 0 D cA B 4 Q M 4 [(0, .ref (B + 0)), (1, .int z.1), (2, .int z.2)] []) (he4 : ∀ z : Int32, o4 = .inr z → V p l e (rmd 1) s m args below meth c 0 0 D cA B 4 Q M 39 [(1, .int z)] []), V p l e (rmd 1) s m args below meth c 0 0 D cA B 4 Q M 4 [(0, .ref (B + 0)), (1, .int x1), (2, .int x2)] [] := by
    intro x1 x2 o4 h hc4 he4
    unfold b_X7_countRows_4 at h
    refine v_iload_n (j := 2) C dX7_countRows_4 rfl rfl ?_
    refine v_aload_nR (j := 0) C dX7_countRows_5 rfl rfl ?_
    refine gf_X7_11 C ks_0 dX7_countRows_6 ?_
    refine v_alenQ12 C ks_1 dX7_countRows_9 ?_
    refine v_icmp_ge (tgt := 39) C dX7_countRows_10 (by decide) (fun g => ?_) (fun g => ?_)
    · replace h := ite_t g h
      replace h := Option.some.inj h; subst h
      refine v_sub [1] rfl ?_
      exact he4 x1 rfl
    · replace h := ite_f g h
      refine v_aload_nR (j := 0) C dX7_countRows_13 rfl rfl ?_
      refine v_pc (pc' := 14) rfl ?_
      refine v_iload_n (j := 2) C dX7_countRows_14 rfl rfl ?_
      replace h := bind_ex h; obtain ⟨r1, hr1, h⟩ := h
      refine cv_Q C tw_342 tw_103 tw_339 tw_341 tw_0 pd_X7_rowAt (Nat.le_of_ble_eq_true rfl) (Nat.le_of_ble_eq_true rfl) (q := 0) (kd_lt ks_0 (by decide)) (sh7 ks_0) rfl (As := [.int x2]) (rest := []) rfl rfl (Nat.le_of_ble_eq_true rfl) (c_X7_rowAt l D cA B aK aV M x2 r1 hr1) dX7_countRows_15 ?_
      refine v_astore_nO (L' := [(3, rv B r1), (0, .ref (B + 0)), (1, .int x1), (2, .int x2)]) C dX7_countRows_18 rfl (by decide) rfl ?_
      refine v_aload_nO (j := 0) C dX7_countRows_19 rfl rfl ?_
      replace h := optC_ex h
      rcases h with ⟨rfl, h⟩ | ⟨a2, rfl, h⟩
      · refine v_eq (M' := M) (pc' := 20) (L' := [(3, .null), (0, .ref (B + 0)), (1, .int x1), (2, .int x2)]) (st' := [.null]) ?_
        refine v_ifnullN (tgt := 33) C dX7_countRows_20 (by decide) ?_
        refine v_iinc (j := 3) (L' := [(2, .int (x2 + 1)), (3, .null), (0, .ref (B + 0)), (1, .int x1)]) C dX7_countRows_33 rfl (congrArg (fun z => _ + z) ct_i_1) (by decide) rfl ?_
        refine v_goto (tgt := 4) C dX7_countRows_36 (by decide) ?_
        replace h := Option.some.inj h; subst h
        refine v_sub [2, 3, 0] rfl ?_
        exact hc4 (x1, x2 + 1) rfl
      · replace h := chk_some h; obtain ⟨g3, h⟩ := h
        replace g3 := kdB_eq g3
        refine v_eq (M' := M) (pc' := 20) (L' := [(3, .ref (B + a2)), (0, .ref (B + 0)), (1, .int x1), (2, .int x2)]) (st' := [.ref (B + a2)]) ?_
        refine v_ifnullS C dX7_countRows_20 ?_
        refine v_aload_nR (j := 0) C dX7_countRows_23 rfl rfl ?_
        replace h := bind_ex h; obtain ⟨r4, hr4, h⟩ := h
        refine cvN_I C tw_367 tw_110 tw_364 tw_366 tw_4 pd_X4_isMissing (Nat.le_of_ble_eq_true rfl) (Nat.le_of_ble_eq_true rfl) (q := a2) (kd_lt g3 (by decide)) (sh4 g3) rfl (As := []) (rest := []) rfl rfl (Nat.le_of_ble_eq_true rfl) (c_X4_isMissing l D cA B aK aV M a2 g3 r4 hr4) dX7_countRows_24 ?_
        refine v_if_ne (tgt := 33) C dX7_countRows_27 (by decide) (fun g => ?_) (fun g => ?_)
        · replace h := ite_t g h
          refine v_iinc (j := 2) (L' := [(1, .int (x1 + 1)), (3, .ref (B + a2)), (0, .ref (B + 0)), (2, .int x2)]) C dX7_countRows_30 rfl (congrArg (fun z => _ + z) ct_i_1) (by decide) rfl ?_
          refine v_iinc (j := 3) (L' := [(2, .int (x2 + 1)), (1, .int (x1 + 1)), (3, .ref (B + a2)), (0, .ref (B + 0))]) C dX7_countRows_33 rfl (congrArg (fun z => _ + z) ct_i_1) (by decide) rfl ?_
          refine v_goto (tgt := 4) C dX7_countRows_36 (by decide) ?_
          replace h := Option.some.inj h; subst h
          refine v_sub [3, 1, 0] rfl ?_
          exact hc4 (x1 + 1, x2 + 1) rfl
        · replace h := ite_f g h
          refine v_iinc (j := 3) (L' := [(2, .int (x2 + 1)), (3, .ref (B + a2)), (0, .ref (B + 0)), (1, .int x1)]) C dX7_countRows_33 rfl (congrArg (fun z => _ + z) ct_i_1) (by decide) rfl ?_
          refine v_goto (tgt := 4) C dX7_countRows_36 (by decide) ?_
          replace h := Option.some.inj h; subst h
          refine v_sub [2, 3, 0] rfl ?_
          exact hc4 (x1, x2 + 1) rfl
  replace h := bind_ex h; obtain ⟨z5, hz5, h⟩ := h
  refine v_sub [2, 1, 0] rfl ?_
  refine loopF_walk (Pσ := fun z => V p l e (rmd 1) s m args below meth c 0 0 D cA B 4 Q M 4 [(0, .ref (B + 0)), (1, .int z.1), (2, .int z.2)] []) (Pρ := fun y => V p l e (rmd 1) s m args below meth c 0 0 D cA B 4 Q M 39 [(1, .int y)] []) ?_ FUEL (0, 0) z5 hz5 ?_
  · intro z o hb hc he
    exact LB4 z.1 z.2 o hb hc he
  · refine v_iload_n (j := 0) C dX7_countRows_39 rfl rfl ?_
    replace h := Option.some.inj h; subst h
    subst hQ
    exact v_iret C hr hlk dX7_countRows_40
def m_X7_count (M : Mem) (x1 : Int32) : Option Int32 :=
  if x1 = 0 then ((m_X7_countRows M).bind fun r10 => some r10) else (if x1 = 1 then (some (M 4 4)) else (if x1 = 2 then ((m_J6_bitCount_0f7a4 M (M 4 3)).bind fun r9 => some r9) else (if x1 = 3 then (some (M 4 2)) else (if x1 = 4 then (some (M 26 1)) else (if x1 = 5 then ((m_X5_allPennies M 4).bind fun r8 => some r8) else (if x1 = 6 then (some (M 2 1)) else (some (-1000001))))))))
set_option maxHeartbeats 4000000 in
set_option maxRecDepth 100000 in
theorem c_X7_count (l : Launch) (D : va_G) (cA : cAt) (B : Nat) (aK aV : Nat → Nat) (M : Mem) (x1 : Int32) (R : Int32) (h : m_X7_count M x1 = some R) : CI l D cA B aK aV yX7_count cX7_count 2 .int 2 [.ref (B + 0), .int x1] M R M := by
  refine CI_of (by decide +kernel) (Nat.le_of_ble_eq_true rfl) ?_
  intro p e s m args below meth c C hr hlk
  have C : Cx p (rmd 2) s m args c 0 0 D cA B aK aV cX7_count 2 RX7 := C
  generalize hQ : MQ below _ args s 0 0 _ = Q
  refine v_eq (M' := M) (pc' := 0) (L' := [(0, .ref (B + 0)), (1, .int x1)]) (st' := []) ?_
  unfold m_X7_count at h
  refine v_iload_n (j := 1) C dX7_count_0 rfl rfl ?_
  by_cases g1 : x1 = 0
  · replace h := ite_t g1 h
    refine v_tableIn (off := 43) (tgt := 44) C dX7_count_1 (by rw [g1]; decide) (by rw [g1]; decide) (by rw [g1] <;> rfl) (by decide) ?_
    refine v_aload_nR (j := 0) C dX7_count_44 rfl rfl ?_
    replace h := bind_ex h; obtain ⟨r10, hr10, h⟩ := h
    refine cv_I C tw_877 tw_103 tw_874 tw_876 tw_71 pd_X7_countRows (Nat.le_of_ble_eq_true rfl) (Nat.le_of_ble_eq_true rfl) (q := 0) (kd_lt ks_0 (by decide)) (sh7 ks_0) rfl (As := []) (rest := []) rfl rfl (Nat.le_of_ble_eq_true rfl) (c_X7_countRows l D cA B aK aV M r10 hr10) dX7_count_45 ?_
    replace h := Option.some.inj h; subst h
    subst hQ
    exact v_iret C hr hlk dX7_count_48
  · replace h := ite_f g1 h
    by_cases g2 : x1 = 1
    · replace h := ite_t g2 h
      refine v_tableIn (off := 48) (tgt := 49) C dX7_count_1 (by rw [g2]; decide) (by rw [g2]; decide) (by rw [g2] <;> rfl) (by decide) ?_
      refine v_aload_nR (j := 0) C dX7_count_49 rfl rfl ?_
      refine gf_X7_25 C ks_0 dX7_count_50 ?_
      refine gf_X7_158 C ks_4 dX7_count_53 ?_
      replace h := Option.some.inj h; subst h
      subst hQ
      exact v_iret C hr hlk dX7_count_56
    · replace h := ite_f g2 h
      by_cases g3 : x1 = 2
      · replace h := ite_t g3 h
        refine v_tableIn (off := 56) (tgt := 57) C dX7_count_1 (by rw [g3]; decide) (by rw [g3]; decide) (by rw [g3] <;> rfl) (by decide) ?_
        refine v_aload_nR (j := 0) C dX7_count_57 rfl rfl ?_
        refine gf_X7_25 C ks_0 dX7_count_58 ?_
        refine gf_X7_296 C ks_4 dX7_count_61 ?_
        replace h := bind_ex h; obtain ⟨r9, hr9, h⟩ := h
        refine cs_I C tw_715 tw_119 tw_713 tw_714 pd_J6_bitCount_0f7a4 (Nat.le_of_ble_eq_true rfl) (Nat.le_of_ble_eq_true rfl) (As := [.int (M 4 3)]) (rest := []) rfl rfl (Nat.le_of_ble_eq_true rfl) (c_J6_bitCount_0f7a4 l D cA B aK aV M (M 4 3) r9 hr9) dX7_count_64 ?_
        replace h := Option.some.inj h; subst h
        subst hQ
        exact v_iret C hr hlk dX7_count_67
      · replace h := ite_f g3 h
        by_cases g4 : x1 = 3
        · replace h := ite_t g4 h
          refine v_tableIn (off := 67) (tgt := 68) C dX7_count_1 (by rw [g4]; decide) (by rw [g4]; decide) (by rw [g4] <;> rfl) (by decide) ?_
          refine v_aload_nR (j := 0) C dX7_count_68 rfl rfl ?_
          refine gf_X7_25 C ks_0 dX7_count_69 ?_
          refine gf_X7_216 C ks_4 dX7_count_72 ?_
          replace h := Option.some.inj h; subst h
          subst hQ
          exact v_iret C hr hlk dX7_count_75
        · replace h := ite_f g4 h
          by_cases g5 : x1 = 4
          · replace h := ite_t g5 h
            refine v_tableIn (off := 75) (tgt := 76) C dX7_count_1 (by rw [g5]; decide) (by rw [g5]; decide) (by rw [g5] <;> rfl) (by decide) ?_
            refine v_aload_nR (j := 0) C dX7_count_76 rfl rfl ?_
            refine gf_X7_42 C ks_0 dX7_count_77 ?_
            refine gf_X7_155 C ks_26 dX7_count_80 ?_
            replace h := Option.some.inj h; subst h
            subst hQ
            exact v_iret C hr hlk dX7_count_83
          · replace h := ite_f g5 h
            by_cases g6 : x1 = 5
            · replace h := ite_t g6 h
              refine v_tableIn (off := 83) (tgt := 84) C dX7_count_1 (by rw [g6]; decide) (by rw [g6]; decide) (by rw [g6] <;> rfl) (by decide) ?_
              refine v_aload_nR (j := 0) C dX7_count_84 rfl rfl ?_
              refine gf_X7_25 C ks_0 dX7_count_85 ?_
              replace h := bind_ex h; obtain ⟨r8, hr8, h⟩ := h
              refine cvN_I C tw_881 tw_105 tw_878 tw_880 tw_72 pd_X5_allPennies (Nat.le_of_ble_eq_true rfl) (Nat.le_of_ble_eq_true rfl) (q := 4) (kd_lt ks_4 (by decide)) (sh5 ks_4) rfl (As := []) (rest := []) rfl rfl (Nat.le_of_ble_eq_true rfl) (c_X5_allPennies l D cA B aK aV M 4 ks_4 r8 hr8) dX7_count_88 ?_
              replace h := Option.some.inj h; subst h
              subst hQ
              exact v_iret C hr hlk dX7_count_91
            · replace h := ite_f g6 h
              by_cases g7 : x1 = 6
              · replace h := ite_t g7 h
                refine v_tableIn (off := 91) (tgt := 92) C dX7_count_1 (by rw [g7]; decide) (by rw [g7]; decide) (by rw [g7] <;> rfl) (by decide) ?_
                refine v_aload_nR (j := 0) C dX7_count_92 rfl rfl ?_
                refine gf_X7_18 C ks_0 dX7_count_93 ?_
                refine gf_X7_127 C ks_2 dX7_count_96 ?_
                replace h := Option.some.inj h; subst h
                subst hQ
                exact v_iret C hr hlk dX7_count_99
              · replace h := ite_f g7 h
                refine v_tableOut (tgt := 100) C dX7_count_1 (by have t0 := sw_ne (k := 0) g1; have t1 := sw_ne (k := 1) g2; have t2 := sw_ne (k := 2) g3; have t3 := sw_ne (k := 3) g4; have t4 := sw_ne (k := 4) g5; have t5 := sw_ne (k := 5) g6; have t6 := sw_ne (k := 6) g7; have u0 : (0 : Int32).toInt = 0 := (by decide); have u1 : (1 : Int32).toInt = 1 := (by decide); have u2 : (2 : Int32).toInt = 2 := (by decide); have u3 : (3 : Int32).toInt = 3 := (by decide); have u4 : (4 : Int32).toInt = 4 := (by decide); have u5 : (5 : Int32).toInt = 5 := (by decide); have u6 : (6 : Int32).toInt = 6 := (by decide); omega) (by decide) ?_
                refine v_ldc C tw_343 dX7_count_100 ?_
                replace h := Option.some.inj h; subst h
                subst hQ
                exact v_iret C hr hlk dX7_count_102
def m_X7_status (M : Mem) : Option Int32 :=
  some (M 0 14)
set_option maxHeartbeats 4000000 in
set_option maxRecDepth 100000 in
theorem c_X7_status (l : Launch) (D : va_G) (cA : cAt) (B : Nat) (aK aV : Nat → Nat) (M : Mem) (R : Int32) (h : m_X7_status M = some R) : CI l D cA B aK aV yX7_status cX7_status 1 .int 0 [.ref (B + 0)] M R M := by
  refine CI_of (by decide +kernel) (Nat.le_of_ble_eq_true rfl) ?_
  intro p e s m args below meth c C hr hlk
  have C : Cx p (rmd 0) s m args c 0 0 D cA B aK aV cX7_status 1 RX7 := C
  generalize hQ : MQ below _ args s 0 0 _ = Q
  refine v_eq (M' := M) (pc' := 0) (L' := [(0, .ref (B + 0))]) (st' := []) ?_
  unfold m_X7_status at h
  refine v_aload_nR (j := 0) C dX7_status_0 rfl rfl ?_
  refine gf_X7_302 C ks_0 dX7_status_1 ?_
  replace h := Option.some.inj h; subst h
  subst hQ
  exact v_iret C hr hlk dX7_status_4
def m_X8_in (M : Mem) (x0 : Int64) (x2 : Int64) (x4 : Int64) : Option Int32 :=
  if (lg_cmp x0 x2) < 0 then (some 0) else (if 0 < (lg_cmp x0 x4) then (some 0) else (some 1))
set_option maxHeartbeats 4000000 in
set_option maxRecDepth 100000 in
theorem c_X8_in (l : Launch) (D : va_G) (cA : cAt) (B : Nat) (aK aV : Nat → Nat) (M : Mem) (x0 : Int64) (x2 : Int64) (x4 : Int64) (R : Int32) (h : m_X8_in M x0 x2 x4 = some R) : CI l D cA B aK aV yX8_in cX8_in 6 .boolean 0 [.long x0, .long x2, .long x4] M R M := by
  refine CI_of (by decide +kernel) (Nat.le_of_ble_eq_true rfl) ?_
  intro p e s m args below meth c C hr hlk
  have C : Cx p (rmd 0) s m args c 0 0 D cA B aK aV cX8_in 6 RX8 := C
  generalize hQ : MQ below _ args s 0 0 _ = Q
  refine v_eq (M' := M) (pc' := 0) (L' := [(0, .long x0), (2, .long x2), (4, .long x4)]) (st' := []) ?_
  unfold m_X8_in at h
  refine v_lload_n (j := 0) C dX8_in_0 rfl rfl ?_
  refine v_lload_n (j := 1) C dX8_in_1 rfl rfl ?_
  refine v_lcmp C dX8_in_2 ?_
  refine v_if_lt (tgt := 17) C dX8_in_3 (by decide) (fun g => ?_) (fun g => ?_)
  · replace h := ite_t g h
    refine v_iconst C dX8_in_17 ct_i_0 ?_
    replace h := Option.some.inj h; subst h
    subst hQ
    exact v_zret C hr hlk (show narrow .boolean (.int 0) = .int 0 from rfl) dX8_in_18
  · replace h := ite_f g h
    refine v_lload_n (j := 0) C dX8_in_6 rfl rfl ?_
    refine v_lload (j := 2) C dX8_in_7 rfl ?_
    refine v_pc (pc' := 9) rfl ?_
    refine v_lcmp C dX8_in_9 ?_
    refine v_if_gt (tgt := 17) C dX8_in_10 (by decide) (fun g => ?_) (fun g => ?_)
    · replace h := ite_t g h
      refine v_iconst C dX8_in_17 ct_i_0 ?_
      replace h := Option.some.inj h; subst h
      subst hQ
      exact v_zret C hr hlk (show narrow .boolean (.int 0) = .int 0 from rfl) dX8_in_18
    · replace h := ite_f g h
      refine v_iconst C dX8_in_13 ct_i_1 ?_
      refine v_goto (tgt := 18) C dX8_in_14 (by decide) ?_
      replace h := Option.some.inj h; subst h
      subst hQ
      exact v_zret C hr hlk (show narrow .boolean (.int 1) = .int 1 from rfl) dX8_in_18
def m_X8_finds (M : Mem) (x1 : Int32) : Option (Int32 × Mem) :=
  nm (mset M 234 0 x1) fun M1 => some (((-1000010) - x1, M1))
set_option maxHeartbeats 4000000 in
set_option maxRecDepth 100000 in
theorem c_X8_finds (l : Launch) (D : va_G) (cA : cAt) (B : Nat) (aK aV : Nat → Nat) (M : Mem) (x1 : Int32) (R : Int32 × Mem) (h : m_X8_finds M x1 = some R) : CI l D cA B aK aV yX8_finds cX8_finds 2 .int 0 [.ref (B + 234), .int x1] M R.1 R.2 := by
  refine CI_of (by decide +kernel) (Nat.le_of_ble_eq_true rfl) ?_
  intro p e s m args below meth c C hr hlk
  have C : Cx p (rmd 0) s m args c 0 0 D cA B aK aV cX8_finds 2 RX8 := C
  generalize hQ : MQ below _ args s 0 0 _ = Q
  refine v_eq (M' := M) (pc' := 0) (L' := [(0, .ref (B + 234)), (1, .int x1)]) (st' := []) ?_
  unfold m_X8_finds at h
  refine v_aload_nR (j := 0) C dX8_finds_0 rfl rfl ?_
  refine v_iload_n (j := 1) C dX8_finds_1 rfl rfl ?_
  replace h := nm_ex h; obtain ⟨M1, eM1, h⟩ := h
  refine pf_X8_53 C ks_234 dX8_finds_2 ?_
  refine v_mem eM1 ?_
  refine v_ldc C tw_986 dX8_finds_5 ?_
  refine v_iload_n (j := 1) C dX8_finds_7 rfl rfl ?_
  refine v_isub C dX8_finds_8 ?_
  refine v_pc (pc' := 9) rfl ?_
  replace h := Option.some.inj h; subst h
  subst hQ
  exact v_iret C hr hlk dX8_finds_9
def m_X8_well (M : Mem) (x1 : Int32) : Option (Int32 × Mem) :=
  nm (mset M 234 0 0) fun M1 => some ((x1, M1))
set_option maxHeartbeats 4000000 in
set_option maxRecDepth 100000 in
theorem c_X8_well (l : Launch) (D : va_G) (cA : cAt) (B : Nat) (aK aV : Nat → Nat) (M : Mem) (x1 : Int32) (R : Int32 × Mem) (h : m_X8_well M x1 = some R) : CI l D cA B aK aV yX8_well cX8_well 2 .int 0 [.ref (B + 234), .int x1] M R.1 R.2 := by
  refine CI_of (by decide +kernel) (Nat.le_of_ble_eq_true rfl) ?_
  intro p e s m args below meth c C hr hlk
  have C : Cx p (rmd 0) s m args c 0 0 D cA B aK aV cX8_well 2 RX8 := C
  generalize hQ : MQ below _ args s 0 0 _ = Q
  refine v_eq (M' := M) (pc' := 0) (L' := [(0, .ref (B + 234)), (1, .int x1)]) (st' := []) ?_
  unfold m_X8_well at h
  refine v_aload_nR (j := 0) C dX8_well_0 rfl rfl ?_
  refine v_iconst C dX8_well_1 ct_i_0 ?_
  replace h := nm_ex h; obtain ⟨M1, eM1, h⟩ := h
  refine pf_X8_53 C ks_234 dX8_well_2 ?_
  refine v_mem eM1 ?_
  refine v_iload_n (j := 1) C dX8_well_5 rfl rfl ?_
  replace h := Option.some.inj h; subst h
  subst hQ
  exact v_iret C hr hlk dX8_well_6
def b_X8_row_60 (M : Mem) (x1 : Int32) (x3 : Int32) (x4 : Int32) : Option ((Int32 × Mem) ⊕ Mem) :=
  if 40 ≤ x4 then (some (.inr M)) else (chk (inB ((40 * x1) + x4) 320) (nm (mset M 237 ((40 * x1) + x4).toNatClampNeg 0) fun M8 => some (.inl (x4 + 1, M8))))
def m_X8_row (M : Mem) (x1 : Int32) (x2 : Int32) (x3 : Int32) : Option (Int32 × Mem) :=
  (m_X8_in M x1.toInt64 0 7).bind fun r1 => if r1 = 0 then (some (((-1000001), M))) else ((m_X8_in M x2.toInt64 0 2).bind fun r2 => if r2 = 0 then (some (((-1000001), M))) else (if x3 ≤ 40 then (if 0 ≤ x3 then (chk (inB x1 8) (nm (mset M 235 x1.toNatClampNeg x2) fun M4 => chk (inB x1 8) (nm (mset M4 236 x1.toNatClampNeg x3) fun M6 => (loopF (fun z => b_X8_row_60 z.2 x1 x3 z.1) FUEL (0, M6)).bind fun z9 => (m_X8_well z9 x3).bind fun r10 => some ((r10.1, r10.2))))) else ((m_X8_finds M 4).bind fun r11 => some ((r11.1, r11.2)))) else (some (((-1000001), M)))))
set_option maxHeartbeats 4000000 in
set_option maxRecDepth 100000 in
theorem c_X8_row (l : Launch) (D : va_G) (cA : cAt) (B : Nat) (aK aV : Nat → Nat) (M : Mem) (x1 : Int32) (x2 : Int32) (x3 : Int32) (R : Int32 × Mem) (h : m_X8_row M x1 x2 x3 = some R) : CI l D cA B aK aV yX8_row cX8_row 5 .int 1 [.ref (B + 234), .int x1, .int x2, .int x3] M R.1 R.2 := by
  refine CI_of (by decide +kernel) (Nat.le_of_ble_eq_true rfl) ?_
  intro p e s m args below meth c C hr hlk
  have C : Cx p (rmd 1) s m args c 0 0 D cA B aK aV cX8_row 5 RX8 := C
  generalize hQ : MQ below _ args s 0 0 _ = Q
  refine v_eq (M' := M) (pc' := 0) (L' := [(0, .ref (B + 234)), (1, .int x1), (2, .int x2), (3, .int x3)]) (st' := []) ?_
  unfold m_X8_row at h
  refine v_iload_n (j := 1) C dX8_row_0 rfl rfl ?_
  refine v_i2l C dX8_row_1 ?_
  refine v_lconst (v := 0) C dX8_row_2 rfl ?_
  refine v_ldc2 C tw_976 dX8_row_3 ?_
  replace h := bind_ex h; obtain ⟨r1, hr1, h⟩ := h
  refine cs_I C tw_979 tw_111 tw_977 tw_978 pd_X8_in (Nat.le_of_ble_eq_true rfl) (Nat.le_of_ble_eq_true rfl) (As := [.long x1.toInt64, .long 0, .long 7]) (rest := []) rfl rfl (Nat.le_of_ble_eq_true rfl) (c_X8_in l D cA B aK aV M x1.toInt64 0 7 r1 hr1) dX8_row_6 ?_
  refine v_if_eq (tgt := 30) C dX8_row_9 (by decide) (fun g => ?_) (fun g => ?_)
  · replace h := ite_t g h
    refine v_ldc C tw_981 dX8_row_30 ?_
    replace h := Option.some.inj h; subst h
    subst hQ
    exact v_iret C hr hlk dX8_row_32
  · replace h := ite_f g h
    refine v_pc (pc' := 12) rfl ?_
    refine v_iload_n (j := 2) C dX8_row_12 rfl rfl ?_
    refine v_i2l C dX8_row_13 ?_
    refine v_lconst (v := 0) C dX8_row_14 rfl ?_
    refine v_ldc2 C tw_980 dX8_row_15 ?_
    replace h := bind_ex h; obtain ⟨r2, hr2, h⟩ := h
    refine cs_I C tw_979 tw_111 tw_977 tw_978 pd_X8_in (Nat.le_of_ble_eq_true rfl) (Nat.le_of_ble_eq_true rfl) (As := [.long x2.toInt64, .long 0, .long 2]) (rest := []) rfl rfl (Nat.le_of_ble_eq_true rfl) (c_X8_in l D cA B aK aV M x2.toInt64 0 2 r2 hr2) dX8_row_18 ?_
    refine v_if_eq (tgt := 30) C dX8_row_21 (by decide) (fun g => ?_) (fun g => ?_)
    · replace h := ite_t g h
      refine v_ldc C tw_981 dX8_row_30 ?_
      replace h := Option.some.inj h; subst h
      subst hQ
      exact v_iret C hr hlk dX8_row_32
    · replace h := ite_f g h
      refine v_iload_n (j := 3) C dX8_row_24 rfl rfl ?_
      refine v_pc (pc' := 25) rfl ?_
      refine v_bipush C dX8_row_25 ct_b_40 ?_
      refine v_icmp_le (tgt := 33) C dX8_row_27 (by decide) (fun g => ?_) (fun g => ?_)
      · replace h := ite_t g h
        refine v_iload_n (j := 3) C dX8_row_33 rfl rfl ?_
        refine v_if_ge (tgt := 43) C dX8_row_34 (by decide) (fun g => ?_) (fun g => ?_)
        · replace h := ite_t g h
          refine v_aload_nR (j := 0) C dX8_row_43 rfl rfl ?_
          refine gf_X8_7 C ks_234 dX8_row_44 ?_
          refine v_iload_n (j := 1) C dX8_row_47 rfl rfl ?_
          refine v_iload_n (j := 2) C dX8_row_48 rfl rfl ?_
          replace h := chk_some h; obtain ⟨g3, h⟩ := h
          replace h := nm_ex h; obtain ⟨M4, eM4, h⟩ := h
          refine v_iast C ks_235 (inB_vp g3) dX8_row_49 ?_
          refine v_mem eM4 ?_
          refine v_aload_nR (j := 0) C dX8_row_50 rfl rfl ?_
          refine v_pc (pc' := 51) rfl ?_
          refine gf_X8_13 C ks_234 dX8_row_51 ?_
          refine v_iload_n (j := 1) C dX8_row_54 rfl rfl ?_
          refine v_iload_n (j := 3) C dX8_row_55 rfl rfl ?_
          replace h := chk_some h; obtain ⟨g5, h⟩ := h
          replace h := nm_ex h; obtain ⟨M6, eM6, h⟩ := h
          refine v_iast C ks_236 (inB_vp g5) dX8_row_56 ?_
          refine v_mem eM6 ?_
          refine v_iconst C dX8_row_57 ct_i_0 ?_
          refine v_istore (L' := [(4, .int 0), (0, .ref (B + 234)), (1, .int x1), (2, .int x2), (3, .int x3)]) C dX8_row_58 (by decide) rfl ?_
          have LB60 : ∀ (M : Mem) (x4 : Int32) (o60 : (Int32 × Mem) ⊕ Mem) (h : b_X8_row_60 M x1 x3 x4 = some o60) (hc60 : ∀ z : Int32 × Mem, o60 = .inl z → V p l e (rmd 1) s m args below meth c 0 0 D cA B 5 Q z.2 60 [(0, .ref (B + 234)), (1, .int x1), (3, .int x3), (4, .int z.1)] []) (he60 : ∀ z : Mem, o60 = .inr z → V p l e (rmd 1) s m args below meth c 0 0 D cA B 5 Q z 86 [(0, .ref (B + 234)), (3, .int x3)] []), V p l e (rmd 1) s m args below meth c 0 0 D cA B 5 Q M 60 [(0, .ref (B + 234)), (1, .int x1), (3, .int x3), (4, .int x4)] [] := by
            intro M x4 o60 h hc60 he60
            unfold b_X8_row_60 at h
            refine v_iload (j := 3) C dX8_row_60 rfl ?_
            refine v_bipush C dX8_row_62 ct_b_40 ?_
            refine v_icmp_ge (tgt := 86) C dX8_row_64 (by decide) (fun g => ?_) (fun g => ?_)
            · replace h := ite_t g h
              replace h := Option.some.inj h; subst h
              refine v_sub [0, 2] rfl ?_
              exact he60 M rfl
            · replace h := ite_f g h
              refine v_aload_nR (j := 0) C dX8_row_67 rfl rfl ?_
              refine gf_X8_16 C ks_234 dX8_row_68 ?_
              refine v_bipush C dX8_row_71 ct_b_40 ?_
              refine v_pc (pc' := 73) rfl ?_
              refine v_iload_n (j := 1) C dX8_row_73 rfl rfl ?_
              refine v_imul C dX8_row_74 ?_
              refine v_iload (j := 3) C dX8_row_75 rfl ?_
              refine v_iadd C dX8_row_77 ?_
              refine v_iconst C dX8_row_78 ct_i_0 ?_
              replace h := chk_some h; obtain ⟨g7, h⟩ := h
              replace h := nm_ex h; obtain ⟨M8, eM8, h⟩ := h
              refine v_iast C ks_237 (inB_vp g7) dX8_row_79 ?_
              refine v_mem eM8 ?_
              refine v_iinc (j := 3) (L' := [(4, .int (x4 + 1)), (0, .ref (B + 234)), (1, .int x1), (3, .int x3)]) C dX8_row_80 rfl (congrArg (fun z => _ + z) ct_i_1) (by decide) rfl ?_
              refine v_pc (pc' := 83) rfl ?_
              refine v_goto (tgt := 60) C dX8_row_83 (by decide) ?_
              replace h := Option.some.inj h; subst h
              refine v_sub [1, 2, 3, 0] rfl ?_
              exact hc60 (x4 + 1, M8) rfl
          replace h := bind_ex h; obtain ⟨z9, hz9, h⟩ := h
          refine v_sub [1, 2, 4, 0] rfl ?_
          refine loopF_walk (Pσ := fun z => V p l e (rmd 1) s m args below meth c 0 0 D cA B 5 Q z.2 60 [(0, .ref (B + 234)), (1, .int x1), (3, .int x3), (4, .int z.1)] []) (Pρ := fun y => V p l e (rmd 1) s m args below meth c 0 0 D cA B 5 Q y 86 [(0, .ref (B + 234)), (3, .int x3)] []) ?_ FUEL (0, M6) z9 hz9 ?_
          · intro z o hb hc he
            exact LB60 z.2 z.1 o hb hc he
          · refine v_aload_nR (j := 0) C dX8_row_86 rfl rfl ?_
            refine v_iload_n (j := 1) C dX8_row_87 rfl rfl ?_
            replace h := bind_ex h; obtain ⟨r10, hr10, h⟩ := h
            refine cv_I C tw_990 tw_111 tw_987 tw_989 tw_74 pd_X8_well (Nat.le_of_ble_eq_true rfl) (Nat.le_of_ble_eq_true rfl) (q := 234) (kd_lt ks_234 (by decide)) (sh8 ks_234) rfl (As := [.int x3]) (rest := []) rfl rfl (Nat.le_of_ble_eq_true rfl) (c_X8_well l D cA B aK aV z9 x3 r10 hr10) dX8_row_88 ?_
            replace h := Option.some.inj h; subst h
            subst hQ
            exact v_iret C hr hlk dX8_row_91
        · replace h := ite_f g h
          refine v_aload_nR (j := 0) C dX8_row_37 rfl rfl ?_
          refine v_iconst C dX8_row_38 ct_i_4 ?_
          replace h := bind_ex h; obtain ⟨r11, hr11, h⟩ := h
          refine cv_I C tw_985 tw_111 tw_982 tw_984 tw_73 pd_X8_finds (Nat.le_of_ble_eq_true rfl) (Nat.le_of_ble_eq_true rfl) (q := 234) (kd_lt ks_234 (by decide)) (sh8 ks_234) rfl (As := [.int 4]) (rest := []) rfl rfl (Nat.le_of_ble_eq_true rfl) (c_X8_finds l D cA B aK aV M 4 r11 hr11) dX8_row_39 ?_
          replace h := Option.some.inj h; subst h
          subst hQ
          exact v_iret C hr hlk dX8_row_42
      · replace h := ite_f g h
        refine v_ldc C tw_981 dX8_row_30 ?_
        replace h := Option.some.inj h; subst h
        subst hQ
        exact v_iret C hr hlk dX8_row_32
def j_X8_set_94 (M : Mem) (x1 : Int32) (x2 : Int32) (s0 : Int32) (s1 : Int32) : Option (Int32 × Mem) :=
  chk (inB s1 320) (nm (mset M 237 s1.toNatClampNeg s0) fun M2 => chk (inB ((40 * x1) + x2) 320) ((m_X8_well M2 (M2 237 ((40 * x1) + x2).toNatClampNeg)).bind fun r4 => some ((r4.1, r4.2))))
def m_X8_set (M : Mem) (x1 : Int32) (x2 : Int32) (x3 : Int32) : Option (Int32 × Mem) :=
  (m_X8_in M x1.toInt64 0 7).bind fun r5 => if r5 = 0 then (some (((-1000001), M))) else (chk (inB x1 8) (if 0 ≤ (M 235 x1.toNatClampNeg) then (chk (inB x1 8) ((m_X8_in M x2.toInt64 0 (((M 236 x1.toNatClampNeg) - 1).toInt64)).bind fun r8 => if r8 = 0 then ((m_X8_finds M 2).bind fun r11 => some ((r11.1, r11.2))) else (chk (inB x1 8) (if (M 235 x1.toNatClampNeg) = 0 then (j_X8_set_94 M x1 x2 x3.toInt8.toInt32 ((40 * x1) + x2)) else (chk (inB x1 8) (if (M 235 x1.toNatClampNeg) = 1 then (j_X8_set_94 M x1 x2 x3.toInt16.toInt32 ((40 * x1) + x2)) else (j_X8_set_94 M x1 x2 x3 ((40 * x1) + x2)))))))) else ((m_X8_finds M 1).bind fun r12 => some ((r12.1, r12.2)))))
set_option maxHeartbeats 4000000 in
set_option maxRecDepth 100000 in
theorem c_X8_set (l : Launch) (D : va_G) (cA : cAt) (B : Nat) (aK aV : Nat → Nat) (M : Mem) (x1 : Int32) (x2 : Int32) (x3 : Int32) (R : Int32 × Mem) (h : m_X8_set M x1 x2 x3 = some R) : CI l D cA B aK aV yX8_set cX8_set 4 .int 1 [.ref (B + 234), .int x1, .int x2, .int x3] M R.1 R.2 := by
  refine CI_of (by decide +kernel) (Nat.le_of_ble_eq_true rfl) ?_
  intro p e s m args below meth c C hr hlk
  have C : Cx p (rmd 1) s m args c 0 0 D cA B aK aV cX8_set 4 RX8 := C
  generalize hQ : MQ below _ args s 0 0 _ = Q
  refine v_eq (M' := M) (pc' := 0) (L' := [(0, .ref (B + 234)), (1, .int x1), (2, .int x2), (3, .int x3)]) (st' := []) ?_
  unfold m_X8_set at h
  have J94 : ∀ (M : Mem) (s0 : Int32) (s1 : Int32), j_X8_set_94 M x1 x2 s0 s1 = some R → V p l e (rmd 1) s m args below meth c 0 0 D cA B 4 Q M 94 [(0, .ref (B + 234)), (1, .int x1), (2, .int x2)] [.int s0, .int s1, .ref (B + 237)] := by
    intro M s0 s1 h
    unfold j_X8_set_94 at h
    replace h := chk_some h; obtain ⟨g1, h⟩ := h
    replace h := nm_ex h; obtain ⟨M2, eM2, h⟩ := h
    refine v_iast C ks_237 (inB_vp g1) dX8_set_94 ?_
    refine v_mem eM2 ?_
    refine v_aload_nR (j := 0) C dX8_set_95 rfl rfl ?_
    refine v_aload_nR (j := 0) C dX8_set_96 rfl rfl ?_
    refine gf_X8_16 C ks_234 dX8_set_97 ?_
    refine v_bipush C dX8_set_100 ct_b_40 ?_
    refine v_iload_n (j := 1) C dX8_set_102 rfl rfl ?_
    refine v_pc (pc' := 103) rfl ?_
    refine v_imul C dX8_set_103 ?_
    refine v_iload_n (j := 2) C dX8_set_104 rfl rfl ?_
    refine v_iadd C dX8_set_105 ?_
    replace h := chk_some h; obtain ⟨g3, h⟩ := h
    refine v_iald C ks_237 (inB_vp g3) dX8_set_106 ?_
    replace h := bind_ex h; obtain ⟨r4, hr4, h⟩ := h
    refine cv_I C tw_990 tw_111 tw_987 tw_989 tw_74 pd_X8_well (Nat.le_of_ble_eq_true rfl) (Nat.le_of_ble_eq_true rfl) (q := 234) (kd_lt ks_234 (by decide)) (sh8 ks_234) rfl (As := [.int (M2 237 ((40 * x1) + x2).toNatClampNeg)]) (rest := []) rfl rfl (Nat.le_of_ble_eq_true rfl) (c_X8_well l D cA B aK aV M2 (M2 237 ((40 * x1) + x2).toNatClampNeg) r4 hr4) dX8_set_107 ?_
    replace h := Option.some.inj h; subst h
    subst hQ
    exact v_iret C hr hlk dX8_set_110
  refine v_iload_n (j := 1) C dX8_set_0 rfl rfl ?_
  refine v_i2l C dX8_set_1 ?_
  refine v_lconst (v := 0) C dX8_set_2 rfl ?_
  refine v_ldc2 C tw_976 dX8_set_3 ?_
  replace h := bind_ex h; obtain ⟨r5, hr5, h⟩ := h
  refine cs_I C tw_979 tw_111 tw_977 tw_978 pd_X8_in (Nat.le_of_ble_eq_true rfl) (Nat.le_of_ble_eq_true rfl) (As := [.long x1.toInt64, .long 0, .long 7]) (rest := []) rfl rfl (Nat.le_of_ble_eq_true rfl) (c_X8_in l D cA B aK aV M x1.toInt64 0 7 r5 hr5) dX8_set_6 ?_
  refine v_if_ne (tgt := 15) C dX8_set_9 (by decide) (fun g => ?_) (fun g => ?_)
  · replace h := ite_t g h
    refine v_pc (pc' := 12) rfl ?_
    refine v_ldc C tw_981 dX8_set_12 ?_
    replace h := Option.some.inj h; subst h
    subst hQ
    exact v_iret C hr hlk dX8_set_14
  · replace h := ite_f g h
    refine v_aload_nR (j := 0) C dX8_set_15 rfl rfl ?_
    refine gf_X8_7 C ks_234 dX8_set_16 ?_
    refine v_iload_n (j := 1) C dX8_set_19 rfl rfl ?_
    replace h := chk_some h; obtain ⟨g6, h⟩ := h
    refine v_iald C ks_235 (inB_vp g6) dX8_set_20 ?_
    refine v_if_ge (tgt := 30) C dX8_set_21 (by decide) (fun g => ?_) (fun g => ?_)
    · replace h := ite_t g h
      refine v_iload_n (j := 2) C dX8_set_30 rfl rfl ?_
      refine v_i2l C dX8_set_31 ?_
      refine v_lconst (v := 0) C dX8_set_32 rfl ?_
      refine v_aload_nR (j := 0) C dX8_set_33 rfl rfl ?_
      refine gf_X8_13 C ks_234 dX8_set_34 ?_
      refine v_iload_n (j := 1) C dX8_set_37 rfl rfl ?_
      refine v_pc (pc' := 38) rfl ?_
      replace h := chk_some h; obtain ⟨g7, h⟩ := h
      refine v_iald C ks_236 (inB_vp g7) dX8_set_38 ?_
      refine v_iconst C dX8_set_39 ct_i_1 ?_
      refine v_isub C dX8_set_40 ?_
      refine v_i2l C dX8_set_41 ?_
      replace h := bind_ex h; obtain ⟨r8, hr8, h⟩ := h
      refine cs_I C tw_979 tw_111 tw_977 tw_978 pd_X8_in (Nat.le_of_ble_eq_true rfl) (Nat.le_of_ble_eq_true rfl) (As := [.long x2.toInt64, .long 0, .long (((M 236 x1.toNatClampNeg) - 1).toInt64)]) (rest := []) rfl rfl (Nat.le_of_ble_eq_true rfl) (c_X8_in l D cA B aK aV M x2.toInt64 0 (((M 236 x1.toNatClampNeg) - 1).toInt64) r8 hr8) dX8_set_42 ?_
      refine v_if_ne (tgt := 54) C dX8_set_45 (by decide) (fun g => ?_) (fun g => ?_)
      · replace h := ite_t g h
        refine v_aload_nR (j := 0) C dX8_set_48 rfl rfl ?_
        refine v_pc (pc' := 49) rfl ?_
        refine v_iconst C dX8_set_49 ct_i_2 ?_
        replace h := bind_ex h; obtain ⟨r11, hr11, h⟩ := h
        refine cv_I C tw_985 tw_111 tw_982 tw_984 tw_73 pd_X8_finds (Nat.le_of_ble_eq_true rfl) (Nat.le_of_ble_eq_true rfl) (q := 234) (kd_lt ks_234 (by decide)) (sh8 ks_234) rfl (As := [.int 2]) (rest := []) rfl rfl (Nat.le_of_ble_eq_true rfl) (c_X8_finds l D cA B aK aV M 2 r11 hr11) dX8_set_50 ?_
        replace h := Option.some.inj h; subst h
        subst hQ
        exact v_iret C hr hlk dX8_set_53
      · replace h := ite_f g h
        refine v_aload_nR (j := 0) C dX8_set_54 rfl rfl ?_
        refine gf_X8_16 C ks_234 dX8_set_55 ?_
        refine v_bipush C dX8_set_58 ct_b_40 ?_
        refine v_iload_n (j := 1) C dX8_set_60 rfl rfl ?_
        refine v_imul C dX8_set_61 ?_
        refine v_iload_n (j := 2) C dX8_set_62 rfl rfl ?_
        refine v_pc (pc' := 63) rfl ?_
        refine v_iadd C dX8_set_63 ?_
        refine v_aload_nR (j := 0) C dX8_set_64 rfl rfl ?_
        refine gf_X8_7 C ks_234 dX8_set_65 ?_
        refine v_iload_n (j := 1) C dX8_set_68 rfl rfl ?_
        replace h := chk_some h; obtain ⟨g9, h⟩ := h
        refine v_iald C ks_235 (inB_vp g9) dX8_set_69 ?_
        refine v_if_ne (tgt := 78) C dX8_set_70 (by decide) (fun g => ?_) (fun g => ?_)
        · replace h := ite_t g h
          refine v_iload_n (j := 3) C dX8_set_73 rfl rfl ?_
          refine v_pc (pc' := 74) rfl ?_
          refine v_i2b C dX8_set_74 ?_
          refine v_goto (tgt := 94) C dX8_set_75 (by decide) ?_
          refine v_sub [0, 1, 2] rfl ?_
          exact J94 M x3.toInt8.toInt32 ((40 * x1) + x2) h
        · replace h := ite_f g h
          refine v_aload_nR (j := 0) C dX8_set_78 rfl rfl ?_
          refine gf_X8_7 C ks_234 dX8_set_79 ?_
          refine v_iload_n (j := 1) C dX8_set_82 rfl rfl ?_
          replace h := chk_some h; obtain ⟨g10, h⟩ := h
          refine v_iald C ks_235 (inB_vp g10) dX8_set_83 ?_
          refine v_iconst C dX8_set_84 ct_i_1 ?_
          refine v_icmp_ne (tgt := 93) C dX8_set_85 (by decide) (fun g => ?_) (fun g => ?_)
          · replace h := ite_t g h
            refine v_pc (pc' := 88) rfl ?_
            refine v_iload_n (j := 3) C dX8_set_88 rfl rfl ?_
            refine v_i2s C dX8_set_89 ?_
            refine v_goto (tgt := 94) C dX8_set_90 (by decide) ?_
            refine v_sub [0, 1, 2] rfl ?_
            exact J94 M x3.toInt16.toInt32 ((40 * x1) + x2) h
          · replace h := ite_f g h
            refine v_iload_n (j := 3) C dX8_set_93 rfl rfl ?_
            refine v_sub [0, 1, 2] rfl ?_
            exact J94 M x3 ((40 * x1) + x2) h
    · replace h := ite_f g h
      refine v_aload_nR (j := 0) C dX8_set_24 rfl rfl ?_
      refine v_pc (pc' := 25) rfl ?_
      refine v_iconst C dX8_set_25 ct_i_1 ?_
      replace h := bind_ex h; obtain ⟨r12, hr12, h⟩ := h
      refine cv_I C tw_985 tw_111 tw_982 tw_984 tw_73 pd_X8_finds (Nat.le_of_ble_eq_true rfl) (Nat.le_of_ble_eq_true rfl) (q := 234) (kd_lt ks_234 (by decide)) (sh8 ks_234) rfl (As := [.int 1]) (rest := []) rfl rfl (Nat.le_of_ble_eq_true rfl) (c_X8_finds l D cA B aK aV M 1 r12 hr12) dX8_set_26 ?_
      replace h := Option.some.inj h; subst h
      subst hQ
      exact v_iret C hr hlk dX8_set_29
