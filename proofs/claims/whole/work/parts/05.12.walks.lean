def m_X8_kind (M : Mem) (x1 : Int32) : Option Int32 :=
  (m_X8_isChild M x1).bind fun r1 => if r1 = 0 then (some (-1000001)) else (chk (inB (5 + x1) 39) (some (M 239 (5 + x1).toNatClampNeg)))
set_option maxHeartbeats 4000000 in
set_option maxRecDepth 100000 in
theorem c_X8_kind (l : Launch) (D : va_G) (cA : cAt) (B : Nat) (aK aV : Nat → Nat) (M : Mem) (x1 : Int32) (R : Int32) (h : m_X8_kind M x1 = some R) : CI l D cA B aK aV yX8_kind cX8_kind 2 .int 2 [.ref (B + 234), .int x1] M R M := by
  refine CI_of (by decide +kernel) (Nat.le_of_ble_eq_true rfl) ?_
  intro p e s m args below meth c C hr hlk
  have C : Cx p (rmd 2) s m args c 0 0 D cA B aK aV cX8_kind 2 RX8 := C
  generalize hQ : MQ below _ args s 0 0 _ = Q
  refine v_eq (M' := M) (pc' := 0) (L' := [(0, .ref (B + 234)), (1, .int x1)]) (st' := []) ?_
  unfold m_X8_kind at h
  refine v_aload_nR (j := 0) C dX8_kind_0 rfl rfl ?_
  refine v_iload_n (j := 1) C dX8_kind_1 rfl rfl ?_
  replace h := bind_ex h; obtain ⟨r1, hr1, h⟩ := h
  refine cv_I C tw_1128 tw_111 tw_1125 tw_1127 tw_91 pd_X8_isChild (Nat.le_of_ble_eq_true rfl) (Nat.le_of_ble_eq_true rfl) (q := 234) (kd_lt ks_234 (by decide)) (sh8 ks_234) rfl (As := [.int x1]) (rest := []) rfl rfl (Nat.le_of_ble_eq_true rfl) (c_X8_isChild l D cA B aK aV M x1 r1 hr1) dX8_kind_2 ?_
  refine v_if_eq (tgt := 19) C dX8_kind_5 (by decide) (fun g => ?_) (fun g => ?_)
  · replace h := ite_t g h
    refine v_ldc C tw_981 dX8_kind_19 ?_
    replace h := Option.some.inj h; subst h
    subst hQ
    exact v_iret C hr hlk dX8_kind_21
  · replace h := ite_f g h
    refine v_aload_nR (j := 0) C dX8_kind_8 rfl rfl ?_
    refine gf_X8_22 C ks_234 dX8_kind_9 ?_
    refine v_pc (pc' := 12) rfl ?_
    refine v_iconst C dX8_kind_12 ct_i_5 ?_
    refine v_iload_n (j := 1) C dX8_kind_13 rfl rfl ?_
    refine v_iadd C dX8_kind_14 ?_
    replace h := chk_some h; obtain ⟨g2, h⟩ := h
    refine v_iald C ks_239 (inB_vp g2) dX8_kind_15 ?_
    refine v_goto (tgt := 21) C dX8_kind_16 (by decide) ?_
    replace h := Option.some.inj h; subst h
    subst hQ
    exact v_iret C hr hlk dX8_kind_21
def j_X8_isOf_19 (M : Mem) (x0 : Int32) (x1 : Int32) : Option Int32 :=
  if x1 = 4 then (if x0 = 5 then (some 1) else (some 0)) else (some 0)
def m_X8_isOf (M : Mem) (x0 : Int32) (x1 : Int32) : Option Int32 :=
  if x1 = 0 then (some 1) else (if x0 = x1 then (some 1) else (if x1 = 1 then (if x0 < 4 then (some 1) else (j_X8_isOf_19 M x0 x1)) else (j_X8_isOf_19 M x0 x1)))
set_option maxHeartbeats 4000000 in
set_option maxRecDepth 100000 in
theorem c_X8_isOf (l : Launch) (D : va_G) (cA : cAt) (B : Nat) (aK aV : Nat → Nat) (M : Mem) (x0 : Int32) (x1 : Int32) (R : Int32) (h : m_X8_isOf M x0 x1 = some R) : CI l D cA B aK aV yX8_isOf cX8_isOf 2 .boolean 0 [.int x0, .int x1] M R M := by
  refine CI_of (by decide +kernel) (Nat.le_of_ble_eq_true rfl) ?_
  intro p e s m args below meth c C hr hlk
  have C : Cx p (rmd 0) s m args c 0 0 D cA B aK aV cX8_isOf 2 RX8 := C
  generalize hQ : MQ below _ args s 0 0 _ = Q
  refine v_eq (M' := M) (pc' := 0) (L' := [(0, .int x0), (1, .int x1)]) (st' := []) ?_
  unfold m_X8_isOf at h
  have J19 : j_X8_isOf_19 M x0 x1 = some R → V p l e (rmd 0) s m args below meth c 0 0 D cA B 2 Q M 19 [(0, .int x0), (1, .int x1)] [] := by
    intro h
    unfold j_X8_isOf_19 at h
    refine v_iload_n (j := 1) C dX8_isOf_19 rfl rfl ?_
    refine v_iconst C dX8_isOf_20 ct_i_4 ?_
    refine v_icmp_ne (tgt := 33) C dX8_isOf_21 (by decide) (fun g => ?_) (fun g => ?_)
    · replace h := ite_t g h
      refine v_iload_n (j := 0) C dX8_isOf_24 rfl rfl ?_
      refine v_iconst C dX8_isOf_25 ct_i_5 ?_
      refine v_icmp_ne (tgt := 33) C dX8_isOf_26 (by decide) (fun g => ?_) (fun g => ?_)
      · replace h := ite_t g h
        refine v_pc (pc' := 29) rfl ?_
        refine v_iconst C dX8_isOf_29 ct_i_1 ?_
        refine v_goto (tgt := 34) C dX8_isOf_30 (by decide) ?_
        replace h := Option.some.inj h; subst h
        subst hQ
        exact v_zret C hr hlk (show narrow .boolean (.int 1) = .int 1 from rfl) dX8_isOf_34
      · replace h := ite_f g h
        refine v_iconst C dX8_isOf_33 ct_i_0 ?_
        replace h := Option.some.inj h; subst h
        subst hQ
        exact v_zret C hr hlk (show narrow .boolean (.int 0) = .int 0 from rfl) dX8_isOf_34
    · replace h := ite_f g h
      refine v_iconst C dX8_isOf_33 ct_i_0 ?_
      replace h := Option.some.inj h; subst h
      subst hQ
      exact v_zret C hr hlk (show narrow .boolean (.int 0) = .int 0 from rfl) dX8_isOf_34
  refine v_iload_n (j := 1) C dX8_isOf_0 rfl rfl ?_
  refine v_if_eq (tgt := 29) C dX8_isOf_1 (by decide) (fun g => ?_) (fun g => ?_)
  · replace h := ite_t g h
    refine v_iconst C dX8_isOf_29 ct_i_1 ?_
    refine v_goto (tgt := 34) C dX8_isOf_30 (by decide) ?_
    replace h := Option.some.inj h; subst h
    subst hQ
    exact v_zret C hr hlk (show narrow .boolean (.int 1) = .int 1 from rfl) dX8_isOf_34
  · replace h := ite_f g h
    refine v_iload_n (j := 0) C dX8_isOf_4 rfl rfl ?_
    refine v_iload_n (j := 1) C dX8_isOf_5 rfl rfl ?_
    refine v_icmp_eq (tgt := 29) C dX8_isOf_6 (by decide) (fun g => ?_) (fun g => ?_)
    · replace h := ite_t g h
      refine v_iconst C dX8_isOf_29 ct_i_1 ?_
      refine v_goto (tgt := 34) C dX8_isOf_30 (by decide) ?_
      replace h := Option.some.inj h; subst h
      subst hQ
      exact v_zret C hr hlk (show narrow .boolean (.int 1) = .int 1 from rfl) dX8_isOf_34
    · replace h := ite_f g h
      refine v_iload_n (j := 1) C dX8_isOf_9 rfl rfl ?_
      refine v_pc (pc' := 10) rfl ?_
      refine v_iconst C dX8_isOf_10 ct_i_1 ?_
      refine v_icmp_ne (tgt := 19) C dX8_isOf_11 (by decide) (fun g => ?_) (fun g => ?_)
      · replace h := ite_t g h
        refine v_iload_n (j := 0) C dX8_isOf_14 rfl rfl ?_
        refine v_iconst C dX8_isOf_15 ct_i_4 ?_
        refine v_icmp_lt (tgt := 29) C dX8_isOf_16 (by decide) (fun g => ?_) (fun g => ?_)
        · replace h := ite_t g h
          refine v_iconst C dX8_isOf_29 ct_i_1 ?_
          refine v_goto (tgt := 34) C dX8_isOf_30 (by decide) ?_
          replace h := Option.some.inj h; subst h
          subst hQ
          exact v_zret C hr hlk (show narrow .boolean (.int 1) = .int 1 from rfl) dX8_isOf_34
        · replace h := ite_f g h
          refine v_sub [0, 1] rfl ?_
          exact J19 h
      · replace h := ite_f g h
        refine v_sub [0, 1] rfl ?_
        exact J19 h
def m_X8_as (M : Mem) (x1 : Int32) (x2 : Int32) : Option (Int32 × Mem) :=
  (m_X8_isChild M x1).bind fun r1 => if r1 = 0 then (some (((-1000001), M))) else ((m_X8_in M x2.toInt64 0 5).bind fun r2 => if r2 = 0 then (some (((-1000001), M))) else (chk (inB (5 + x1) 39) ((m_X8_isOf M (M 239 (5 + x1).toNatClampNeg) x2).bind fun r4 => if r4 = 0 then ((m_X8_finds M 3).bind fun r5 => some ((r5.1, r5.2))) else ((m_X8_well M x1).bind fun r6 => some ((r6.1, r6.2))))))
set_option maxHeartbeats 4000000 in
set_option maxRecDepth 100000 in
theorem c_X8_as (l : Launch) (D : va_G) (cA : cAt) (B : Nat) (aK aV : Nat → Nat) (M : Mem) (x1 : Int32) (x2 : Int32) (R : Int32 × Mem) (h : m_X8_as M x1 x2 = some R) : CI l D cA B aK aV yX8_as cX8_as 3 .int 2 [.ref (B + 234), .int x1, .int x2] M R.1 R.2 := by
  refine CI_of (by decide +kernel) (Nat.le_of_ble_eq_true rfl) ?_
  intro p e s m args below meth c C hr hlk
  have C : Cx p (rmd 2) s m args c 0 0 D cA B aK aV cX8_as 3 RX8 := C
  generalize hQ : MQ below _ args s 0 0 _ = Q
  refine v_eq (M' := M) (pc' := 0) (L' := [(0, .ref (B + 234)), (1, .int x1), (2, .int x2)]) (st' := []) ?_
  unfold m_X8_as at h
  refine v_aload_nR (j := 0) C dX8_as_0 rfl rfl ?_
  refine v_iload_n (j := 1) C dX8_as_1 rfl rfl ?_
  replace h := bind_ex h; obtain ⟨r1, hr1, h⟩ := h
  refine cv_I C tw_1128 tw_111 tw_1125 tw_1127 tw_91 pd_X8_isChild (Nat.le_of_ble_eq_true rfl) (Nat.le_of_ble_eq_true rfl) (q := 234) (kd_lt ks_234 (by decide)) (sh8 ks_234) rfl (As := [.int x1]) (rest := []) rfl rfl (Nat.le_of_ble_eq_true rfl) (c_X8_isChild l D cA B aK aV M x1 r1 hr1) dX8_as_2 ?_
  refine v_if_eq (tgt := 20) C dX8_as_5 (by decide) (fun g => ?_) (fun g => ?_)
  · replace h := ite_t g h
    refine v_ldc C tw_981 dX8_as_20 ?_
    replace h := Option.some.inj h; subst h
    subst hQ
    exact v_iret C hr hlk dX8_as_22
  · replace h := ite_f g h
    refine v_iload_n (j := 2) C dX8_as_8 rfl rfl ?_
    refine v_i2l C dX8_as_9 ?_
    refine v_pc (pc' := 10) rfl ?_
    refine v_lconst (v := 0) C dX8_as_10 rfl ?_
    refine v_ldc2 C tw_1117 dX8_as_11 ?_
    replace h := bind_ex h; obtain ⟨r2, hr2, h⟩ := h
    refine cs_I C tw_979 tw_111 tw_977 tw_978 pd_X8_in (Nat.le_of_ble_eq_true rfl) (Nat.le_of_ble_eq_true rfl) (As := [.long x2.toInt64, .long 0, .long 5]) (rest := []) rfl rfl (Nat.le_of_ble_eq_true rfl) (c_X8_in l D cA B aK aV M x2.toInt64 0 5 r2 hr2) dX8_as_14 ?_
    refine v_if_ne (tgt := 23) C dX8_as_17 (by decide) (fun g => ?_) (fun g => ?_)
    · replace h := ite_t g h
      refine v_ldc C tw_981 dX8_as_20 ?_
      replace h := Option.some.inj h; subst h
      subst hQ
      exact v_iret C hr hlk dX8_as_22
    · replace h := ite_f g h
      refine v_aload_nR (j := 0) C dX8_as_23 rfl rfl ?_
      refine gf_X8_22 C ks_234 dX8_as_24 ?_
      refine v_iconst C dX8_as_27 ct_i_5 ?_
      refine v_iload_n (j := 1) C dX8_as_28 rfl rfl ?_
      refine v_iadd C dX8_as_29 ?_
      replace h := chk_some h; obtain ⟨g3, h⟩ := h
      refine v_iald C ks_239 (inB_vp g3) dX8_as_30 ?_
      refine v_pc (pc' := 31) rfl ?_
      refine v_iload_n (j := 2) C dX8_as_31 rfl rfl ?_
      replace h := bind_ex h; obtain ⟨r4, hr4, h⟩ := h
      refine cs_I C tw_1235 tw_111 tw_1233 tw_1234 pd_X8_isOf (Nat.le_of_ble_eq_true rfl) (Nat.le_of_ble_eq_true rfl) (As := [.int (M 239 (5 + x1).toNatClampNeg), .int x2]) (rest := []) rfl rfl (Nat.le_of_ble_eq_true rfl) (c_X8_isOf l D cA B aK aV M (M 239 (5 + x1).toNatClampNeg) x2 r4 hr4) dX8_as_32 ?_
      refine v_if_eq (tgt := 46) C dX8_as_35 (by decide) (fun g => ?_) (fun g => ?_)
      · replace h := ite_t g h
        refine v_aload_nR (j := 0) C dX8_as_46 rfl rfl ?_
        refine v_iconst C dX8_as_47 ct_i_3 ?_
        replace h := bind_ex h; obtain ⟨r5, hr5, h⟩ := h
        refine cv_I C tw_985 tw_111 tw_982 tw_984 tw_73 pd_X8_finds (Nat.le_of_ble_eq_true rfl) (Nat.le_of_ble_eq_true rfl) (q := 234) (kd_lt ks_234 (by decide)) (sh8 ks_234) rfl (As := [.int 3]) (rest := []) rfl rfl (Nat.le_of_ble_eq_true rfl) (c_X8_finds l D cA B aK aV M 3 r5 hr5) dX8_as_48 ?_
        replace h := Option.some.inj h; subst h
        subst hQ
        exact v_iret C hr hlk dX8_as_51
      · replace h := ite_f g h
        refine v_aload_nR (j := 0) C dX8_as_38 rfl rfl ?_
        refine v_iload_n (j := 1) C dX8_as_39 rfl rfl ?_
        replace h := bind_ex h; obtain ⟨r6, hr6, h⟩ := h
        refine cv_I C tw_990 tw_111 tw_987 tw_989 tw_74 pd_X8_well (Nat.le_of_ble_eq_true rfl) (Nat.le_of_ble_eq_true rfl) (q := 234) (kd_lt ks_234 (by decide)) (sh8 ks_234) rfl (As := [.int x1]) (rest := []) rfl rfl (Nat.le_of_ble_eq_true rfl) (c_X8_well l D cA B aK aV M x1 r6 hr6) dX8_as_40 ?_
        refine v_goto (tgt := 51) C dX8_as_43 (by decide) ?_
        replace h := Option.some.inj h; subst h
        subst hQ
        exact v_iret C hr hlk dX8_as_51
def m_X8_begins (M : Mem) (x1 : Int32) : Option Mem :=
  if 16 ≤ (M 234 14) then (some M) else (chk (inB (M 234 14) 16) (nm (mset M 244 (M 234 14).toNatClampNeg x1) fun M2 => nm (mset M2 234 14 ((M2 234 14) + 1)) fun M3 => some M3))
set_option maxHeartbeats 4000000 in
set_option maxRecDepth 100000 in
theorem c_X8_begins (l : Launch) (D : va_G) (cA : cAt) (B : Nat) (aK aV : Nat → Nat) (M : Mem) (x1 : Int32) (R : Mem) (h : m_X8_begins M x1 = some R) : CV l D cA B aK aV yX8_begins cX8_begins 2 0 [.ref (B + 234), .int x1] M R := by
  refine CV_of (by decide +kernel) (Nat.le_of_ble_eq_true rfl) ?_
  intro p e s m args below meth c C hr hlk
  have C : Cx p (rmd 0) s m args c 0 0 D cA B aK aV cX8_begins 2 RX8 := C
  generalize hQ : MQ below _ args s 0 0 _ = Q
  refine v_eq (M' := M) (pc' := 0) (L' := [(0, .ref (B + 234)), (1, .int x1)]) (st' := []) ?_
  unfold m_X8_begins at h
  refine v_aload_nR (j := 0) C dX8_begins_0 rfl rfl ?_
  refine gf_X8_255 C ks_234 dX8_begins_1 ?_
  refine v_bipush C dX8_begins_4 ct_b_16 ?_
  refine v_icmp_ge (tgt := 29) C dX8_begins_6 (by decide) (fun g => ?_) (fun g => ?_)
  · replace h := ite_t g h
    replace h := Option.some.inj h; subst h
    subst hQ
    exact v_vret C hr hlk dX8_begins_29
  · replace h := ite_f g h
    refine v_aload_nR (j := 0) C dX8_begins_9 rfl rfl ?_
    refine gf_X8_38 C ks_234 dX8_begins_10 ?_
    refine v_pc (pc' := 13) rfl ?_
    refine v_aload_nR (j := 0) C dX8_begins_13 rfl rfl ?_
    refine gf_X8_255 C ks_234 dX8_begins_14 ?_
    refine v_iload_n (j := 1) C dX8_begins_17 rfl rfl ?_
    replace h := chk_some h; obtain ⟨g1, h⟩ := h
    replace h := nm_ex h; obtain ⟨M2, eM2, h⟩ := h
    refine v_iast C ks_244 (inB_vp g1) dX8_begins_18 ?_
    refine v_mem eM2 ?_
    refine v_aload_nR (j := 0) C dX8_begins_19 rfl rfl ?_
    refine v_dup C dX8_begins_20 rfl ?_
    refine gf_X8_255 C ks_234 dX8_begins_21 ?_
    refine v_pc (pc' := 24) rfl ?_
    refine v_iconst C dX8_begins_24 ct_i_1 ?_
    refine v_iadd C dX8_begins_25 ?_
    replace h := nm_ex h; obtain ⟨M3, eM3, h⟩ := h
    refine pf_X8_255 C ks_234 dX8_begins_26 ?_
    refine v_mem eM3 ?_
    replace h := Option.some.inj h; subst h
    subst hQ
    exact v_vret C hr hlk dX8_begins_29
def b_X8_beginsAll_2 (M : Mem) (x1 : Int32) (x2 : Int32) : Option (Int32 ⊕ Int32) :=
  if (x1 / 100) < x2 then (some (.inr x2)) else (nm (x2 * 100) fun y1 => some (.inl y1))
def b_X8_beginsAll_18 (M : Mem) (x1 : Int32) (x2 : Int32) : Option ((Int32 × Mem) ⊕ Mem) :=
  if x2 ≤ 0 then (some (.inr M)) else (chk (nz x2) ((m_X8_begins M ((x1 / x2) % 100)).bind fun r4 => nm (x2 / 100) fun y5 => some (.inl (y5, r4))))
def m_X8_beginsAll (M : Mem) (x1 : Int32) : Option Mem :=
  (loopF (fun z => b_X8_beginsAll_2 M x1 z) FUEL 1).bind fun z2 => (loopF (fun z => b_X8_beginsAll_18 z.2 x1 z.1) FUEL (z2, M)).bind fun z6 => some z6
set_option maxHeartbeats 4000000 in
set_option maxRecDepth 100000 in
theorem c_X8_beginsAll (l : Launch) (D : va_G) (cA : cAt) (B : Nat) (aK aV : Nat → Nat) (M : Mem) (x1 : Int32) (R : Mem) (h : m_X8_beginsAll M x1 = some R) : CV l D cA B aK aV yX8_beginsAll cX8_beginsAll 3 1 [.ref (B + 234), .int x1] M R := by
  refine CV_of (by decide +kernel) (Nat.le_of_ble_eq_true rfl) ?_
  intro p e s m args below meth c C hr hlk
  have C : Cx p (rmd 1) s m args c 0 0 D cA B aK aV cX8_beginsAll 3 RX8 := C
  generalize hQ : MQ below _ args s 0 0 _ = Q
  refine v_eq (M' := M) (pc' := 0) (L' := [(0, .ref (B + 234)), (1, .int x1)]) (st' := []) ?_
  unfold m_X8_beginsAll at h
  refine v_iconst C dX8_beginsAll_0 ct_i_1 ?_
  refine v_istore_n (L' := [(2, .int 1), (0, .ref (B + 234)), (1, .int x1)]) C dX8_beginsAll_1 rfl (by decide) rfl ?_
  have LB2 : ∀ (M : Mem) (x2 : Int32) (o2 : Int32 ⊕ Int32) (h : b_X8_beginsAll_2 M x1 x2 = some o2) (hc2 : ∀ z : Int32, o2 = .inl z → V p l e (rmd 1) s m args below meth c 0 0 D cA B 3 Q M 2 [(0, .ref (B + 234)), (1, .int x1), (2, .int z)] []) (he2 : ∀ z : Int32, o2 = .inr z → V p l e (rmd 1) s m args below meth c 0 0 D cA B 3 Q M 18 [(0, .ref (B + 234)), (1, .int x1), (2, .int z)] []), V p l e (rmd 1) s m args below meth c 0 0 D cA B 3 Q M 2 [(0, .ref (B + 234)), (1, .int x1), (2, .int x2)] [] := by
    intro M x2 o2 h hc2 he2
    unfold b_X8_beginsAll_2 at h
    refine v_iload_n (j := 2) C dX8_beginsAll_2 rfl rfl ?_
    refine v_iload_n (j := 1) C dX8_beginsAll_3 rfl rfl ?_
    refine v_bipush C dX8_beginsAll_4 ct_b_100 ?_
    refine v_idiv C dX8_beginsAll_6 (by decide) ?_
    refine v_icmp_gt (tgt := 18) C dX8_beginsAll_7 (by decide) (fun g => ?_) (fun g => ?_)
    · replace h := ite_t g h
      replace h := Option.some.inj h; subst h
      refine v_sub [0, 1, 2] rfl ?_
      exact he2 x2 rfl
    · replace h := ite_f g h
      refine v_iload_n (j := 2) C dX8_beginsAll_10 rfl rfl ?_
      refine v_pc (pc' := 11) rfl ?_
      refine v_bipush C dX8_beginsAll_11 ct_b_100 ?_
      refine v_imul C dX8_beginsAll_13 ?_
      replace h := nm_ex h; obtain ⟨y1, ey1, h⟩ := h
      refine v_topI ey1 ?_
      refine v_istore_n (L' := [(2, .int y1), (0, .ref (B + 234)), (1, .int x1)]) C dX8_beginsAll_14 rfl (by decide) rfl ?_
      refine v_goto (tgt := 2) C dX8_beginsAll_15 (by decide) ?_
      replace h := Option.some.inj h; subst h
      refine v_sub [1, 2, 0] rfl ?_
      exact hc2 y1 rfl
  replace h := bind_ex h; obtain ⟨z2, hz2, h⟩ := h
  refine v_sub [1, 2, 0] rfl ?_
  refine loopF_walk (Pσ := fun z => V p l e (rmd 1) s m args below meth c 0 0 D cA B 3 Q M 2 [(0, .ref (B + 234)), (1, .int x1), (2, .int z)] []) (Pρ := fun y => V p l e (rmd 1) s m args below meth c 0 0 D cA B 3 Q M 18 [(0, .ref (B + 234)), (1, .int x1), (2, .int y)] []) ?_ FUEL 1 z2 hz2 ?_
  · intro z o hb hc he
    exact LB2 M z o hb hc he
  · have LB18 : ∀ (M : Mem) (x2 : Int32) (o18 : (Int32 × Mem) ⊕ Mem) (h : b_X8_beginsAll_18 M x1 x2 = some o18) (hc18 : ∀ z : Int32 × Mem, o18 = .inl z → V p l e (rmd 1) s m args below meth c 0 0 D cA B 3 Q z.2 18 [(0, .ref (B + 234)), (1, .int x1), (2, .int z.1)] []) (he18 : ∀ z : Mem, o18 = .inr z → V p l e (rmd 1) s m args below meth c 0 0 D cA B 3 Q z 40 [] []), V p l e (rmd 1) s m args below meth c 0 0 D cA B 3 Q M 18 [(0, .ref (B + 234)), (1, .int x1), (2, .int x2)] [] := by
      intro M x2 o18 h hc18 he18
      unfold b_X8_beginsAll_18 at h
      refine v_iload_n (j := 2) C dX8_beginsAll_18 rfl rfl ?_
      refine v_if_le (tgt := 40) C dX8_beginsAll_19 (by decide) (fun g => ?_) (fun g => ?_)
      · replace h := ite_t g h
        replace h := Option.some.inj h; subst h
        refine v_sub [] rfl ?_
        exact he18 M rfl
      · replace h := ite_f g h
        refine v_aload_nR (j := 0) C dX8_beginsAll_22 rfl rfl ?_
        refine v_iload_n (j := 1) C dX8_beginsAll_23 rfl rfl ?_
        refine v_iload_n (j := 2) C dX8_beginsAll_24 rfl rfl ?_
        replace h := chk_some h; obtain ⟨g3, h⟩ := h
        refine v_idiv C dX8_beginsAll_25 (of_decide_eq_true g3) ?_
        refine v_pc (pc' := 26) rfl ?_
        refine v_bipush C dX8_beginsAll_26 ct_b_100 ?_
        refine v_irem C dX8_beginsAll_28 (by decide) ?_
        replace h := bind_ex h; obtain ⟨r4, hr4, h⟩ := h
        refine cv_V C tw_1253 tw_111 tw_1250 tw_1252 tw_100 pd_X8_begins (Nat.le_of_ble_eq_true rfl) (Nat.le_of_ble_eq_true rfl) (q := 234) (kd_lt ks_234 (by decide)) (sh8 ks_234) rfl (As := [.int ((x1 / x2) % 100)]) (rest := []) rfl rfl (Nat.le_of_ble_eq_true rfl) (c_X8_begins l D cA B aK aV M ((x1 / x2) % 100) r4 hr4) dX8_beginsAll_29 ?_
        refine v_iload_n (j := 2) C dX8_beginsAll_32 rfl rfl ?_
        refine v_bipush C dX8_beginsAll_33 ct_b_100 ?_
        refine v_idiv C dX8_beginsAll_35 (by decide) ?_
        replace h := nm_ex h; obtain ⟨y5, ey5, h⟩ := h
        refine v_topI ey5 ?_
        refine v_istore_n (L' := [(2, .int y5), (0, .ref (B + 234)), (1, .int x1)]) C dX8_beginsAll_36 rfl (by decide) rfl ?_
        refine v_pc (pc' := 37) rfl ?_
        refine v_goto (tgt := 18) C dX8_beginsAll_37 (by decide) ?_
        replace h := Option.some.inj h; subst h
        refine v_sub [1, 2, 0] rfl ?_
        exact hc18 (y5, r4) rfl
    replace h := bind_ex h; obtain ⟨z6, hz6, h⟩ := h
    refine v_sub [0, 1, 2] rfl ?_
    refine loopF_walk (Pσ := fun z => V p l e (rmd 1) s m args below meth c 0 0 D cA B 3 Q z.2 18 [(0, .ref (B + 234)), (1, .int x1), (2, .int z.1)] []) (Pρ := fun y => V p l e (rmd 1) s m args below meth c 0 0 D cA B 3 Q y 40 [] []) ?_ FUEL (z2, M) z6 hz6 ?_
    · intro z o hb hc he
      exact LB18 z.2 z.1 o hb hc he
    · replace h := Option.some.inj h; subst h
      subst hQ
      exact v_vret C hr hlk dX8_beginsAll_40
def j_X8_markOf_116 (M : Mem) (x2 : Int32) (x4 : Int32) (s0 : Int32) : Option (Int32 × Mem) :=
  (m_X8_beginsAll M s0).bind fun r1 => if x2 = 2 then (some ((2 * x4, r1))) else (if x2 = 3 then (some ((x4 - 1000, r1))) else (some ((x4, r1))))
def j_X8_markOf_64 (M : Mem) (x1 : Int32) (x2 : Int32) (x3 : Int32) (s0 : Int32) : Option (Int32 × Mem) :=
  (m_X8_beginsAll M s0).bind fun r2 => if x2 = 4 then (some ((x1 - (x3 - 100), r2))) else (some ((x1 - (2 * (x3 - 100)), r2)))
def j_X8_markOf_42 (M : Mem) (x1 : Int32) (x2 : Int32) (x3 : Int32) : Option (Int32 × Mem) :=
  (m_X8_beginsAll M 2320).bind fun r3 => if x2 = 4 then (j_X8_markOf_64 r3 x1 x2 x3 1310) else (j_X8_markOf_64 r3 x1 x2 x3 141310)
def m_X8_markOf (M : Mem) (x1 : Int32) : Option (Int32 × Mem) :=
  chk (inB (5 + x1) 39) (nm (M 239 (5 + x1).toNatClampNeg) fun y5 => chk (inB (10 + x1) 39) (nm (M 239 (10 + x1).toNatClampNeg) fun y7 => chk (inB (15 + x1) 39) (nm (x1 + (M 239 (15 + x1).toNatClampNeg)) fun y9 => if y5 = 4 then (j_X8_markOf_42 M x1 y5 y7) else (if y5 = 5 then (j_X8_markOf_42 M x1 y5 y7) else (if y5 = 2 then (j_X8_markOf_116 M y5 y9 242120) else (if y5 = 3 then (j_X8_markOf_116 M y5 y9 222120) else (j_X8_markOf_116 M y5 y9 2120)))))))
set_option maxHeartbeats 4000000 in
set_option maxRecDepth 100000 in
theorem c_X8_markOf (l : Launch) (D : va_G) (cA : cAt) (B : Nat) (aK aV : Nat → Nat) (M : Mem) (x1 : Int32) (R : Int32 × Mem) (h : m_X8_markOf M x1 = some R) : CI l D cA B aK aV yX8_markOf cX8_markOf 5 .int 2 [.ref (B + 234), .int x1] M R.1 R.2 := by
  refine CI_of (by decide +kernel) (Nat.le_of_ble_eq_true rfl) ?_
  intro p e s m args below meth c C hr hlk
  have C : Cx p (rmd 2) s m args c 0 0 D cA B aK aV cX8_markOf 5 RX8 := C
  generalize hQ : MQ below _ args s 0 0 _ = Q
  refine v_eq (M' := M) (pc' := 0) (L' := [(0, .ref (B + 234)), (1, .int x1)]) (st' := []) ?_
  unfold m_X8_markOf at h
  have J116 : ∀ (M : Mem) (x2 : Int32) (x4 : Int32) (s0 : Int32), j_X8_markOf_116 M x2 x4 s0 = some R → V p l e (rmd 2) s m args below meth c 0 0 D cA B 5 Q M 116 [(2, .int x2), (4, .int x4)] [.int s0, .ref (B + 234)] := by
    intro M x2 x4 s0 h
    unfold j_X8_markOf_116 at h
    replace h := bind_ex h; obtain ⟨r1, hr1, h⟩ := h
    refine cv_V C tw_1249 tw_111 tw_1246 tw_1248 tw_99 pd_X8_beginsAll (Nat.le_of_ble_eq_true rfl) (Nat.le_of_ble_eq_true rfl) (q := 234) (kd_lt ks_234 (by decide)) (sh8 ks_234) rfl (As := [.int s0]) (rest := []) rfl rfl (Nat.le_of_ble_eq_true rfl) (c_X8_beginsAll l D cA B aK aV M s0 r1 hr1) dX8_markOf_116 ?_
    refine v_iload_n (j := 0) C dX8_markOf_119 rfl rfl ?_
    refine v_iconst C dX8_markOf_120 ct_i_2 ?_
    refine v_icmp_ne (tgt := 131) C dX8_markOf_121 (by decide) (fun g => ?_) (fun g => ?_)
    · replace h := ite_t g h
      refine v_iconst C dX8_markOf_124 ct_i_2 ?_
      refine v_iload (j := 1) C dX8_markOf_125 rfl ?_
      refine v_pc (pc' := 127) rfl ?_
      refine v_imul C dX8_markOf_127 ?_
      refine v_goto (tgt := 147) C dX8_markOf_128 (by decide) ?_
      replace h := Option.some.inj h; subst h
      subst hQ
      exact v_iret C hr hlk dX8_markOf_147
    · replace h := ite_f g h
      refine v_iload_n (j := 0) C dX8_markOf_131 rfl rfl ?_
      refine v_iconst C dX8_markOf_132 ct_i_3 ?_
      refine v_icmp_ne (tgt := 145) C dX8_markOf_133 (by decide) (fun g => ?_) (fun g => ?_)
      · replace h := ite_t g h
        refine v_iload (j := 1) C dX8_markOf_136 rfl ?_
        refine v_sipush C dX8_markOf_138 ct_s_1000 ?_
        refine v_isub C dX8_markOf_141 ?_
        refine v_pc (pc' := 142) rfl ?_
        refine v_goto (tgt := 147) C dX8_markOf_142 (by decide) ?_
        replace h := Option.some.inj h; subst h
        subst hQ
        exact v_iret C hr hlk dX8_markOf_147
      · replace h := ite_f g h
        refine v_iload (j := 1) C dX8_markOf_145 rfl ?_
        replace h := Option.some.inj h; subst h
        subst hQ
        exact v_iret C hr hlk dX8_markOf_147
  have J64 : ∀ (M : Mem) (x2 : Int32) (x3 : Int32) (s0 : Int32), j_X8_markOf_64 M x1 x2 x3 s0 = some R → V p l e (rmd 2) s m args below meth c 0 0 D cA B 5 Q M 64 [(1, .int x1), (2, .int x2), (3, .int x3)] [.int s0, .ref (B + 234)] := by
    intro M x2 x3 s0 h
    unfold j_X8_markOf_64 at h
    replace h := bind_ex h; obtain ⟨r2, hr2, h⟩ := h
    refine cv_V C tw_1249 tw_111 tw_1246 tw_1248 tw_99 pd_X8_beginsAll (Nat.le_of_ble_eq_true rfl) (Nat.le_of_ble_eq_true rfl) (q := 234) (kd_lt ks_234 (by decide)) (sh8 ks_234) rfl (As := [.int s0]) (rest := []) rfl rfl (Nat.le_of_ble_eq_true rfl) (c_X8_beginsAll l D cA B aK aV M s0 r2 hr2) dX8_markOf_64 ?_
    refine v_iload_n (j := 1) C dX8_markOf_67 rfl rfl ?_
    refine v_iconst C dX8_markOf_68 ct_i_4 ?_
    refine v_icmp_ne (tgt := 81) C dX8_markOf_69 (by decide) (fun g => ?_) (fun g => ?_)
    · replace h := ite_t g h
      refine v_iload_n (j := 0) C dX8_markOf_72 rfl rfl ?_
      refine v_iload_n (j := 2) C dX8_markOf_73 rfl rfl ?_
      refine v_pc (pc' := 74) rfl ?_
      refine v_bipush C dX8_markOf_74 ct_b_100 ?_
      refine v_isub C dX8_markOf_76 ?_
      refine v_isub C dX8_markOf_77 ?_
      refine v_goto (tgt := 89) C dX8_markOf_78 (by decide) ?_
      replace h := Option.some.inj h; subst h
      subst hQ
      exact v_iret C hr hlk dX8_markOf_89
    · replace h := ite_f g h
      refine v_iload_n (j := 0) C dX8_markOf_81 rfl rfl ?_
      refine v_iconst C dX8_markOf_82 ct_i_2 ?_
      refine v_iload_n (j := 2) C dX8_markOf_83 rfl rfl ?_
      refine v_bipush C dX8_markOf_84 ct_b_100 ?_
      refine v_isub C dX8_markOf_86 ?_
      refine v_imul C dX8_markOf_87 ?_
      refine v_pc (pc' := 88) rfl ?_
      refine v_isub C dX8_markOf_88 ?_
      replace h := Option.some.inj h; subst h
      subst hQ
      exact v_iret C hr hlk dX8_markOf_89
  have J42 : ∀ (M : Mem) (x2 : Int32) (x3 : Int32), j_X8_markOf_42 M x1 x2 x3 = some R → V p l e (rmd 2) s m args below meth c 0 0 D cA B 5 Q M 42 [(0, .ref (B + 234)), (1, .int x1), (2, .int x2), (3, .int x3)] [] := by
    intro M x2 x3 h
    unfold j_X8_markOf_42 at h
    refine v_aload_nR (j := 0) C dX8_markOf_42 rfl rfl ?_
    refine v_sipush C dX8_markOf_43 ct_s_2320 ?_
    replace h := bind_ex h; obtain ⟨r3, hr3, h⟩ := h
    refine cv_V C tw_1249 tw_111 tw_1246 tw_1248 tw_99 pd_X8_beginsAll (Nat.le_of_ble_eq_true rfl) (Nat.le_of_ble_eq_true rfl) (q := 234) (kd_lt ks_234 (by decide)) (sh8 ks_234) rfl (As := [.int 2320]) (rest := []) rfl rfl (Nat.le_of_ble_eq_true rfl) (c_X8_beginsAll l D cA B aK aV M 2320 r3 hr3) dX8_markOf_46 ?_
    refine v_aload_nR (j := 0) C dX8_markOf_49 rfl rfl ?_
    refine v_iload_n (j := 2) C dX8_markOf_50 rfl rfl ?_
    refine v_iconst C dX8_markOf_51 ct_i_4 ?_
    refine v_pc (pc' := 52) rfl ?_
    refine v_icmp_ne (tgt := 61) C dX8_markOf_52 (by decide) (fun g => ?_) (fun g => ?_)
    · replace h := ite_t g h
      refine v_sipush C dX8_markOf_55 ct_s_1310 ?_
      refine v_goto (tgt := 64) C dX8_markOf_58 (by decide) ?_
      refine v_sub [1, 2, 3] rfl ?_
      exact J64 r3 x2 x3 1310 h
    · replace h := ite_f g h
      refine v_ldcw C tw_1245 dX8_markOf_61 ?_
      refine v_sub [1, 2, 3] rfl ?_
      exact J64 r3 x2 x3 141310 h
  refine v_aload_nR (j := 0) C dX8_markOf_0 rfl rfl ?_
  refine gf_X8_22 C ks_234 dX8_markOf_1 ?_
  refine v_iconst C dX8_markOf_4 ct_i_5 ?_
  refine v_iload_n (j := 1) C dX8_markOf_5 rfl rfl ?_
  refine v_iadd C dX8_markOf_6 ?_
  replace h := chk_some h; obtain ⟨g4, h⟩ := h
  refine v_iald C ks_239 (inB_vp g4) dX8_markOf_7 ?_
  refine v_pc (pc' := 8) rfl ?_
  replace h := nm_ex h; obtain ⟨y5, ey5, h⟩ := h
  refine v_topI ey5 ?_
  refine v_istore_n (L' := [(2, .int y5), (0, .ref (B + 234)), (1, .int x1)]) C dX8_markOf_8 rfl (by decide) rfl ?_
  refine v_aload_nR (j := 1) C dX8_markOf_9 rfl rfl ?_
  refine gf_X8_22 C ks_234 dX8_markOf_10 ?_
  refine v_bipush C dX8_markOf_13 ct_b_10 ?_
  refine v_iload_n (j := 2) C dX8_markOf_15 rfl rfl ?_
  refine v_iadd C dX8_markOf_16 ?_
  replace h := chk_some h; obtain ⟨g6, h⟩ := h
  refine v_iald C ks_239 (inB_vp g6) dX8_markOf_17 ?_
  refine v_pc (pc' := 18) rfl ?_
  replace h := nm_ex h; obtain ⟨y7, ey7, h⟩ := h
  refine v_topI ey7 ?_
  refine v_istore_n (L' := [(3, .int y7), (2, .int y5), (0, .ref (B + 234)), (1, .int x1)]) C dX8_markOf_18 rfl (by decide) rfl ?_
  refine v_iload_n (j := 3) C dX8_markOf_19 rfl rfl ?_
  refine v_aload_nR (j := 2) C dX8_markOf_20 rfl rfl ?_
  refine gf_X8_22 C ks_234 dX8_markOf_21 ?_
  refine v_bipush C dX8_markOf_24 ct_b_15 ?_
  refine v_iload_n (j := 3) C dX8_markOf_26 rfl rfl ?_
  refine v_iadd C dX8_markOf_27 ?_
  refine v_pc (pc' := 28) rfl ?_
  replace h := chk_some h; obtain ⟨g8, h⟩ := h
  refine v_iald C ks_239 (inB_vp g8) dX8_markOf_28 ?_
  refine v_iadd C dX8_markOf_29 ?_
  replace h := nm_ex h; obtain ⟨y9, ey9, h⟩ := h
  refine v_topI ey9 ?_
  refine v_istore (L' := [(4, .int y9), (3, .int y7), (2, .int y5), (0, .ref (B + 234)), (1, .int x1)]) C dX8_markOf_30 (by decide) rfl ?_
  refine v_iload_n (j := 2) C dX8_markOf_32 rfl rfl ?_
  refine v_iconst C dX8_markOf_33 ct_i_4 ?_
  refine v_icmp_eq (tgt := 42) C dX8_markOf_34 (by decide) (fun g => ?_) (fun g => ?_)
  · replace h := ite_t g h
    refine v_sub [3, 4, 2, 1] rfl ?_
    exact J42 M y5 y7 h
  · replace h := ite_f g h
    refine v_iload_n (j := 2) C dX8_markOf_37 rfl rfl ?_
    refine v_pc (pc' := 38) rfl ?_
    refine v_iconst C dX8_markOf_38 ct_i_5 ?_
    refine v_icmp_ne (tgt := 90) C dX8_markOf_39 (by decide) (fun g => ?_) (fun g => ?_)
    · replace h := ite_t g h
      refine v_sub [3, 4, 2, 1] rfl ?_
      exact J42 M y5 y7 h
    · replace h := ite_f g h
      refine v_aload_nR (j := 3) C dX8_markOf_90 rfl rfl ?_
      refine v_iload_n (j := 2) C dX8_markOf_91 rfl rfl ?_
      refine v_iconst C dX8_markOf_92 ct_i_2 ?_
      refine v_icmp_ne (tgt := 102) C dX8_markOf_93 (by decide) (fun g => ?_) (fun g => ?_)
      · replace h := ite_t g h
        refine v_ldcw C tw_1258 dX8_markOf_96 ?_
        refine v_goto (tgt := 116) C dX8_markOf_99 (by decide) ?_
        refine v_sub [2, 0] rfl ?_
        exact J116 M y5 y9 242120 h
      · replace h := ite_f g h
        refine v_iload_n (j := 2) C dX8_markOf_102 rfl rfl ?_
        refine v_iconst C dX8_markOf_103 ct_i_3 ?_
        refine v_icmp_ne (tgt := 113) C dX8_markOf_104 (by decide) (fun g => ?_) (fun g => ?_)
        · replace h := ite_t g h
          refine v_ldcw C tw_1259 dX8_markOf_107 ?_
          refine v_goto (tgt := 116) C dX8_markOf_110 (by decide) ?_
          refine v_sub [2, 0] rfl ?_
          exact J116 M y5 y9 222120 h
        · replace h := ite_f g h
          refine v_sipush C dX8_markOf_113 ct_s_2120 ?_
          refine v_sub [2, 0] rfl ?_
          exact J116 M y5 y9 2120 h
def j_X8_sizeOf_56 (M : Mem) (x1 : Int32) (x2 : Int32) (x3 : Int32) (s0 : Int32) : Option (Int32 × Mem) :=
  (m_X8_beginsAll M s0).bind fun r1 => if x2 < 4 then ((m_X8_markOf r1 x1).bind fun r2 => nm (x3 + r2.1) fun y3 => if x2 = 2 then (some ((-y3, r2.2))) else (some ((y3, r2.2)))) else (if x2 = 4 then (some ((x3 - 100, r1))) else (some ((2 * (x3 - 100), r1))))
def m_X8_sizeOf (M : Mem) (x1 : Int32) : Option (Int32 × Mem) :=
  chk (inB (5 + x1) 39) (nm (M 239 (5 + x1).toNatClampNeg) fun y5 => chk (inB (10 + x1) 39) (nm (M 239 (10 + x1).toNatClampNeg) fun y7 => if y5 = 2 then (j_X8_sizeOf_56 M x1 y5 y7 121110) else (if 4 ≤ y5 then (if y5 = 4 then (j_X8_sizeOf_56 M x1 y5 y7 1310) else (j_X8_sizeOf_56 M x1 y5 y7 141310)) else (j_X8_sizeOf_56 M x1 y5 y7 1110))))
set_option maxHeartbeats 4000000 in
set_option maxRecDepth 100000 in
theorem c_X8_sizeOf (l : Launch) (D : va_G) (cA : cAt) (B : Nat) (aK aV : Nat → Nat) (M : Mem) (x1 : Int32) (R : Int32 × Mem) (h : m_X8_sizeOf M x1 = some R) : CI l D cA B aK aV yX8_sizeOf cX8_sizeOf 5 .int 3 [.ref (B + 234), .int x1] M R.1 R.2 := by
  refine CI_of (by decide +kernel) (Nat.le_of_ble_eq_true rfl) ?_
  intro p e s m args below meth c C hr hlk
  have C : Cx p (rmd 3) s m args c 0 0 D cA B aK aV cX8_sizeOf 5 RX8 := C
  generalize hQ : MQ below _ args s 0 0 _ = Q
  refine v_eq (M' := M) (pc' := 0) (L' := [(0, .ref (B + 234)), (1, .int x1)]) (st' := []) ?_
  unfold m_X8_sizeOf at h
  have J56 : ∀ (M : Mem) (x2 : Int32) (x3 : Int32) (s0 : Int32), j_X8_sizeOf_56 M x1 x2 x3 s0 = some R → V p l e (rmd 3) s m args below meth c 0 0 D cA B 5 Q M 56 [(0, .ref (B + 234)), (1, .int x1), (2, .int x2), (3, .int x3)] [.int s0, .ref (B + 234)] := by
    intro M x2 x3 s0 h
    unfold j_X8_sizeOf_56 at h
    replace h := bind_ex h; obtain ⟨r1, hr1, h⟩ := h
    refine cv_V C tw_1249 tw_111 tw_1246 tw_1248 tw_99 pd_X8_beginsAll (Nat.le_of_ble_eq_true rfl) (Nat.le_of_ble_eq_true rfl) (q := 234) (kd_lt ks_234 (by decide)) (sh8 ks_234) rfl (As := [.int s0]) (rest := []) rfl rfl (Nat.le_of_ble_eq_true rfl) (c_X8_beginsAll l D cA B aK aV M s0 r1 hr1) dX8_sizeOf_56 ?_
    refine v_iload_n (j := 2) C dX8_sizeOf_59 rfl rfl ?_
    refine v_iconst C dX8_sizeOf_60 ct_i_4 ?_
    refine v_icmp_lt (tgt := 83) C dX8_sizeOf_61 (by decide) (fun g => ?_) (fun g => ?_)
    · replace h := ite_t g h
      refine v_iload_n (j := 3) C dX8_sizeOf_83 rfl rfl ?_
      refine v_aload_nR (j := 0) C dX8_sizeOf_84 rfl rfl ?_
      refine v_iload_n (j := 1) C dX8_sizeOf_85 rfl rfl ?_
      replace h := bind_ex h; obtain ⟨r2, hr2, h⟩ := h
      refine cv_I C tw_1257 tw_111 tw_1254 tw_1256 tw_101 pd_X8_markOf (Nat.le_of_ble_eq_true rfl) (Nat.le_of_ble_eq_true rfl) (q := 234) (kd_lt ks_234 (by decide)) (sh8 ks_234) rfl (As := [.int x1]) (rest := [.int x3]) rfl rfl (Nat.le_of_ble_eq_true rfl) (c_X8_markOf l D cA B aK aV r1 x1 r2 hr2) dX8_sizeOf_86 ?_
      refine v_iadd C dX8_sizeOf_89 ?_
      replace h := nm_ex h; obtain ⟨y3, ey3, h⟩ := h
      refine v_topI ey3 ?_
      refine v_istore (L' := [(4, .int y3), (0, .ref (B + 234)), (1, .int x1), (2, .int x2), (3, .int x3)]) C dX8_sizeOf_90 (by decide) rfl ?_
      refine v_pc (pc' := 92) rfl ?_
      refine v_iload_n (j := 3) C dX8_sizeOf_92 rfl rfl ?_
      refine v_iconst C dX8_sizeOf_93 ct_i_2 ?_
      refine v_icmp_ne (tgt := 103) C dX8_sizeOf_94 (by decide) (fun g => ?_) (fun g => ?_)
      · replace h := ite_t g h
        refine v_iload (j := 0) C dX8_sizeOf_97 rfl ?_
        refine v_ineg C dX8_sizeOf_99 ?_
        refine v_goto (tgt := 105) C dX8_sizeOf_100 (by decide) ?_
        replace h := Option.some.inj h; subst h
        subst hQ
        exact v_iret C hr hlk dX8_sizeOf_105
      · replace h := ite_f g h
        refine v_iload (j := 0) C dX8_sizeOf_103 rfl ?_
        replace h := Option.some.inj h; subst h
        subst hQ
        exact v_iret C hr hlk dX8_sizeOf_105
    · replace h := ite_f g h
      refine v_iload_n (j := 2) C dX8_sizeOf_64 rfl rfl ?_
      refine v_iconst C dX8_sizeOf_65 ct_i_4 ?_
      refine v_pc (pc' := 66) rfl ?_
      refine v_icmp_ne (tgt := 76) C dX8_sizeOf_66 (by decide) (fun g => ?_) (fun g => ?_)
      · replace h := ite_t g h
        refine v_iload_n (j := 3) C dX8_sizeOf_69 rfl rfl ?_
        refine v_bipush C dX8_sizeOf_70 ct_b_100 ?_
        refine v_isub C dX8_sizeOf_72 ?_
        refine v_goto (tgt := 82) C dX8_sizeOf_73 (by decide) ?_
        replace h := Option.some.inj h; subst h
        subst hQ
        exact v_iret C hr hlk dX8_sizeOf_82
      · replace h := ite_f g h
        refine v_iconst C dX8_sizeOf_76 ct_i_2 ?_
        refine v_iload_n (j := 3) C dX8_sizeOf_77 rfl rfl ?_
        refine v_bipush C dX8_sizeOf_78 ct_b_100 ?_
        refine v_isub C dX8_sizeOf_80 ?_
        refine v_imul C dX8_sizeOf_81 ?_
        replace h := Option.some.inj h; subst h
        subst hQ
        exact v_iret C hr hlk dX8_sizeOf_82
  refine v_aload_nR (j := 0) C dX8_sizeOf_0 rfl rfl ?_
  refine gf_X8_22 C ks_234 dX8_sizeOf_1 ?_
  refine v_iconst C dX8_sizeOf_4 ct_i_5 ?_
  refine v_iload_n (j := 1) C dX8_sizeOf_5 rfl rfl ?_
  refine v_iadd C dX8_sizeOf_6 ?_
  replace h := chk_some h; obtain ⟨g4, h⟩ := h
  refine v_iald C ks_239 (inB_vp g4) dX8_sizeOf_7 ?_
  refine v_pc (pc' := 8) rfl ?_
  replace h := nm_ex h; obtain ⟨y5, ey5, h⟩ := h
  refine v_topI ey5 ?_
  refine v_istore_n (L' := [(2, .int y5), (0, .ref (B + 234)), (1, .int x1)]) C dX8_sizeOf_8 rfl (by decide) rfl ?_
  refine v_aload_nR (j := 1) C dX8_sizeOf_9 rfl rfl ?_
  refine gf_X8_22 C ks_234 dX8_sizeOf_10 ?_
  refine v_bipush C dX8_sizeOf_13 ct_b_10 ?_
  refine v_iload_n (j := 2) C dX8_sizeOf_15 rfl rfl ?_
  refine v_iadd C dX8_sizeOf_16 ?_
  replace h := chk_some h; obtain ⟨g6, h⟩ := h
  refine v_iald C ks_239 (inB_vp g6) dX8_sizeOf_17 ?_
  refine v_pc (pc' := 18) rfl ?_
  replace h := nm_ex h; obtain ⟨y7, ey7, h⟩ := h
  refine v_topI ey7 ?_
  refine v_istore_n (L' := [(3, .int y7), (2, .int y5), (0, .ref (B + 234)), (1, .int x1)]) C dX8_sizeOf_18 rfl (by decide) rfl ?_
  refine v_aload_nR (j := 2) C dX8_sizeOf_19 rfl rfl ?_
  refine v_iload_n (j := 1) C dX8_sizeOf_20 rfl rfl ?_
  refine v_iconst C dX8_sizeOf_21 ct_i_2 ?_
  refine v_icmp_ne (tgt := 31) C dX8_sizeOf_22 (by decide) (fun g => ?_) (fun g => ?_)
  · replace h := ite_t g h
    refine v_ldcw C tw_1244 dX8_sizeOf_25 ?_
    refine v_goto (tgt := 56) C dX8_sizeOf_28 (by decide) ?_
    refine v_sub [2, 3, 1, 0] rfl ?_
    exact J56 M y5 y7 121110 h
  · replace h := ite_f g h
    refine v_iload_n (j := 1) C dX8_sizeOf_31 rfl rfl ?_
    refine v_iconst C dX8_sizeOf_32 ct_i_4 ?_
    refine v_icmp_ge (tgt := 42) C dX8_sizeOf_33 (by decide) (fun g => ?_) (fun g => ?_)
    · replace h := ite_t g h
      refine v_iload_n (j := 1) C dX8_sizeOf_42 rfl rfl ?_
      refine v_iconst C dX8_sizeOf_43 ct_i_4 ?_
      refine v_icmp_ne (tgt := 53) C dX8_sizeOf_44 (by decide) (fun g => ?_) (fun g => ?_)
      · replace h := ite_t g h
        refine v_sipush C dX8_sizeOf_47 ct_s_1310 ?_
        refine v_goto (tgt := 56) C dX8_sizeOf_50 (by decide) ?_
        refine v_sub [2, 3, 1, 0] rfl ?_
        exact J56 M y5 y7 1310 h
      · replace h := ite_f g h
        refine v_ldcw C tw_1245 dX8_sizeOf_53 ?_
        refine v_sub [2, 3, 1, 0] rfl ?_
        exact J56 M y5 y7 141310 h
    · replace h := ite_f g h
      refine v_sipush C dX8_sizeOf_36 ct_s_1110 ?_
      refine v_goto (tgt := 56) C dX8_sizeOf_39 (by decide) ?_
      refine v_sub [2, 3, 1, 0] rfl ?_
      exact J56 M y5 y7 1110 h
def m_X8_ask (M : Mem) (x1 : Int32) (x2 : Int32) : Option (Int32 × Mem) :=
  (m_X8_isChild M x1).bind fun r1 => if r1 = 0 then (some (((-1000001), M))) else ((m_X8_in M x2.toInt64 0 1).bind fun r2 => if r2 = 0 then (some (((-1000001), M))) else (nm (mset M 234 14 0) fun M3 => if x2 = 0 then ((m_X8_sizeOf M3 x1).bind fun r5 => some ((r5.1, r5.2))) else ((m_X8_markOf M3 x1).bind fun r4 => some ((r4.1, r4.2)))))
set_option maxHeartbeats 4000000 in
set_option maxRecDepth 100000 in
theorem c_X8_ask (l : Launch) (D : va_G) (cA : cAt) (B : Nat) (aK aV : Nat → Nat) (M : Mem) (x1 : Int32) (x2 : Int32) (R : Int32 × Mem) (h : m_X8_ask M x1 x2 = some R) : CI l D cA B aK aV yX8_ask cX8_ask 3 .int 4 [.ref (B + 234), .int x1, .int x2] M R.1 R.2 := by
  refine CI_of (by decide +kernel) (Nat.le_of_ble_eq_true rfl) ?_
  intro p e s m args below meth c C hr hlk
  have C : Cx p (rmd 4) s m args c 0 0 D cA B aK aV cX8_ask 3 RX8 := C
  generalize hQ : MQ below _ args s 0 0 _ = Q
  refine v_eq (M' := M) (pc' := 0) (L' := [(0, .ref (B + 234)), (1, .int x1), (2, .int x2)]) (st' := []) ?_
  unfold m_X8_ask at h
  refine v_aload_nR (j := 0) C dX8_ask_0 rfl rfl ?_
  refine v_iload_n (j := 1) C dX8_ask_1 rfl rfl ?_
  replace h := bind_ex h; obtain ⟨r1, hr1, h⟩ := h
  refine cv_I C tw_1128 tw_111 tw_1125 tw_1127 tw_91 pd_X8_isChild (Nat.le_of_ble_eq_true rfl) (Nat.le_of_ble_eq_true rfl) (q := 234) (kd_lt ks_234 (by decide)) (sh8 ks_234) rfl (As := [.int x1]) (rest := []) rfl rfl (Nat.le_of_ble_eq_true rfl) (c_X8_isChild l D cA B aK aV M x1 r1 hr1) dX8_ask_2 ?_
  refine v_if_eq (tgt := 18) C dX8_ask_5 (by decide) (fun g => ?_) (fun g => ?_)
  · replace h := ite_t g h
    refine v_ldc C tw_981 dX8_ask_18 ?_
    replace h := Option.some.inj h; subst h
    subst hQ
    exact v_iret C hr hlk dX8_ask_20
  · replace h := ite_f g h
    refine v_iload_n (j := 2) C dX8_ask_8 rfl rfl ?_
    refine v_i2l C dX8_ask_9 ?_
    refine v_pc (pc' := 10) rfl ?_
    refine v_lconst (v := 0) C dX8_ask_10 rfl ?_
    refine v_lconst (v := 1) C dX8_ask_11 rfl ?_
    replace h := bind_ex h; obtain ⟨r2, hr2, h⟩ := h
    refine cs_I C tw_979 tw_111 tw_977 tw_978 pd_X8_in (Nat.le_of_ble_eq_true rfl) (Nat.le_of_ble_eq_true rfl) (As := [.long x2.toInt64, .long 0, .long 1]) (rest := []) rfl rfl (Nat.le_of_ble_eq_true rfl) (c_X8_in l D cA B aK aV M x2.toInt64 0 1 r2 hr2) dX8_ask_12 ?_
    refine v_if_ne (tgt := 21) C dX8_ask_15 (by decide) (fun g => ?_) (fun g => ?_)
    · replace h := ite_t g h
      refine v_ldc C tw_981 dX8_ask_18 ?_
      replace h := Option.some.inj h; subst h
      subst hQ
      exact v_iret C hr hlk dX8_ask_20
    · replace h := ite_f g h
      refine v_aload_nR (j := 0) C dX8_ask_21 rfl rfl ?_
      refine v_iconst C dX8_ask_22 ct_i_0 ?_
      replace h := nm_ex h; obtain ⟨M3, eM3, h⟩ := h
      refine pf_X8_255 C ks_234 dX8_ask_23 ?_
      refine v_mem eM3 ?_
      refine v_iload_n (j := 2) C dX8_ask_26 rfl rfl ?_
      refine v_if_ne (tgt := 38) C dX8_ask_27 (by decide) (fun g => ?_) (fun g => ?_)
      · replace h := ite_t g h
        refine v_aload_nR (j := 0) C dX8_ask_30 rfl rfl ?_
        refine v_pc (pc' := 31) rfl ?_
        refine v_iload_n (j := 1) C dX8_ask_31 rfl rfl ?_
        replace h := bind_ex h; obtain ⟨r5, hr5, h⟩ := h
        refine cv_I C tw_1243 tw_111 tw_1240 tw_1242 tw_98 pd_X8_sizeOf (Nat.le_of_ble_eq_true rfl) (Nat.le_of_ble_eq_true rfl) (q := 234) (kd_lt ks_234 (by decide)) (sh8 ks_234) rfl (As := [.int x1]) (rest := []) rfl rfl (Nat.le_of_ble_eq_true rfl) (c_X8_sizeOf l D cA B aK aV M3 x1 r5 hr5) dX8_ask_32 ?_
        refine v_goto (tgt := 43) C dX8_ask_35 (by decide) ?_
        replace h := Option.some.inj h; subst h
        subst hQ
        exact v_iret C hr hlk dX8_ask_43
      · replace h := ite_f g h
        refine v_aload_nR (j := 0) C dX8_ask_38 rfl rfl ?_
        refine v_iload_n (j := 1) C dX8_ask_39 rfl rfl ?_
        replace h := bind_ex h; obtain ⟨r4, hr4, h⟩ := h
        refine cv_I C tw_1257 tw_111 tw_1254 tw_1256 tw_101 pd_X8_markOf (Nat.le_of_ble_eq_true rfl) (Nat.le_of_ble_eq_true rfl) (q := 234) (kd_lt ks_234 (by decide)) (sh8 ks_234) rfl (As := [.int x1]) (rest := []) rfl rfl (Nat.le_of_ble_eq_true rfl) (c_X8_markOf l D cA B aK aV M3 x1 r4 hr4) dX8_ask_40 ?_
        replace h := Option.some.inj h; subst h
        subst hQ
        exact v_iret C hr hlk dX8_ask_43
def m_X8_trace (M : Mem) (x1 : Int32) : Option Int32 :=
  (m_X8_in M x1.toInt64 0 (((M 234 14) - 1).toInt64)).bind fun r1 => if r1 = 0 then (some (-1000000)) else (chk (inB x1 16) (some (M 244 x1.toNatClampNeg)))
set_option maxHeartbeats 4000000 in
set_option maxRecDepth 100000 in
theorem c_X8_trace (l : Launch) (D : va_G) (cA : cAt) (B : Nat) (aK aV : Nat → Nat) (M : Mem) (x1 : Int32) (R : Int32) (h : m_X8_trace M x1 = some R) : CI l D cA B aK aV yX8_trace cX8_trace 2 .int 1 [.ref (B + 234), .int x1] M R M := by
  refine CI_of (by decide +kernel) (Nat.le_of_ble_eq_true rfl) ?_
  intro p e s m args below meth c C hr hlk
  have C : Cx p (rmd 1) s m args c 0 0 D cA B aK aV cX8_trace 2 RX8 := C
  generalize hQ : MQ below _ args s 0 0 _ = Q
  refine v_eq (M' := M) (pc' := 0) (L' := [(0, .ref (B + 234)), (1, .int x1)]) (st' := []) ?_
  unfold m_X8_trace at h
  refine v_iload_n (j := 1) C dX8_trace_0 rfl rfl ?_
  refine v_i2l C dX8_trace_1 ?_
  refine v_lconst (v := 0) C dX8_trace_2 rfl ?_
  refine v_aload_nR (j := 0) C dX8_trace_3 rfl rfl ?_
  refine gf_X8_255 C ks_234 dX8_trace_4 ?_
  refine v_iconst C dX8_trace_7 ct_i_1 ?_
  refine v_pc (pc' := 8) rfl ?_
  refine v_isub C dX8_trace_8 ?_
  refine v_i2l C dX8_trace_9 ?_
  replace h := bind_ex h; obtain ⟨r1, hr1, h⟩ := h
  refine cs_I C tw_979 tw_111 tw_977 tw_978 pd_X8_in (Nat.le_of_ble_eq_true rfl) (Nat.le_of_ble_eq_true rfl) (As := [.long x1.toInt64, .long 0, .long (((M 234 14) - 1).toInt64)]) (rest := []) rfl rfl (Nat.le_of_ble_eq_true rfl) (c_X8_in l D cA B aK aV M x1.toInt64 0 (((M 234 14) - 1).toInt64) r1 hr1) dX8_trace_10 ?_
  refine v_if_eq (tgt := 25) C dX8_trace_13 (by decide) (fun g => ?_) (fun g => ?_)
  · replace h := ite_t g h
    refine v_ldc C tw_1105 dX8_trace_25 ?_
    replace h := Option.some.inj h; subst h
    subst hQ
    exact v_iret C hr hlk dX8_trace_27
  · replace h := ite_f g h
    refine v_aload_nR (j := 0) C dX8_trace_16 rfl rfl ?_
    refine gf_X8_38 C ks_234 dX8_trace_17 ?_
    refine v_iload_n (j := 1) C dX8_trace_20 rfl rfl ?_
    refine v_pc (pc' := 21) rfl ?_
    replace h := chk_some h; obtain ⟨g2, h⟩ := h
    refine v_iald C ks_244 (inB_vp g2) dX8_trace_21 ?_
    refine v_goto (tgt := 27) C dX8_trace_22 (by decide) ?_
    replace h := Option.some.inj h; subst h
    subst hQ
    exact v_iret C hr hlk dX8_trace_27
def b_X8_count_19 (M : Mem) (x1 : Int32) (x2 : Int32) (x3 : Int32) : Option ((Int32 × Int32) ⊕ Int32) :=
  if 8 ≤ x3 then (some (.inr x2)) else (if x1 = 0 then (chk (inB x3 8) (if (M 235 x3.toNatClampNeg) < 0 then (nm (x2 + 0) fun y3 => some (.inl (y3, x3 + 1))) else (nm (x2 + 1) fun y4 => some (.inl (y4, x3 + 1))))) else (some (.inr x2)))
def b_X8_count_54 (M : Mem) (x1 : Int32) (x2 : Int32) (x3 : Int32) : Option ((Int32 × Int32) ⊕ Int32) :=
  if 30 ≤ x3 then (some (.inr x2)) else (if x1 = 2 then (chk (inB 4 39) (nm (x2 + (((M 239 (4 : Int32).toNatClampNeg) >>> (x3 &&& 31)) &&& 1)) fun y7 => some (.inl (y7, x3 + 1)))) else (some (.inr x2)))
def b_X8_count_86 (M : Mem) (x1 : Int32) (x2 : Int32) (x3 : Int32) : Option ((Int32 × Int32) ⊕ Int32) :=
  if 5 ≤ x3 then (some (.inr x2)) else (if x1 = 5 then (chk (inB (20 + x3) 39) (nm (x2 + (M 239 (20 + x3).toNatClampNeg)) fun y10 => some (.inl (y10, x3 + 1)))) else (some (.inr x2)))
def m_X8_count (M : Mem) (x1 : Int32) : Option Int32 :=
  (m_X8_in M x1.toInt64 0 6).bind fun r1 => if r1 = 0 then (some (-1000001)) else ((loopF (fun z => b_X8_count_19 M x1 z.1 z.2) FUEL (0, 0)).bind fun z5 => (loopF (fun z => b_X8_count_54 M x1 z.1 z.2) FUEL (z5, 0)).bind fun z8 => (loopF (fun z => b_X8_count_86 M x1 z.1 z.2) FUEL (z8, 0)).bind fun z11 => if x1 = 1 then (chk (inB 3 39) (some (M 239 (3 : Int32).toNatClampNeg))) else (if x1 = 3 then (chk (inB 1 39) (some (M 239 (1 : Int32).toNatClampNeg))) else (if x1 = 4 then (some (M 234 10)) else (if x1 = 6 then (some (M 234 5)) else (some z11)))))
set_option maxHeartbeats 4000000 in
set_option maxRecDepth 100000 in
theorem c_X8_count (l : Launch) (D : va_G) (cA : cAt) (B : Nat) (aK aV : Nat → Nat) (M : Mem) (x1 : Int32) (R : Int32) (h : m_X8_count M x1 = some R) : CI l D cA B aK aV yX8_count cX8_count 4 .int 1 [.ref (B + 234), .int x1] M R M := by
  refine CI_of (by decide +kernel) (Nat.le_of_ble_eq_true rfl) ?_
  intro p e s m args below meth c C hr hlk
  have C : Cx p (rmd 1) s m args c 0 0 D cA B aK aV cX8_count 4 RX8 := C
  generalize hQ : MQ below _ args s 0 0 _ = Q
  refine v_eq (M' := M) (pc' := 0) (L' := [(0, .ref (B + 234)), (1, .int x1)]) (st' := []) ?_
  unfold m_X8_count at h
  refine v_iload_n (j := 1) C dX8_count_0 rfl rfl ?_
  refine v_i2l C dX8_count_1 ?_
  refine v_lconst (v := 0) C dX8_count_2 rfl ?_
  refine v_ldc2 C tw_1168 dX8_count_3 ?_
  replace h := bind_ex h; obtain ⟨r1, hr1, h⟩ := h
  refine cs_I C tw_979 tw_111 tw_977 tw_978 pd_X8_in (Nat.le_of_ble_eq_true rfl) (Nat.le_of_ble_eq_true rfl) (As := [.long x1.toInt64, .long 0, .long 6]) (rest := []) rfl rfl (Nat.le_of_ble_eq_true rfl) (c_X8_in l D cA B aK aV M x1.toInt64 0 6 r1 hr1) dX8_count_6 ?_
  refine v_if_ne (tgt := 15) C dX8_count_9 (by decide) (fun g => ?_) (fun g => ?_)
  · replace h := ite_t g h
    refine v_pc (pc' := 12) rfl ?_
    refine v_ldc C tw_981 dX8_count_12 ?_
    replace h := Option.some.inj h; subst h
    subst hQ
    exact v_iret C hr hlk dX8_count_14
  · replace h := ite_f g h
    refine v_iconst C dX8_count_15 ct_i_0 ?_
    refine v_istore_n (L' := [(2, .int 0), (0, .ref (B + 234)), (1, .int x1)]) C dX8_count_16 rfl (by decide) rfl ?_
    refine v_iconst C dX8_count_17 ct_i_0 ?_
    refine v_istore_n (L' := [(3, .int 0), (2, .int 0), (0, .ref (B + 234)), (1, .int x1)]) C dX8_count_18 rfl (by decide) rfl ?_
    have LB19 : ∀  (x2 : Int32) (x3 : Int32) (o19 : (Int32 × Int32) ⊕ Int32) (h : b_X8_count_19 M x1 x2 x3 = some o19) (hc19 : ∀ z : Int32 × Int32, o19 = .inl z → V p l e (rmd 1) s m args below meth c 0 0 D cA B 4 Q M 19 [(0, .ref (B + 234)), (1, .int x1), (2, .int z.1), (3, .int z.2)] []) (he19 : ∀ z : Int32, o19 = .inr z → V p l e (rmd 1) s m args below meth c 0 0 D cA B 4 Q M 52 [(0, .ref (B + 234)), (1, .int x1), (2, .int z)] []), V p l e (rmd 1) s m args below meth c 0 0 D cA B 4 Q M 19 [(0, .ref (B + 234)), (1, .int x1), (2, .int x2), (3, .int x3)] [] := by
      intro x2 x3 o19 h hc19 he19
      unfold b_X8_count_19 at h
      refine v_iload_n (j := 3) C dX8_count_19 rfl rfl ?_
      refine v_bipush C dX8_count_20 ct_b_8 ?_
      refine v_icmp_ge (tgt := 52) C dX8_count_22 (by decide) (fun g => ?_) (fun g => ?_)
      · replace h := ite_t g h
        replace h := Option.some.inj h; subst h
        refine v_sub [0, 1, 2] rfl ?_
        exact he19 x2 rfl
      · replace h := ite_f g h
        refine v_iload_n (j := 1) C dX8_count_25 rfl rfl ?_
        refine v_if_ne (tgt := 52) C dX8_count_26 (by decide) (fun g => ?_) (fun g => ?_)
        · replace h := ite_t g h
          refine v_iload_n (j := 2) C dX8_count_29 rfl rfl ?_
          refine v_pc (pc' := 30) rfl ?_
          refine v_aload_nR (j := 0) C dX8_count_30 rfl rfl ?_
          refine gf_X8_7 C ks_234 dX8_count_31 ?_
          refine v_iload_n (j := 3) C dX8_count_34 rfl rfl ?_
          replace h := chk_some h; obtain ⟨g2, h⟩ := h
          refine v_iald C ks_235 (inB_vp g2) dX8_count_35 ?_
          refine v_if_lt (tgt := 43) C dX8_count_36 (by decide) (fun g => ?_) (fun g => ?_)
          · replace h := ite_t g h
            refine v_iconst C dX8_count_43 ct_i_0 ?_
            refine v_iadd C dX8_count_44 ?_
            replace h := nm_ex h; obtain ⟨y3, ey3, h⟩ := h
            refine v_topI ey3 ?_
            refine v_istore_n (L' := [(2, .int y3), (0, .ref (B + 234)), (1, .int x1), (3, .int x3)]) C dX8_count_45 rfl (by decide) rfl ?_
            refine v_iinc (j := 3) (L' := [(3, .int (x3 + 1)), (2, .int y3), (0, .ref (B + 234)), (1, .int x1)]) C dX8_count_46 rfl (congrArg (fun z => _ + z) ct_i_1) (by decide) rfl ?_
            refine v_goto (tgt := 19) C dX8_count_49 (by decide) ?_
            replace h := Option.some.inj h; subst h
            refine v_sub [2, 3, 1, 0] rfl ?_
            exact hc19 (y3, x3 + 1) rfl
          · replace h := ite_f g h
            refine v_iconst C dX8_count_39 ct_i_1 ?_
            refine v_goto (tgt := 44) C dX8_count_40 (by decide) ?_
            refine v_iadd C dX8_count_44 ?_
            replace h := nm_ex h; obtain ⟨y4, ey4, h⟩ := h
            refine v_topI ey4 ?_
            refine v_istore_n (L' := [(2, .int y4), (0, .ref (B + 234)), (1, .int x1), (3, .int x3)]) C dX8_count_45 rfl (by decide) rfl ?_
            refine v_iinc (j := 3) (L' := [(3, .int (x3 + 1)), (2, .int y4), (0, .ref (B + 234)), (1, .int x1)]) C dX8_count_46 rfl (congrArg (fun z => _ + z) ct_i_1) (by decide) rfl ?_
            refine v_goto (tgt := 19) C dX8_count_49 (by decide) ?_
            replace h := Option.some.inj h; subst h
            refine v_sub [2, 3, 1, 0] rfl ?_
            exact hc19 (y4, x3 + 1) rfl
        · replace h := ite_f g h
          replace h := Option.some.inj h; subst h
          refine v_sub [0, 1, 2] rfl ?_
          exact he19 x2 rfl
    replace h := bind_ex h; obtain ⟨z5, hz5, h⟩ := h
    refine v_sub [2, 3, 1, 0] rfl ?_
    refine loopF_walk (Pσ := fun z => V p l e (rmd 1) s m args below meth c 0 0 D cA B 4 Q M 19 [(0, .ref (B + 234)), (1, .int x1), (2, .int z.1), (3, .int z.2)] []) (Pρ := fun y => V p l e (rmd 1) s m args below meth c 0 0 D cA B 4 Q M 52 [(0, .ref (B + 234)), (1, .int x1), (2, .int y)] []) ?_ FUEL (0, 0) z5 hz5 ?_
    · intro z o hb hc he
      exact LB19 z.1 z.2 o hb hc he
    · refine v_iconst C dX8_count_52 ct_i_0 ?_
      refine v_istore_n (L' := [(3, .int 0), (0, .ref (B + 234)), (1, .int x1), (2, .int z5)]) C dX8_count_53 rfl (by decide) rfl ?_
      have LB54 : ∀  (x2 : Int32) (x3 : Int32) (o54 : (Int32 × Int32) ⊕ Int32) (h : b_X8_count_54 M x1 x2 x3 = some o54) (hc54 : ∀ z : Int32 × Int32, o54 = .inl z → V p l e (rmd 1) s m args below meth c 0 0 D cA B 4 Q M 54 [(0, .ref (B + 234)), (1, .int x1), (2, .int z.1), (3, .int z.2)] []) (he54 : ∀ z : Int32, o54 = .inr z → V p l e (rmd 1) s m args below meth c 0 0 D cA B 4 Q M 84 [(0, .ref (B + 234)), (1, .int x1), (2, .int z)] []), V p l e (rmd 1) s m args below meth c 0 0 D cA B 4 Q M 54 [(0, .ref (B + 234)), (1, .int x1), (2, .int x2), (3, .int x3)] [] := by
        intro x2 x3 o54 h hc54 he54
        unfold b_X8_count_54 at h
        refine v_iload_n (j := 3) C dX8_count_54 rfl rfl ?_
        refine v_bipush C dX8_count_55 ct_b_30 ?_
        refine v_icmp_ge (tgt := 84) C dX8_count_57 (by decide) (fun g => ?_) (fun g => ?_)
        · replace h := ite_t g h
          replace h := Option.some.inj h; subst h
          refine v_sub [0, 1, 2] rfl ?_
          exact he54 x2 rfl
        · replace h := ite_f g h
          refine v_iload_n (j := 1) C dX8_count_60 rfl rfl ?_
          refine v_iconst C dX8_count_61 ct_i_2 ?_
          refine v_icmp_ne (tgt := 84) C dX8_count_62 (by decide) (fun g => ?_) (fun g => ?_)
          · replace h := ite_t g h
            refine v_pc (pc' := 65) rfl ?_
            refine v_iload_n (j := 2) C dX8_count_65 rfl rfl ?_
            refine v_aload_nR (j := 0) C dX8_count_66 rfl rfl ?_
            refine gf_X8_22 C ks_234 dX8_count_67 ?_
            refine v_iconst C dX8_count_70 ct_i_4 ?_
            replace h := chk_some h; obtain ⟨g6, h⟩ := h
            refine v_iald C ks_239 (inB_vp g6) dX8_count_71 ?_
            refine v_iload_n (j := 3) C dX8_count_72 rfl rfl ?_
            refine v_ishr C dX8_count_73 ?_
            refine v_pc (pc' := 74) rfl ?_
            refine v_iconst C dX8_count_74 ct_i_1 ?_
            refine v_iand C dX8_count_75 ?_
            refine v_iadd C dX8_count_76 ?_
            replace h := nm_ex h; obtain ⟨y7, ey7, h⟩ := h
            refine v_topI ey7 ?_
            refine v_istore_n (L' := [(2, .int y7), (0, .ref (B + 234)), (1, .int x1), (3, .int x3)]) C dX8_count_77 rfl (by decide) rfl ?_
            refine v_iinc (j := 3) (L' := [(3, .int (x3 + 1)), (2, .int y7), (0, .ref (B + 234)), (1, .int x1)]) C dX8_count_78 rfl (congrArg (fun z => _ + z) ct_i_1) (by decide) rfl ?_
            refine v_goto (tgt := 54) C dX8_count_81 (by decide) ?_
            replace h := Option.some.inj h; subst h
            refine v_sub [2, 3, 1, 0] rfl ?_
            exact hc54 (y7, x3 + 1) rfl
          · replace h := ite_f g h
            replace h := Option.some.inj h; subst h
            refine v_sub [0, 1, 2] rfl ?_
            exact he54 x2 rfl
      replace h := bind_ex h; obtain ⟨z8, hz8, h⟩ := h
      refine v_sub [1, 2, 3, 0] rfl ?_
      refine loopF_walk (Pσ := fun z => V p l e (rmd 1) s m args below meth c 0 0 D cA B 4 Q M 54 [(0, .ref (B + 234)), (1, .int x1), (2, .int z.1), (3, .int z.2)] []) (Pρ := fun y => V p l e (rmd 1) s m args below meth c 0 0 D cA B 4 Q M 84 [(0, .ref (B + 234)), (1, .int x1), (2, .int y)] []) ?_ FUEL (z5, 0) z8 hz8 ?_
      · intro z o hb hc he
        exact LB54 z.1 z.2 o hb hc he
      · refine v_iconst C dX8_count_84 ct_i_0 ?_
        refine v_istore_n (L' := [(3, .int 0), (0, .ref (B + 234)), (1, .int x1), (2, .int z8)]) C dX8_count_85 rfl (by decide) rfl ?_
        have LB86 : ∀  (x2 : Int32) (x3 : Int32) (o86 : (Int32 × Int32) ⊕ Int32) (h : b_X8_count_86 M x1 x2 x3 = some o86) (hc86 : ∀ z : Int32 × Int32, o86 = .inl z → V p l e (rmd 1) s m args below meth c 0 0 D cA B 4 Q M 86 [(0, .ref (B + 234)), (1, .int x1), (2, .int z.1), (3, .int z.2)] []) (he86 : ∀ z : Int32, o86 = .inr z → V p l e (rmd 1) s m args below meth c 0 0 D cA B 4 Q M 114 [(0, .ref (B + 234)), (1, .int x1), (2, .int z)] []), V p l e (rmd 1) s m args below meth c 0 0 D cA B 4 Q M 86 [(0, .ref (B + 234)), (1, .int x1), (2, .int x2), (3, .int x3)] [] := by
          intro x2 x3 o86 h hc86 he86
          unfold b_X8_count_86 at h
          refine v_iload_n (j := 3) C dX8_count_86 rfl rfl ?_
          refine v_iconst C dX8_count_87 ct_i_5 ?_
          refine v_icmp_ge (tgt := 114) C dX8_count_88 (by decide) (fun g => ?_) (fun g => ?_)
          · replace h := ite_t g h
            replace h := Option.some.inj h; subst h
            refine v_sub [0, 1, 2] rfl ?_
            exact he86 x2 rfl
          · replace h := ite_f g h
            refine v_iload_n (j := 1) C dX8_count_91 rfl rfl ?_
            refine v_iconst C dX8_count_92 ct_i_5 ?_
            refine v_icmp_ne (tgt := 114) C dX8_count_93 (by decide) (fun g => ?_) (fun g => ?_)
            · replace h := ite_t g h
              refine v_pc (pc' := 96) rfl ?_
              refine v_iload_n (j := 2) C dX8_count_96 rfl rfl ?_
              refine v_aload_nR (j := 0) C dX8_count_97 rfl rfl ?_
              refine gf_X8_22 C ks_234 dX8_count_98 ?_
              refine v_bipush C dX8_count_101 ct_b_20 ?_
              refine v_iload_n (j := 3) C dX8_count_103 rfl rfl ?_
              refine v_iadd C dX8_count_104 ?_
              replace h := chk_some h; obtain ⟨g9, h⟩ := h
              refine v_iald C ks_239 (inB_vp g9) dX8_count_105 ?_
              refine v_pc (pc' := 106) rfl ?_
              refine v_iadd C dX8_count_106 ?_
              replace h := nm_ex h; obtain ⟨y10, ey10, h⟩ := h
              refine v_topI ey10 ?_
              refine v_istore_n (L' := [(2, .int y10), (0, .ref (B + 234)), (1, .int x1), (3, .int x3)]) C dX8_count_107 rfl (by decide) rfl ?_
              refine v_iinc (j := 3) (L' := [(3, .int (x3 + 1)), (2, .int y10), (0, .ref (B + 234)), (1, .int x1)]) C dX8_count_108 rfl (congrArg (fun z => _ + z) ct_i_1) (by decide) rfl ?_
              refine v_goto (tgt := 86) C dX8_count_111 (by decide) ?_
              replace h := Option.some.inj h; subst h
              refine v_sub [2, 3, 1, 0] rfl ?_
              exact hc86 (y10, x3 + 1) rfl
            · replace h := ite_f g h
              replace h := Option.some.inj h; subst h
              refine v_sub [0, 1, 2] rfl ?_
              exact he86 x2 rfl
        replace h := bind_ex h; obtain ⟨z11, hz11, h⟩ := h
        refine v_sub [1, 2, 3, 0] rfl ?_
        refine loopF_walk (Pσ := fun z => V p l e (rmd 1) s m args below meth c 0 0 D cA B 4 Q M 86 [(0, .ref (B + 234)), (1, .int x1), (2, .int z.1), (3, .int z.2)] []) (Pρ := fun y => V p l e (rmd 1) s m args below meth c 0 0 D cA B 4 Q M 114 [(0, .ref (B + 234)), (1, .int x1), (2, .int y)] []) ?_ FUEL (z8, 0) z11 hz11 ?_
        · intro z o hb hc he
          exact LB86 z.1 z.2 o hb hc he
        · refine v_iload_n (j := 1) C dX8_count_114 rfl rfl ?_
          refine v_iconst C dX8_count_115 ct_i_1 ?_
          refine v_icmp_ne (tgt := 128) C dX8_count_116 (by decide) (fun g => ?_) (fun g => ?_)
          · replace h := ite_t g h
            refine v_aload_nR (j := 0) C dX8_count_119 rfl rfl ?_
            refine gf_X8_22 C ks_234 dX8_count_120 ?_
            refine v_iconst C dX8_count_123 ct_i_3 ?_
            refine v_pc (pc' := 124) rfl ?_
            replace h := chk_some h; obtain ⟨g13, h⟩ := h
            refine v_iald C ks_239 (inB_vp g13) dX8_count_124 ?_
            refine v_goto (tgt := 168) C dX8_count_125 (by decide) ?_
            replace h := Option.some.inj h; subst h
            subst hQ
            exact v_iret C hr hlk dX8_count_168
          · replace h := ite_f g h
            refine v_iload_n (j := 1) C dX8_count_128 rfl rfl ?_
            refine v_iconst C dX8_count_129 ct_i_3 ?_
            refine v_icmp_ne (tgt := 142) C dX8_count_130 (by decide) (fun g => ?_) (fun g => ?_)
            · replace h := ite_t g h
              refine v_aload_nR (j := 0) C dX8_count_133 rfl rfl ?_
              refine gf_X8_22 C ks_234 dX8_count_134 ?_
              refine v_iconst C dX8_count_137 ct_i_1 ?_
              refine v_pc (pc' := 138) rfl ?_
              replace h := chk_some h; obtain ⟨g12, h⟩ := h
              refine v_iald C ks_239 (inB_vp g12) dX8_count_138 ?_
              refine v_goto (tgt := 168) C dX8_count_139 (by decide) ?_
              replace h := Option.some.inj h; subst h
              subst hQ
              exact v_iret C hr hlk dX8_count_168
            · replace h := ite_f g h
              refine v_iload_n (j := 1) C dX8_count_142 rfl rfl ?_
              refine v_iconst C dX8_count_143 ct_i_4 ?_
              refine v_icmp_ne (tgt := 154) C dX8_count_144 (by decide) (fun g => ?_) (fun g => ?_)
              · replace h := ite_t g h
                refine v_aload_nR (j := 0) C dX8_count_147 rfl rfl ?_
                refine gf_X8_164 C ks_234 dX8_count_148 ?_
                refine v_goto (tgt := 168) C dX8_count_151 (by decide) ?_
                replace h := Option.some.inj h; subst h
                subst hQ
                exact v_iret C hr hlk dX8_count_168
              · replace h := ite_f g h
                refine v_iload_n (j := 1) C dX8_count_154 rfl rfl ?_
                refine v_bipush C dX8_count_155 ct_b_6 ?_
                refine v_icmp_ne (tgt := 167) C dX8_count_157 (by decide) (fun g => ?_) (fun g => ?_)
                · replace h := ite_t g h
                  refine v_aload_nR (j := 0) C dX8_count_160 rfl rfl ?_
                  refine gf_X8_76 C ks_234 dX8_count_161 ?_
                  refine v_goto (tgt := 168) C dX8_count_164 (by decide) ?_
                  replace h := Option.some.inj h; subst h
                  subst hQ
                  exact v_iret C hr hlk dX8_count_168
                · replace h := ite_f g h
                  refine v_iload_n (j := 2) C dX8_count_167 rfl rfl ?_
                  replace h := Option.some.inj h; subst h
                  subst hQ
                  exact v_iret C hr hlk dX8_count_168
def m_X8_status (M : Mem) : Option Int32 :=
  some (M 234 0)
set_option maxHeartbeats 4000000 in
set_option maxRecDepth 100000 in
theorem c_X8_status (l : Launch) (D : va_G) (cA : cAt) (B : Nat) (aK aV : Nat → Nat) (M : Mem) (R : Int32) (h : m_X8_status M = some R) : CI l D cA B aK aV yX8_status cX8_status 1 .int 0 [.ref (B + 234)] M R M := by
  refine CI_of (by decide +kernel) (Nat.le_of_ble_eq_true rfl) ?_
  intro p e s m args below meth c C hr hlk
  have C : Cx p (rmd 0) s m args c 0 0 D cA B aK aV cX8_status 1 RX8 := C
  generalize hQ : MQ below _ args s 0 0 _ = Q
  refine v_eq (M' := M) (pc' := 0) (L' := [(0, .ref (B + 234))]) (st' := []) ?_
  unfold m_X8_status at h
  refine v_aload_nR (j := 0) C dX8_status_0 rfl rfl ?_
  refine gf_X8_53 C ks_234 dX8_status_1 ?_
  replace h := Option.some.inj h; subst h
  subst hQ
  exact v_iret C hr hlk dX8_status_4
