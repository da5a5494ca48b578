def m_X4_holds (M : Mem) (x0 : Nat) (x1 : Int32) (x2 : Int32) : Option Int32 :=
  if x1 < 0 then (some 0) else (if x2 < 0 then (some 0) else (if ((M x0 2) - x2) < x1 then (some 0) else (some 1)))
set_option maxHeartbeats 4000000 in
set_option maxRecDepth 100000 in
theorem c_X4_holds (l : Launch) (D : va_G) (cA : cAt) (B : Nat) (aK aV : Nat → Nat) (M : Mem) (x0 : Nat) (x1 : Int32) (x2 : Int32) (k0 : kd x0 = 4) (R : Int32) (h : m_X4_holds M x0 x1 x2 = some R) : CI l D cA B aK aV yX4_holds cX4_holds 3 .boolean 0 [.ref (B + x0), .int x1, .int x2] M R M := by
  refine CI_of (by decide +kernel) (Nat.le_of_ble_eq_true rfl) ?_
  intro p e s m args below meth c C hr hlk
  have C : Cx p (rmd 0) s m args c 0 0 D cA B aK aV cX4_holds 3 RX4 := C
  generalize hQ : MQ below _ args s 0 0 _ = Q
  refine v_eq (M' := M) (pc' := 0) (L' := [(0, .ref (B + x0)), (1, .int x1), (2, .int x2)]) (st' := []) ?_
  unfold m_X4_holds at h
  refine v_iload_n (j := 1) C dX4_holds_0 rfl rfl ?_
  refine v_if_lt (tgt := 22) C dX4_holds_1 (by decide) (fun g => ?_) (fun g => ?_)
  · replace h := ite_t g h
    refine v_iconst C dX4_holds_22 ct_i_0 ?_
    replace h := Option.some.inj h; subst h
    subst hQ
    exact v_zret C hr hlk (show narrow .boolean (.int 0) = .int 0 from rfl) dX4_holds_23
  · replace h := ite_f g h
    refine v_iload_n (j := 2) C dX4_holds_4 rfl rfl ?_
    refine v_if_lt (tgt := 22) C dX4_holds_5 (by decide) (fun g => ?_) (fun g => ?_)
    · replace h := ite_t g h
      refine v_iconst C dX4_holds_22 ct_i_0 ?_
      replace h := Option.some.inj h; subst h
      subst hQ
      exact v_zret C hr hlk (show narrow .boolean (.int 0) = .int 0 from rfl) dX4_holds_23
    · replace h := ite_f g h
      refine v_iload_n (j := 1) C dX4_holds_8 rfl rfl ?_
      refine v_aload_nR (j := 0) C dX4_holds_9 rfl rfl ?_
      refine v_pc (pc' := 10) rfl ?_
      refine gf_X4_15 C k0 dX4_holds_10 ?_
      refine v_iload_n (j := 2) C dX4_holds_13 rfl rfl ?_
      refine v_isub C dX4_holds_14 ?_
      refine v_icmp_gt (tgt := 22) C dX4_holds_15 (by decide) (fun g => ?_) (fun g => ?_)
      · replace h := ite_t g h
        refine v_iconst C dX4_holds_22 ct_i_0 ?_
        replace h := Option.some.inj h; subst h
        subst hQ
        exact v_zret C hr hlk (show narrow .boolean (.int 0) = .int 0 from rfl) dX4_holds_23
      · replace h := ite_f g h
        refine v_iconst C dX4_holds_18 ct_i_1 ?_
        refine v_goto (tgt := 23) C dX4_holds_19 (by decide) ?_
        replace h := Option.some.inj h; subst h
        subst hQ
        exact v_zret C hr hlk (show narrow .boolean (.int 1) = .int 1 from rfl) dX4_holds_23
def j_X4_put_26 (M : Mem) (x0 : Nat) (x1 : Int32) (s0 : Int32) : Option (Int32 × Mem) :=
  if x1 < 0 then (some ((s0, M))) else (if 40 ≤ x1 then (some ((s0, M))) else (chk (inB x1 40) (nm (mset M (x0 + 1) x1.toNatClampNeg s0) fun M2 => some ((s0, M2)))))
def m_X4_put (M : Mem) (x0 : Nat) (x1 : Int32) (x2 : Int32) : Option (Int32 × Mem) :=
  if (M x0 1) = 0 then (j_X4_put_26 M x0 x1 x2.toInt8.toInt32) else (if (M x0 1) = 1 then (j_X4_put_26 M x0 x1 x2.toInt16.toInt32) else (j_X4_put_26 M x0 x1 x2))
set_option maxHeartbeats 4000000 in
set_option maxRecDepth 100000 in
theorem c_X4_put (l : Launch) (D : va_G) (cA : cAt) (B : Nat) (aK aV : Nat → Nat) (M : Mem) (x0 : Nat) (x1 : Int32) (x2 : Int32) (k0 : kd x0 = 4) (R : Int32 × Mem) (h : m_X4_put M x0 x1 x2 = some R) : CI l D cA B aK aV yX4_put cX4_put 4 .int 0 [.ref (B + x0), .int x1, .int x2] M R.1 R.2 := by
  refine CI_of (by decide +kernel) (Nat.le_of_ble_eq_true rfl) ?_
  intro p e s m args below meth c C hr hlk
  have C : Cx p (rmd 0) s m args c 0 0 D cA B aK aV cX4_put 4 RX4 := C
  generalize hQ : MQ below _ args s 0 0 _ = Q
  refine v_eq (M' := M) (pc' := 0) (L' := [(0, .ref (B + x0)), (1, .int x1), (2, .int x2)]) (st' := []) ?_
  unfold m_X4_put at h
  have J26 : ∀ (M : Mem) (s0 : Int32), j_X4_put_26 M x0 x1 s0 = some R → V p l e (rmd 0) s m args below meth c 0 0 D cA B 4 Q M 26 [(0, .ref (B + x0)), (1, .int x1)] [.int s0] := by
    intro M s0 h
    unfold j_X4_put_26 at h
    refine v_istore_n (L' := [(3, .int s0), (0, .ref (B + x0)), (1, .int x1)]) C dX4_put_26 rfl (by decide) rfl ?_
    refine v_iload_n (j := 2) C dX4_put_27 rfl rfl ?_
    refine v_if_lt (tgt := 47) C dX4_put_28 (by decide) (fun g => ?_) (fun g => ?_)
    · replace h := ite_t g h
      refine v_iload_n (j := 0) C dX4_put_47 rfl rfl ?_
      replace h := Option.some.inj h; subst h
      subst hQ
      exact v_iret C hr hlk dX4_put_48
    · replace h := ite_f g h
      refine v_iload_n (j := 2) C dX4_put_31 rfl rfl ?_
      refine v_aload_nR (j := 1) C dX4_put_32 rfl rfl ?_
      refine gf_X4_9 C k0 dX4_put_33 ?_
      refine v_pc (pc' := 36) rfl ?_
      refine v_alen9 (v := 40) C (kdR k0) (by rw [alenR k0]; rfl) dX4_put_36 ?_
      refine v_icmp_ge (tgt := 47) C dX4_put_37 (by decide) (fun g => ?_) (fun g => ?_)
      · replace h := ite_t g h
        refine v_iload_n (j := 0) C dX4_put_47 rfl rfl ?_
        replace h := Option.some.inj h; subst h
        subst hQ
        exact v_iret C hr hlk dX4_put_48
      · replace h := ite_f g h
        refine v_aload_nR (j := 1) C dX4_put_40 rfl rfl ?_
        refine gf_X4_9 C k0 dX4_put_41 ?_
        refine v_iload_n (j := 2) C dX4_put_44 rfl rfl ?_
        refine v_iload_n (j := 0) C dX4_put_45 rfl rfl ?_
        replace h := chk_some h; obtain ⟨g1, h⟩ := h
        replace h := nm_ex h; obtain ⟨M2, eM2, h⟩ := h
        refine v_iast C (kdR k0) (by rw [alenR k0]; exact (inB_vp g1)) dX4_put_46 ?_
        refine v_mem eM2 ?_
        refine v_pc (pc' := 47) rfl ?_
        refine v_iload_n (j := 0) C dX4_put_47 rfl rfl ?_
        replace h := Option.some.inj h; subst h
        subst hQ
        exact v_iret C hr hlk dX4_put_48
  refine v_aload_nR (j := 0) C dX4_put_0 rfl rfl ?_
  refine gf_X4_19 C k0 dX4_put_1 ?_
  refine v_if_ne (tgt := 12) C dX4_put_4 (by decide) (fun g => ?_) (fun g => ?_)
  · replace h := ite_t g h
    refine v_iload_n (j := 2) C dX4_put_7 rfl rfl ?_
    refine v_i2b C dX4_put_8 ?_
    refine v_goto (tgt := 26) C dX4_put_9 (by decide) ?_
    refine v_sub [0, 1] rfl ?_
    exact J26 M x2.toInt8.toInt32 h
  · replace h := ite_f g h
    refine v_aload_nR (j := 0) C dX4_put_12 rfl rfl ?_
    refine gf_X4_19 C k0 dX4_put_13 ?_
    refine v_iconst C dX4_put_16 ct_i_1 ?_
    refine v_icmp_ne (tgt := 25) C dX4_put_17 (by decide) (fun g => ?_) (fun g => ?_)
    · replace h := ite_t g h
      refine v_iload_n (j := 2) C dX4_put_20 rfl rfl ?_
      refine v_i2s C dX4_put_21 ?_
      refine v_pc (pc' := 22) rfl ?_
      refine v_goto (tgt := 26) C dX4_put_22 (by decide) ?_
      refine v_sub [0, 1] rfl ?_
      exact J26 M x2.toInt16.toInt32 h
    · replace h := ite_f g h
      refine v_iload_n (j := 2) C dX4_put_25 rfl rfl ?_
      refine v_sub [0, 1] rfl ?_
      exact J26 M x2 h
def m_X5_clear (M : Mem) (x0 : Nat) : Option Mem :=
  nm (mset M x0 1 0) fun M1 => nm (mset M1 x0 2 0) fun M2 => nm (mset M2 x0 3 0) fun M3 => nm (mset M3 x0 4 0) fun M4 => some M4
set_option maxHeartbeats 4000000 in
set_option maxRecDepth 100000 in
theorem c_X5_clear (l : Launch) (D : va_G) (cA : cAt) (B : Nat) (aK aV : Nat → Nat) (M : Mem) (x0 : Nat) (k0 : kd x0 = 5) (R : Mem) (h : m_X5_clear M x0 = some R) : CV l D cA B aK aV yX5_clear cX5_clear 1 0 [.ref (B + x0)] M R := by
  refine CV_of (by decide +kernel) (Nat.le_of_ble_eq_true rfl) ?_
  intro p e s m args below meth c C hr hlk
  have C : Cx p (rmd 0) s m args c 0 0 D cA B aK aV cX5_clear 1 RX5 := C
  generalize hQ : MQ below _ args s 0 0 _ = Q
  refine v_eq (M' := M) (pc' := 0) (L' := [(0, .ref (B + x0))]) (st' := []) ?_
  unfold m_X5_clear at h
  refine v_aload_nR (j := 0) C dX5_clear_0 rfl rfl ?_
  refine v_iconst C dX5_clear_1 ct_i_0 ?_
  replace h := nm_ex h; obtain ⟨M1, eM1, h⟩ := h
  refine pf_X5_20 C k0 (by decide) dX5_clear_2 ?_
  refine v_mem eM1 ?_
  refine v_aload_nR (j := 0) C dX5_clear_5 rfl rfl ?_
  refine v_iconst C dX5_clear_6 ct_i_0 ?_
  replace h := nm_ex h; obtain ⟨M2, eM2, h⟩ := h
  refine pf_X5_24 C k0 dX5_clear_7 ?_
  refine v_mem eM2 ?_
  refine v_pc (pc' := 10) rfl ?_
  refine v_aload_nR (j := 0) C dX5_clear_10 rfl rfl ?_
  refine v_iconst C dX5_clear_11 ct_i_0 ?_
  replace h := nm_ex h; obtain ⟨M3, eM3, h⟩ := h
  refine pf_X5_28 C k0 dX5_clear_12 ?_
  refine v_mem eM3 ?_
  refine v_aload_nR (j := 0) C dX5_clear_15 rfl rfl ?_
  refine v_iconst C dX5_clear_16 ct_i_0 ?_
  replace h := nm_ex h; obtain ⟨M4, eM4, h⟩ := h
  refine pf_X5_31 C k0 dX5_clear_17 ?_
  refine v_mem eM4 ?_
  replace h := Option.some.inj h; subst h
  subst hQ
  exact v_vret C hr hlk dX5_clear_20
def m_X5_addChild (M : Mem) (x0 : Nat) (x1 : Int32) (x2 : Int32) (x3 : Int32) : Option Mem :=
  nm (mset M x0 4 ((M x0 4) + 1)) fun M1 => (m_X5_at M1 x0 ((M1 x0 4) - 1)).bind fun r2 => optC r2 (some M1) (fun a3 => chk (kdB a3 2) (nm (mset M1 a3 1 x1) fun M5 => nm (mset M5 a3 3 x2) fun M6 => nm (mset M6 a3 2 x3) fun M7 => nm (mset M7 a3 4 0) fun M8 => some M8))
set_option maxHeartbeats 4000000 in
set_option maxRecDepth 100000 in
theorem c_X5_addChild (l : Launch) (D : va_G) (cA : cAt) (B : Nat) (aK aV : Nat → Nat) (M : Mem) (x0 : Nat) (x1 : Int32) (x2 : Int32) (x3 : Int32) (k0 : kd x0 = 5) (R : Mem) (h : m_X5_addChild M x0 x1 x2 x3 = some R) : CV l D cA B aK aV yX5_addChild cX5_addChild 5 1 [.ref (B + x0), .int x1, .int x2, .int x3] M R := by
  refine CV_of (by decide +kernel) (Nat.le_of_ble_eq_true rfl) ?_
  intro p e s m args below meth c C hr hlk
  have C : Cx p (rmd 1) s m args c 0 0 D cA B aK aV cX5_addChild 5 RX5 := C
  generalize hQ : MQ below _ args s 0 0 _ = Q
  refine v_eq (M' := M) (pc' := 0) (L' := [(0, .ref (B + x0)), (1, .int x1), (2, .int x2), (3, .int x3)]) (st' := []) ?_
  unfold m_X5_addChild at h
  refine v_aload_nR (j := 0) C dX5_addChild_0 rfl rfl ?_
  refine v_dup C dX5_addChild_1 rfl ?_
  refine gf_X5_31 C k0 dX5_addChild_2 ?_
  refine v_iconst C dX5_addChild_5 ct_i_1 ?_
  refine v_iadd C dX5_addChild_6 ?_
  replace h := nm_ex h; obtain ⟨M1, eM1, h⟩ := h
  refine pf_X5_31 C k0 dX5_addChild_7 ?_
  refine v_mem eM1 ?_
  refine v_pc (pc' := 10) rfl ?_
  refine v_aload_nR (j := 0) C dX5_addChild_10 rfl rfl ?_
  refine v_aload_nR (j := 0) C dX5_addChild_11 rfl rfl ?_
  refine gf_X5_31 C k0 dX5_addChild_12 ?_
  refine v_iconst C dX5_addChild_15 ct_i_1 ?_
  refine v_isub C dX5_addChild_16 ?_
  replace h := bind_ex h; obtain ⟨r2, hr2, h⟩ := h
  refine cv_Q C tw_534 tw_105 tw_531 tw_533 tw_25 pd_X5_at (Nat.le_of_ble_eq_true rfl) (Nat.le_of_ble_eq_true rfl) (q := x0) (kd_lt k0 (by decide)) (sh5 k0) rfl (As := [.int ((M1 x0 4) - 1)]) (rest := []) rfl rfl (Nat.le_of_ble_eq_true rfl) (c_X5_at l D cA B aK aV M1 x0 ((M1 x0 4) - 1) k0 r2 hr2) dX5_addChild_17 ?_
  refine v_astoreO (L' := [(4, rv B r2), (0, .ref (B + x0)), (1, .int x1), (2, .int x2), (3, .int x3)]) C dX5_addChild_20 (by decide) rfl ?_
  refine v_pc (pc' := 22) rfl ?_
  refine v_aloadO (j := 0) C dX5_addChild_22 rfl ?_
  replace h := optC_ex h
  rcases h with ⟨rfl, h⟩ | ⟨a3, rfl, h⟩
  · refine v_eq (M' := M1) (pc' := 24) (L' := [(4, .null), (0, .ref (B + x0)), (1, .int x1), (2, .int x2), (3, .int x3)]) (st' := [.null]) ?_
    refine v_ifnullN (tgt := 51) C dX5_addChild_24 (by decide) ?_
    replace h := Option.some.inj h; subst h
    subst hQ
    exact v_vret C hr hlk dX5_addChild_51
  · replace h := chk_some h; obtain ⟨g4, h⟩ := h
    replace g4 := kdB_eq g4
    refine v_eq (M' := M1) (pc' := 24) (L' := [(4, .ref (B + a3)), (0, .ref (B + x0)), (1, .int x1), (2, .int x2), (3, .int x3)]) (st' := [.ref (B + a3)]) ?_
    refine v_ifnullS C dX5_addChild_24 ?_
    refine v_aloadR (j := 0) C dX5_addChild_27 rfl ?_
    refine v_iload_n (j := 2) C dX5_addChild_29 rfl rfl ?_
    replace h := nm_ex h; obtain ⟨M5, eM5, h⟩ := h
    refine pf_X5_42 C g4 dX5_addChild_30 ?_
    refine v_mem eM5 ?_
    refine v_aloadR (j := 0) C dX5_addChild_33 rfl ?_
    refine v_iload_n (j := 3) C dX5_addChild_35 rfl rfl ?_
    replace h := nm_ex h; obtain ⟨M6, eM6, h⟩ := h
    refine pf_X5_45 C g4 dX5_addChild_36 ?_
    refine v_mem eM6 ?_
    refine v_pc (pc' := 39) rfl ?_
    refine v_aloadR (j := 0) C dX5_addChild_39 rfl ?_
    refine v_iload_n (j := 4) C dX5_addChild_41 rfl rfl ?_
    replace h := nm_ex h; obtain ⟨M7, eM7, h⟩ := h
    refine pf_X5_48 C g4 dX5_addChild_42 ?_
    refine v_mem eM7 ?_
    refine v_aloadR (j := 0) C dX5_addChild_45 rfl ?_
    refine v_iconst C dX5_addChild_47 ct_i_0 ?_
    replace h := nm_ex h; obtain ⟨M8, eM8, h⟩ := h
    refine pf_X5_51 C g4 dX5_addChild_48 ?_
    refine v_mem eM8 ?_
    replace h := Option.some.inj h; subst h
    subst hQ
    exact v_vret C hr hlk dX5_addChild_51
def b_X5_mostPennies_4 (M : Mem) (x0 : Nat) (x1 : Int32) (x2 : Int32) : Option ((Int32 × Int32) ⊕ Int32) :=
  if 5 ≤ x2 then (some (.inr x1)) else ((m_X5_at M x0 x2).bind fun r1 => optC r1 (some (.inl (x1, x2 + 1))) (fun a2 => chk (kdB a2 2) (nm (if x1 < (M a2 4) then (M a2 4) else x1) fun y4 => some (.inl (y4, x2 + 1)))))
def m_X5_mostPennies (M : Mem) (x0 : Nat) : Option Int32 :=
  (loopF (fun z => b_X5_mostPennies_4 M x0 z.1 z.2) FUEL (0, 0)).bind fun z5 => some z5
set_option maxHeartbeats 4000000 in
set_option maxRecDepth 100000 in
theorem c_X5_mostPennies (l : Launch) (D : va_G) (cA : cAt) (B : Nat) (aK aV : Nat → Nat) (M : Mem) (x0 : Nat) (k0 : kd x0 = 5) (R : Int32) (h : m_X5_mostPennies M x0 = some R) : CI l D cA B aK aV yX5_mostPennies cX5_mostPennies 4 .int 1 [.ref (B + x0)] M R M := by
  refine CI_of (by decide +kernel) (Nat.le_of_ble_eq_true rfl) ?_
  intro p e s m args below meth c C hr hlk
  have C : Cx p (rmd 1) s m args c 0 0 D cA B aK aV cX5_mostPennies 4 RX5 := C
  generalize hQ : MQ below _ args s 0 0 _ = Q
  refine v_eq (M' := M) (pc' := 0) (L' := [(0, .ref (B + x0))]) (st' := []) ?_
  unfold m_X5_mostPennies at h
  refine v_iconst C dX5_mostPennies_0 ct_i_0 ?_
  refine v_istore_n (L' := [(1, .int 0), (0, .ref (B + x0))]) C dX5_mostPennies_1 rfl (by decide) rfl ?_
  refine v_iconst C dX5_mostPennies_2 ct_i_0 ?_
  refine v_istore_n (L' := [(2, .int 0), (1, .int 0), (0, .ref (B + x0))]) C dX5_mostPennies_3 rfl (by decide) rfl ?_
  have LB4 : ∀  (x1 : Int32) (x2 : Int32) (o4 : (Int32 × Int32) ⊕ Int32) (h : b_X5_mostPennies_4 M x0 x1 x2 = some o4) (hc4 : ∀ z : Int32 × Int32, o4 = .inl z → V p l e (rmd 1) s m args below meth c 0 0 D cA B 4 Q M 4 [(0, .ref (B + x0)), (1, .int z.1), (2, .int z.2)] []) (he4 : ∀ z : Int32, o4 = .inr z → V p l e (rmd 1) s m args below meth c 0 0 D cA B 4 Q M 38 [(1, .int z)] []), V p l e (rmd 1) s m args below meth c 0 0 D cA B 4 Q M 4 [(0, .ref (B + x0)), (1, .int x1), (2, .int x2)] [] := by
    intro x1 x2 o4 h hc4 he4
    unfold b_X5_mostPennies_4 at h
    refine v_iload_n (j := 2) C dX5_mostPennies_4 rfl rfl ?_
    refine v_iconst C dX5_mostPennies_5 ct_i_5 ?_
    refine v_icmp_ge (tgt := 38) C dX5_mostPennies_6 (by decide) (fun g => ?_) (fun g => ?_)
    · replace h := ite_t g h
      replace h := Option.some.inj h; subst h
      refine v_sub [1] rfl ?_
      exact he4 x1 rfl
    · replace h := ite_f g h
      refine v_aload_nR (j := 0) C dX5_mostPennies_9 rfl rfl ?_
      refine v_iload_n (j := 2) C dX5_mostPennies_10 rfl rfl ?_
      replace h := bind_ex h; obtain ⟨r1, hr1, h⟩ := h
      refine cv_Q C tw_534 tw_105 tw_531 tw_533 tw_25 pd_X5_at (Nat.le_of_ble_eq_true rfl) (Nat.le_of_ble_eq_true rfl) (q := x0) (kd_lt k0 (by decide)) (sh5 k0) rfl (As := [.int x2]) (rest := []) rfl rfl (Nat.le_of_ble_eq_true rfl) (c_X5_at l D cA B aK aV M x0 x2 k0 r1 hr1) dX5_mostPennies_11 ?_
      refine v_pc (pc' := 14) rfl ?_
      refine v_astore_nO (L' := [(3, rv B r1), (0, .ref (B + x0)), (1, .int x1), (2, .int x2)]) C dX5_mostPennies_14 rfl (by decide) rfl ?_
      refine v_aload_nO (j := 0) C dX5_mostPennies_15 rfl rfl ?_
      replace h := optC_ex h
      rcases h with ⟨rfl, h⟩ | ⟨a2, rfl, h⟩
      · refine v_eq (M' := M) (pc' := 16) (L' := [(3, .null), (0, .ref (B + x0)), (1, .int x1), (2, .int x2)]) (st' := [.null]) ?_
        refine v_ifnonnullN C dX5_mostPennies_16 ?_
        refine v_iload_n (j := 2) C dX5_mostPennies_19 rfl rfl ?_
        refine v_goto (tgt := 31) C dX5_mostPennies_20 (by decide) ?_
        refine v_istore_n (L' := [(1, .int x1), (3, .null), (0, .ref (B + x0)), (2, .int x2)]) C dX5_mostPennies_31 rfl (by decide) rfl ?_
        refine v_iinc (j := 3) (L' := [(2, .int (x2 + 1)), (1, .int x1), (3, .null), (0, .ref (B + x0))]) C dX5_mostPennies_32 rfl (congrArg (fun z => _ + z) ct_i_1) (by decide) rfl ?_
        refine v_goto (tgt := 4) C dX5_mostPennies_35 (by decide) ?_
        replace h := Option.some.inj h; subst h
        refine v_sub [3, 1, 0] rfl ?_
        exact hc4 (x1, x2 + 1) rfl
      · replace h := chk_some h; obtain ⟨g3, h⟩ := h
        replace g3 := kdB_eq g3
        refine v_eq (M' := M) (pc' := 16) (L' := [(3, .ref (B + a2)), (0, .ref (B + x0)), (1, .int x1), (2, .int x2)]) (st' := [.ref (B + a2)]) ?_
        refine v_ifnonnullS (tgt := 23) C dX5_mostPennies_16 (by decide) ?_
        refine v_iload_n (j := 2) C dX5_mostPennies_23 rfl rfl ?_
        refine v_aload_nR (j := 0) C dX5_mostPennies_24 rfl rfl ?_
        refine gf_X5_51 C g3 dX5_mostPennies_25 ?_
        refine v_mmax C tw_565 tw_566 tw_118 tw_567 (Nat.le_of_ble_eq_true rfl) (Nat.le_of_ble_eq_true rfl) dX5_mostPennies_28 ?_
        replace h := nm_ex h; obtain ⟨y4, ey4, h⟩ := h
        refine v_topI ey4 ?_
        refine v_istore_n (L' := [(1, .int y4), (3, .ref (B + a2)), (0, .ref (B + x0)), (2, .int x2)]) C dX5_mostPennies_31 rfl (by decide) rfl ?_
        refine v_iinc (j := 3) (L' := [(2, .int (x2 + 1)), (1, .int y4), (3, .ref (B + a2)), (0, .ref (B + x0))]) C dX5_mostPennies_32 rfl (congrArg (fun z => _ + z) ct_i_1) (by decide) rfl ?_
        refine v_pc (pc' := 35) rfl ?_
        refine v_goto (tgt := 4) C dX5_mostPennies_35 (by decide) ?_
        replace h := Option.some.inj h; subst h
        refine v_sub [3, 1, 0] rfl ?_
        exact hc4 (y4, x2 + 1) rfl
  replace h := bind_ex h; obtain ⟨z5, hz5, h⟩ := h
  refine v_sub [2, 1, 0] rfl ?_
  refine loopF_walk (Pσ := fun z => V p l e (rmd 1) s m args below meth c 0 0 D cA B 4 Q M 4 [(0, .ref (B + x0)), (1, .int z.1), (2, .int z.2)] []) (Pρ := fun y => V p l e (rmd 1) s m args below meth c 0 0 D cA B 4 Q M 38 [(1, .int y)] []) ?_ FUEL (0, 0) z5 hz5 ?_
  · intro z o hb hc he
    exact LB4 z.1 z.2 o hb hc he
  · refine v_iload_n (j := 0) C dX5_mostPennies_38 rfl rfl ?_
    replace h := Option.some.inj h; subst h
    subst hQ
    exact v_iret C hr hlk dX5_mostPennies_39
def b_X5_allPennies_4 (M : Mem) (x0 : Nat) (x1 : Int32) (x2 : Int32) : Option ((Int32 × Int32) ⊕ Int32) :=
  if 5 ≤ x2 then (some (.inr x1)) else ((m_X5_at M x0 x2).bind fun r1 => optC r1 (nm (x1 + 0) fun y4 => some (.inl (y4, x2 + 1))) (fun a2 => chk (kdB a2 2) (nm (x1 + (M a2 4)) fun y5 => some (.inl (y5, x2 + 1)))))
def m_X5_allPennies (M : Mem) (x0 : Nat) : Option Int32 :=
  (loopF (fun z => b_X5_allPennies_4 M x0 z.1 z.2) FUEL (0, 0)).bind fun z6 => some z6
set_option maxHeartbeats 4000000 in
set_option maxRecDepth 100000 in
theorem c_X5_allPennies (l : Launch) (D : va_G) (cA : cAt) (B : Nat) (aK aV : Nat → Nat) (M : Mem) (x0 : Nat) (k0 : kd x0 = 5) (R : Int32) (h : m_X5_allPennies M x0 = some R) : CI l D cA B aK aV yX5_allPennies cX5_allPennies 4 .int 1 [.ref (B + x0)] M R M := by
  refine CI_of (by decide +kernel) (Nat.le_of_ble_eq_true rfl) ?_
  intro p e s m args below meth c C hr hlk
  have C : Cx p (rmd 1) s m args c 0 0 D cA B aK aV cX5_allPennies 4 RX5 := C
  generalize hQ : MQ below _ args s 0 0 _ = Q
  refine v_eq (M' := M) (pc' := 0) (L' := [(0, .ref (B + x0))]) (st' := []) ?_
  unfold m_X5_allPennies at h
  refine v_iconst C dX5_allPennies_0 ct_i_0 ?_
  refine v_istore_n (L' := [(1, .int 0), (0, .ref (B + x0))]) C dX5_allPennies_1 rfl (by decide) rfl ?_
  refine v_iconst C dX5_allPennies_2 ct_i_0 ?_
  refine v_istore_n (L' := [(2, .int 0), (1, .int 0), (0, .ref (B + x0))]) C dX5_allPennies_3 rfl (by decide) rfl ?_
  have LB4 : ∀  (x1 : Int32) (x2 : Int32) (o4 : (Int32 × Int32) ⊕ Int32) (h : b_X5_allPennies_4 M x0 x1 x2 = some o4) (hc4 : ∀ z : Int32 × Int32, o4 = .inl z → V p l e (rmd 1) s m args below meth c 0 0 D cA B 4 Q M 4 [(0, .ref (B + x0)), (1, .int z.1), (2, .int z.2)] []) (he4 : ∀ z : Int32, o4 = .inr z → V p l e (rmd 1) s m args below meth c 0 0 D cA B 4 Q M 36 [(1, .int z)] []), V p l e (rmd 1) s m args below meth c 0 0 D cA B 4 Q M 4 [(0, .ref (B + x0)), (1, .int x1), (2, .int x2)] [] := by
    intro x1 x2 o4 h hc4 he4
    unfold b_X5_allPennies_4 at h
    refine v_iload_n (j := 2) C dX5_allPennies_4 rfl rfl ?_
    refine v_iconst C dX5_allPennies_5 ct_i_5 ?_
    refine v_icmp_ge (tgt := 36) C dX5_allPennies_6 (by decide) (fun g => ?_) (fun g => ?_)
    · replace h := ite_t g h
      replace h := Option.some.inj h; subst h
      refine v_sub [1] rfl ?_
      exact he4 x1 rfl
    · replace h := ite_f g h
      refine v_aload_nR (j := 0) C dX5_allPennies_9 rfl rfl ?_
      refine v_iload_n (j := 2) C dX5_allPennies_10 rfl rfl ?_
      replace h := bind_ex h; obtain ⟨r1, hr1, h⟩ := h
      refine cv_Q C tw_534 tw_105 tw_531 tw_533 tw_25 pd_X5_at (Nat.le_of_ble_eq_true rfl) (Nat.le_of_ble_eq_true rfl) (q := x0) (kd_lt k0 (by decide)) (sh5 k0) rfl (As := [.int x2]) (rest := []) rfl rfl (Nat.le_of_ble_eq_true rfl) (c_X5_at l D cA B aK aV M x0 x2 k0 r1 hr1) dX5_allPennies_11 ?_
      refine v_pc (pc' := 14) rfl ?_
      refine v_astore_nO (L' := [(3, rv B r1), (0, .ref (B + x0)), (1, .int x1), (2, .int x2)]) C dX5_allPennies_14 rfl (by decide) rfl ?_
      refine v_iload_n (j := 2) C dX5_allPennies_15 rfl rfl ?_
      refine v_aload_nO (j := 0) C dX5_allPennies_16 rfl rfl ?_
      replace h := optC_ex h
      rcases h with ⟨rfl, h⟩ | ⟨a2, rfl, h⟩
      · refine v_eq (M' := M) (pc' := 17) (L' := [(3, .null), (0, .ref (B + x0)), (1, .int x1), (2, .int x2)]) (st' := [.null, .int x1]) ?_
        refine v_ifnonnullN C dX5_allPennies_17 ?_
        refine v_iconst C dX5_allPennies_20 ct_i_0 ?_
        refine v_goto (tgt := 28) C dX5_allPennies_21 (by decide) ?_
        refine v_iadd C dX5_allPennies_28 ?_
        replace h := nm_ex h; obtain ⟨y4, ey4, h⟩ := h
        refine v_topI ey4 ?_
        refine v_istore_n (L' := [(1, .int y4), (3, .null), (0, .ref (B + x0)), (2, .int x2)]) C dX5_allPennies_29 rfl (by decide) rfl ?_
        refine v_iinc (j := 3) (L' := [(2, .int (x2 + 1)), (1, .int y4), (3, .null), (0, .ref (B + x0))]) C dX5_allPennies_30 rfl (congrArg (fun z => _ + z) ct_i_1) (by decide) rfl ?_
        refine v_goto (tgt := 4) C dX5_allPennies_33 (by decide) ?_
        replace h := Option.some.inj h; subst h
        refine v_sub [3, 1, 0] rfl ?_
        exact hc4 (y4, x2 + 1) rfl
      · replace h := chk_some h; obtain ⟨g3, h⟩ := h
        replace g3 := kdB_eq g3
        refine v_eq (M' := M) (pc' := 17) (L' := [(3, .ref (B + a2)), (0, .ref (B + x0)), (1, .int x1), (2, .int x2)]) (st' := [.ref (B + a2), .int x1]) ?_
        refine v_ifnonnullS (tgt := 24) C dX5_allPennies_17 (by decide) ?_
        refine v_aload_nR (j := 0) C dX5_allPennies_24 rfl rfl ?_
        refine gf_X5_51 C g3 dX5_allPennies_25 ?_
        refine v_iadd C dX5_allPennies_28 ?_
        replace h := nm_ex h; obtain ⟨y5, ey5, h⟩ := h
        refine v_topI ey5 ?_
        refine v_istore_n (L' := [(1, .int y5), (3, .ref (B + a2)), (0, .ref (B + x0)), (2, .int x2)]) C dX5_allPennies_29 rfl (by decide) rfl ?_
        refine v_iinc (j := 3) (L' := [(2, .int (x2 + 1)), (1, .int y5), (3, .ref (B + a2)), (0, .ref (B + x0))]) C dX5_allPennies_30 rfl (congrArg (fun z => _ + z) ct_i_1) (by decide) rfl ?_
        refine v_goto (tgt := 4) C dX5_allPennies_33 (by decide) ?_
        replace h := Option.some.inj h; subst h
        refine v_sub [3, 1, 0] rfl ?_
        exact hc4 (y5, x2 + 1) rfl
  replace h := bind_ex h; obtain ⟨z6, hz6, h⟩ := h
  refine v_sub [2, 1, 0] rfl ?_
  refine loopF_walk (Pσ := fun z => V p l e (rmd 1) s m args below meth c 0 0 D cA B 4 Q M 4 [(0, .ref (B + x0)), (1, .int z.1), (2, .int z.2)] []) (Pρ := fun y => V p l e (rmd 1) s m args below meth c 0 0 D cA B 4 Q M 36 [(1, .int y)] []) ?_ FUEL (0, 0) z6 hz6 ?_
  · intro z o hb hc he
    exact LB4 z.1 z.2 o hb hc he
  · refine v_iload_n (j := 0) C dX5_allPennies_36 rfl rfl ?_
    replace h := Option.some.inj h; subst h
    subst hQ
    exact v_iret C hr hlk dX5_allPennies_37
def m_X6_hasRoomFor (M : Mem) (x1 : Int32) : Option Int32 :=
  if 300 < ((M 2 1) + x1) then (some 0) else (some 1)
set_option maxHeartbeats 4000000 in
set_option maxRecDepth 100000 in
theorem c_X6_hasRoomFor (l : Launch) (D : va_G) (cA : cAt) (B : Nat) (aK aV : Nat → Nat) (M : Mem) (x1 : Int32) (R : Int32) (h : m_X6_hasRoomFor M x1 = some R) : CI l D cA B aK aV yX6_hasRoomFor cX6_hasRoomFor 2 .boolean 0 [.ref (B + 2), .int x1] M R M := by
  refine CI_of (by decide +kernel) (Nat.le_of_ble_eq_true rfl) ?_
  intro p e s m args below meth c C hr hlk
  have C : Cx p (rmd 0) s m args c 0 0 D cA B aK aV cX6_hasRoomFor 2 RX6 := C
  generalize hQ : MQ below _ args s 0 0 _ = Q
  refine v_eq (M' := M) (pc' := 0) (L' := [(0, .ref (B + 2)), (1, .int x1)]) (st' := []) ?_
  unfold m_X6_hasRoomFor at h
  refine v_aload_nR (j := 0) C dX6_hasRoomFor_0 rfl rfl ?_
  refine gf_X6_15 C ks_2 dX6_hasRoomFor_1 ?_
  refine v_iload_n (j := 1) C dX6_hasRoomFor_4 rfl rfl ?_
  refine v_iadd C dX6_hasRoomFor_5 ?_
  refine v_aload_nR (j := 0) C dX6_hasRoomFor_6 rfl rfl ?_
  refine gf_X6_11 C ks_2 dX6_hasRoomFor_7 ?_
  refine v_pc (pc' := 10) rfl ?_
  refine v_alen9 (v := 300) C ks_3 rfl dX6_hasRoomFor_10 ?_
  refine v_icmp_gt (tgt := 18) C dX6_hasRoomFor_11 (by decide) (fun g => ?_) (fun g => ?_)
  · replace h := ite_t g h
    refine v_iconst C dX6_hasRoomFor_18 ct_i_0 ?_
    replace h := Option.some.inj h; subst h
    subst hQ
    exact v_zret C hr hlk (show narrow .boolean (.int 0) = .int 0 from rfl) dX6_hasRoomFor_19
  · replace h := ite_f g h
    refine v_iconst C dX6_hasRoomFor_14 ct_i_1 ?_
    refine v_goto (tgt := 19) C dX6_hasRoomFor_15 (by decide) ?_
    replace h := Option.some.inj h; subst h
    subst hQ
    exact v_zret C hr hlk (show narrow .boolean (.int 1) = .int 1 from rfl) dX6_hasRoomFor_19
def m_X6_add (M : Mem) (x1 : Int32) : Option Mem :=
  if (M 2 1) < 0 then (some M) else (if 300 ≤ (M 2 1) then (some M) else (chk (inB (M 2 1) 300) (nm (mset M 3 (M 2 1).toNatClampNeg x1) fun M2 => nm (mset M2 2 1 ((M2 2 1) + 1)) fun M3 => some M3)))
set_option maxHeartbeats 4000000 in
set_option maxRecDepth 100000 in
theorem c_X6_add (l : Launch) (D : va_G) (cA : cAt) (B : Nat) (aK aV : Nat → Nat) (M : Mem) (x1 : Int32) (R : Mem) (h : m_X6_add M x1 = some R) : CV l D cA B aK aV yX6_add cX6_add 2 0 [.ref (B + 2), .int x1] M R := by
  refine CV_of (by decide +kernel) (Nat.le_of_ble_eq_true rfl) ?_
  intro p e s m args below meth c C hr hlk
  have C : Cx p (rmd 0) s m args c 0 0 D cA B aK aV cX6_add 2 RX6 := C
  generalize hQ : MQ below _ args s 0 0 _ = Q
  refine v_eq (M' := M) (pc' := 0) (L' := [(0, .ref (B + 2)), (1, .int x1)]) (st' := []) ?_
  unfold m_X6_add at h
  refine v_aload_nR (j := 0) C dX6_add_0 rfl rfl ?_
  refine gf_X6_15 C ks_2 dX6_add_1 ?_
  refine v_if_lt (tgt := 39) C dX6_add_4 (by decide) (fun g => ?_) (fun g => ?_)
  · replace h := ite_t g h
    replace h := Option.some.inj h; subst h
    subst hQ
    exact v_vret C hr hlk dX6_add_39
  · replace h := ite_f g h
    refine v_aload_nR (j := 0) C dX6_add_7 rfl rfl ?_
    refine gf_X6_15 C ks_2 dX6_add_8 ?_
    refine v_aload_nR (j := 0) C dX6_add_11 rfl rfl ?_
    refine v_pc (pc' := 12) rfl ?_
    refine gf_X6_11 C ks_2 dX6_add_12 ?_
    refine v_alen9 (v := 300) C ks_3 rfl dX6_add_15 ?_
    refine v_icmp_ge (tgt := 39) C dX6_add_16 (by decide) (fun g => ?_) (fun g => ?_)
    · replace h := ite_t g h
      replace h := Option.some.inj h; subst h
      subst hQ
      exact v_vret C hr hlk dX6_add_39
    · replace h := ite_f g h
      refine v_aload_nR (j := 0) C dX6_add_19 rfl rfl ?_
      refine gf_X6_11 C ks_2 dX6_add_20 ?_
      refine v_aload_nR (j := 0) C dX6_add_23 rfl rfl ?_
      refine gf_X6_15 C ks_2 dX6_add_24 ?_
      refine v_pc (pc' := 27) rfl ?_
      refine v_iload_n (j := 1) C dX6_add_27 rfl rfl ?_
      replace h := chk_some h; obtain ⟨g1, h⟩ := h
      replace h := nm_ex h; obtain ⟨M2, eM2, h⟩ := h
      refine v_iast C ks_3 (inB_vp g1) dX6_add_28 ?_
      refine v_mem eM2 ?_
      refine v_aload_nR (j := 0) C dX6_add_29 rfl rfl ?_
      refine v_dup C dX6_add_30 rfl ?_
      refine gf_X6_15 C ks_2 dX6_add_31 ?_
      refine v_iconst C dX6_add_34 ct_i_1 ?_
      refine v_iadd C dX6_add_35 ?_
      refine v_pc (pc' := 36) rfl ?_
      replace h := nm_ex h; obtain ⟨M3, eM3, h⟩ := h
      refine pf_X6_15 C ks_2 dX6_add_36 ?_
      refine v_mem eM3 ?_
      replace h := Option.some.inj h; subst h
      subst hQ
      exact v_vret C hr hlk dX6_add_39
def m_X6_byteAt (M : Mem) (x1 : Int32) : Option Int32 :=
  if x1 < 0 then (some 0) else (if (M 2 1) ≤ x1 then (some 0) else (if 300 ≤ x1 then (some 0) else (chk (inB x1 300) (some (M 3 x1.toNatClampNeg)))))
set_option maxHeartbeats 4000000 in
set_option maxRecDepth 100000 in
theorem c_X6_byteAt (l : Launch) (D : va_G) (cA : cAt) (B : Nat) (aK aV : Nat → Nat) (M : Mem) (x1 : Int32) (R : Int32) (h : m_X6_byteAt M x1 = some R) : CI l D cA B aK aV yX6_byteAt cX6_byteAt 2 .int 0 [.ref (B + 2), .int x1] M R M := by
  refine CI_of (by decide +kernel) (Nat.le_of_ble_eq_true rfl) ?_
  intro p e s m args below meth c C hr hlk
  have C : Cx p (rmd 0) s m args c 0 0 D cA B aK aV cX6_byteAt 2 RX6 := C
  generalize hQ : MQ below _ args s 0 0 _ = Q
  refine v_eq (M' := M) (pc' := 0) (L' := [(0, .ref (B + 2)), (1, .int x1)]) (st' := []) ?_
  unfold m_X6_byteAt at h
  refine v_iload_n (j := 1) C dX6_byteAt_0 rfl rfl ?_
  refine v_if_lt (tgt := 30) C dX6_byteAt_1 (by decide) (fun g => ?_) (fun g => ?_)
  · replace h := ite_t g h
    refine v_iconst C dX6_byteAt_30 ct_i_0 ?_
    replace h := Option.some.inj h; subst h
    subst hQ
    exact v_iret C hr hlk dX6_byteAt_31
  · replace h := ite_f g h
    refine v_iload_n (j := 1) C dX6_byteAt_4 rfl rfl ?_
    refine v_aload_nR (j := 0) C dX6_byteAt_5 rfl rfl ?_
    refine gf_X6_15 C ks_2 dX6_byteAt_6 ?_
    refine v_icmp_ge (tgt := 30) C dX6_byteAt_9 (by decide) (fun g => ?_) (fun g => ?_)
    · replace h := ite_t g h
      refine v_iconst C dX6_byteAt_30 ct_i_0 ?_
      replace h := Option.some.inj h; subst h
      subst hQ
      exact v_iret C hr hlk dX6_byteAt_31
    · replace h := ite_f g h
      refine v_pc (pc' := 12) rfl ?_
      refine v_iload_n (j := 1) C dX6_byteAt_12 rfl rfl ?_
      refine v_aload_nR (j := 0) C dX6_byteAt_13 rfl rfl ?_
      refine gf_X6_11 C ks_2 dX6_byteAt_14 ?_
      refine v_alen9 (v := 300) C ks_3 rfl dX6_byteAt_17 ?_
      refine v_icmp_ge (tgt := 30) C dX6_byteAt_18 (by decide) (fun g => ?_) (fun g => ?_)
      · replace h := ite_t g h
        refine v_iconst C dX6_byteAt_30 ct_i_0 ?_
        replace h := Option.some.inj h; subst h
        subst hQ
        exact v_iret C hr hlk dX6_byteAt_31
      · replace h := ite_f g h
        refine v_aload_nR (j := 0) C dX6_byteAt_21 rfl rfl ?_
        refine gf_X6_11 C ks_2 dX6_byteAt_22 ?_
        refine v_pc (pc' := 25) rfl ?_
        refine v_iload_n (j := 1) C dX6_byteAt_25 rfl rfl ?_
        replace h := chk_some h; obtain ⟨g1, h⟩ := h
        refine v_iald C ks_3 (inB_vp g1) dX6_byteAt_26 ?_
        refine v_goto (tgt := 31) C dX6_byteAt_27 (by decide) ?_
        replace h := Option.some.inj h; subst h
        subst hQ
        exact v_iret C hr hlk dX6_byteAt_31
def m_X6_isLetter (M : Mem) (x0 : Int32) : Option Int32 :=
  if x0 < 97 then (some 0) else (if 122 < x0 then (some 0) else (some 1))
set_option maxHeartbeats 4000000 in
set_option maxRecDepth 100000 in
theorem c_X6_isLetter (l : Launch) (D : va_G) (cA : cAt) (B : Nat) (aK aV : Nat → Nat) (M : Mem) (x0 : Int32) (R : Int32) (h : m_X6_isLetter M x0 = some R) : CI l D cA B aK aV yX6_isLetter cX6_isLetter 1 .boolean 0 [.int x0] M R M := by
  refine CI_of (by decide +kernel) (Nat.le_of_ble_eq_true rfl) ?_
  intro p e s m args below meth c C hr hlk
  have C : Cx p (rmd 0) s m args c 0 0 D cA B aK aV cX6_isLetter 1 RX6 := C
  generalize hQ : MQ below _ args s 0 0 _ = Q
  refine v_eq (M' := M) (pc' := 0) (L' := [(0, .int x0)]) (st' := []) ?_
  unfold m_X6_isLetter at h
  refine v_iload_n (j := 0) C dX6_isLetter_0 rfl rfl ?_
  refine v_bipush C dX6_isLetter_1 ct_b_97 ?_
  refine v_icmp_lt (tgt := 16) C dX6_isLetter_3 (by decide) (fun g => ?_) (fun g => ?_)
  · replace h := ite_t g h
    refine v_iconst C dX6_isLetter_16 ct_i_0 ?_
    replace h := Option.some.inj h; subst h
    subst hQ
    exact v_zret C hr hlk (show narrow .boolean (.int 0) = .int 0 from rfl) dX6_isLetter_17
  · replace h := ite_f g h
    refine v_iload_n (j := 0) C dX6_isLetter_6 rfl rfl ?_
    refine v_bipush C dX6_isLetter_7 ct_b_122 ?_
    refine v_icmp_gt (tgt := 16) C dX6_isLetter_9 (by decide) (fun g => ?_) (fun g => ?_)
    · replace h := ite_t g h
      refine v_iconst C dX6_isLetter_16 ct_i_0 ?_
      replace h := Option.some.inj h; subst h
      subst hQ
      exact v_zret C hr hlk (show narrow .boolean (.int 0) = .int 0 from rfl) dX6_isLetter_17
    · replace h := ite_f g h
      refine v_pc (pc' := 12) rfl ?_
      refine v_iconst C dX6_isLetter_12 ct_i_1 ?_
      refine v_goto (tgt := 17) C dX6_isLetter_13 (by decide) ?_
      replace h := Option.some.inj h; subst h
      subst hQ
      exact v_zret C hr hlk (show narrow .boolean (.int 1) = .int 1 from rfl) dX6_isLetter_17
def b_X6_stepName_5 (M : Mem) : Option (Mem ⊕ Mem) :=
  if (M 2 1) ≤ (M 2 3) then (some (.inr M)) else ((m_X6_byteAt M (M 2 3)).bind fun r2 => (m_X6_isLetter M r2).bind fun r3 => if r3 = 0 then (some (.inr M)) else (nm (mset M 2 3 ((M 2 3) + 1)) fun M4 => some (.inl M4)))
def m_X6_stepName (M : Mem) : Option Mem :=
  nm (mset M 2 4 1) fun M1 => (loopF (fun z => b_X6_stepName_5 z) FUEL M1).bind fun z5 => some z5
set_option maxHeartbeats 4000000 in
set_option maxRecDepth 100000 in
theorem c_X6_stepName (l : Launch) (D : va_G) (cA : cAt) (B : Nat) (aK aV : Nat → Nat) (M : Mem) (R : Mem) (h : m_X6_stepName M = some R) : CV l D cA B aK aV yX6_stepName cX6_stepName 1 1 [.ref (B + 2)] M R := by
  refine CV_of (by decide +kernel) (Nat.le_of_ble_eq_true rfl) ?_
  intro p e s m args below meth c C hr hlk
  have C : Cx p (rmd 1) s m args c 0 0 D cA B aK aV cX6_stepName 1 RX6 := C
  generalize hQ : MQ below _ args s 0 0 _ = Q
  refine v_eq (M' := M) (pc' := 0) (L' := [(0, .ref (B + 2))]) (st' := []) ?_
  unfold m_X6_stepName at h
  refine v_aload_nR (j := 0) C dX6_stepName_0 rfl rfl ?_
  refine v_iconst C dX6_stepName_1 ct_i_1 ?_
  replace h := nm_ex h; obtain ⟨M1, eM1, h⟩ := h
  refine pf_X6_47 C ks_2 dX6_stepName_2 ?_
  refine v_mem eM1 ?_
  have LB5 : ∀ (M : Mem) (o5 : Mem ⊕ Mem) (h : b_X6_stepName_5 M = some o5) (hc5 : ∀ z : Mem, o5 = .inl z → V p l e (rmd 1) s m args below meth c 0 0 D cA B 1 Q z 5 [(0, .ref (B + 2))] []) (he5 : ∀ z : Mem, o5 = .inr z → V p l e (rmd 1) s m args below meth c 0 0 D cA B 1 Q z 43 [] []), V p l e (rmd 1) s m args below meth c 0 0 D cA B 1 Q M 5 [(0, .ref (B + 2))] [] := by
    intro M o5 h hc5 he5
    unfold b_X6_stepName_5 at h
    refine v_aload_nR (j := 0) C dX6_stepName_5 rfl rfl ?_
    refine gf_X6_19 C ks_2 dX6_stepName_6 ?_
    refine v_aload_nR (j := 0) C dX6_stepName_9 rfl rfl ?_
    refine gf_X6_15 C ks_2 dX6_stepName_10 ?_
    refine v_icmp_ge (tgt := 43) C dX6_stepName_13 (by decide) (fun g => ?_) (fun g => ?_)
    · replace h := ite_t g h
      replace h := Option.some.inj h; subst h
      refine v_sub [] rfl ?_
      exact he5 M rfl
    · replace h := ite_f g h
      refine v_aload_nR (j := 0) C dX6_stepName_16 rfl rfl ?_
      refine v_pc (pc' := 17) rfl ?_
      refine v_aload_nR (j := 0) C dX6_stepName_17 rfl rfl ?_
      refine gf_X6_19 C ks_2 dX6_stepName_18 ?_
      replace h := bind_ex h; obtain ⟨r2, hr2, h⟩ := h
      refine cv_I C tw_419 tw_104 tw_416 tw_418 tw_12 pd_X6_byteAt (Nat.le_of_ble_eq_true rfl) (Nat.le_of_ble_eq_true rfl) (q := 2) (kd_lt ks_2 (by decide)) (sh6 ks_2) rfl (As := [.int (M 2 3)]) (rest := []) rfl rfl (Nat.le_of_ble_eq_true rfl) (c_X6_byteAt l D cA B aK aV M (M 2 3) r2 hr2) dX6_stepName_21 ?_
      replace h := bind_ex h; obtain ⟨r3, hr3, h⟩ := h
      refine cs_I C tw_422 tw_104 tw_420 tw_421 pd_X6_isLetter (Nat.le_of_ble_eq_true rfl) (Nat.le_of_ble_eq_true rfl) (As := [.int r2]) (rest := []) rfl rfl (Nat.le_of_ble_eq_true rfl) (c_X6_isLetter l D cA B aK aV M r2 r3 hr3) dX6_stepName_24 ?_
      refine v_if_eq (tgt := 43) C dX6_stepName_27 (by decide) (fun g => ?_) (fun g => ?_)
      · replace h := ite_t g h
        replace h := Option.some.inj h; subst h
        refine v_sub [] rfl ?_
        exact he5 M rfl
      · replace h := ite_f g h
        refine v_aload_nR (j := 0) C dX6_stepName_30 rfl rfl ?_
        refine v_dup C dX6_stepName_31 rfl ?_
        refine v_pc (pc' := 32) rfl ?_
        refine gf_X6_19 C ks_2 dX6_stepName_32 ?_
        refine v_iconst C dX6_stepName_35 ct_i_1 ?_
        refine v_iadd C dX6_stepName_36 ?_
        replace h := nm_ex h; obtain ⟨M4, eM4, h⟩ := h
        refine pf_X6_19 C ks_2 dX6_stepName_37 ?_
        refine v_mem eM4 ?_
        refine v_goto (tgt := 5) C dX6_stepName_40 (by decide) ?_
        replace h := Option.some.inj h; subst h
        refine v_sub [0] rfl ?_
        exact hc5 M4 rfl
  replace h := bind_ex h; obtain ⟨z5, hz5, h⟩ := h
  refine v_sub [0] rfl ?_
  refine loopF_walk (Pσ := fun z => V p l e (rmd 1) s m args below meth c 0 0 D cA B 1 Q z 5 [(0, .ref (B + 2))] []) (Pρ := fun y => V p l e (rmd 1) s m args below meth c 0 0 D cA B 1 Q y 43 [] []) ?_ FUEL M1 z5 hz5 ?_
  · intro z o hb hc he
    exact LB5 z o hb hc he
  · replace h := Option.some.inj h; subst h
    subst hQ
    exact v_vret C hr hlk dX6_stepName_43
def m_X6_isFigure (M : Mem) (x0 : Int32) : Option Int32 :=
  if x0 < 48 then (some 0) else (if 57 < x0 then (some 0) else (some 1))
set_option maxHeartbeats 4000000 in
set_option maxRecDepth 100000 in
theorem c_X6_isFigure (l : Launch) (D : va_G) (cA : cAt) (B : Nat) (aK aV : Nat → Nat) (M : Mem) (x0 : Int32) (R : Int32) (h : m_X6_isFigure M x0 = some R) : CI l D cA B aK aV yX6_isFigure cX6_isFigure 1 .boolean 0 [.int x0] M R M := by
  refine CI_of (by decide +kernel) (Nat.le_of_ble_eq_true rfl) ?_
  intro p e s m args below meth c C hr hlk
  have C : Cx p (rmd 0) s m args c 0 0 D cA B aK aV cX6_isFigure 1 RX6 := C
  generalize hQ : MQ below _ args s 0 0 _ = Q
  refine v_eq (M' := M) (pc' := 0) (L' := [(0, .int x0)]) (st' := []) ?_
  unfold m_X6_isFigure at h
  refine v_iload_n (j := 0) C dX6_isFigure_0 rfl rfl ?_
  refine v_bipush C dX6_isFigure_1 ct_b_48 ?_
  refine v_icmp_lt (tgt := 16) C dX6_isFigure_3 (by decide) (fun g => ?_) (fun g => ?_)
  · replace h := ite_t g h
    refine v_iconst C dX6_isFigure_16 ct_i_0 ?_
    replace h := Option.some.inj h; subst h
    subst hQ
    exact v_zret C hr hlk (show narrow .boolean (.int 0) = .int 0 from rfl) dX6_isFigure_17
  · replace h := ite_f g h
    refine v_iload_n (j := 0) C dX6_isFigure_6 rfl rfl ?_
    refine v_bipush C dX6_isFigure_7 ct_b_57 ?_
    refine v_icmp_gt (tgt := 16) C dX6_isFigure_9 (by decide) (fun g => ?_) (fun g => ?_)
    · replace h := ite_t g h
      refine v_iconst C dX6_isFigure_16 ct_i_0 ?_
      replace h := Option.some.inj h; subst h
      subst hQ
      exact v_zret C hr hlk (show narrow .boolean (.int 0) = .int 0 from rfl) dX6_isFigure_17
    · replace h := ite_f g h
      refine v_pc (pc' := 12) rfl ?_
      refine v_iconst C dX6_isFigure_12 ct_i_1 ?_
      refine v_goto (tgt := 17) C dX6_isFigure_13 (by decide) ?_
      replace h := Option.some.inj h; subst h
      subst hQ
      exact v_zret C hr hlk (show narrow .boolean (.int 1) = .int 1 from rfl) dX6_isFigure_17
def b_X6_stepNumber_5 (M : Mem) : Option (Mem ⊕ Mem) :=
  if (M 2 1) ≤ (M 2 3) then (some (.inr M)) else ((m_X6_byteAt M (M 2 3)).bind fun r2 => (m_X6_isFigure M r2).bind fun r3 => if r3 = 0 then (some (.inr M)) else ((m_X6_byteAt M (M 2 3)).bind fun r4 => nm (mset M 2 5 ((((M 2 5) * 10) + r4) - 48)) fun M5 => nm (mset M5 2 3 ((M5 2 3) + 1)) fun M6 => some (.inl M6)))
def m_X6_stepNumber (M : Mem) : Option Mem :=
  nm (mset M 2 5 0) fun M1 => (loopF (fun z => b_X6_stepNumber_5 z) FUEL M1).bind fun z7 => if 3 < ((z7 2 3) - (z7 2 2)) then (nm (mset z7 2 4 4) fun M8 => some M8) else (nm (mset z7 2 4 2) fun M9 => some M9)
set_option maxHeartbeats 4000000 in
set_option maxRecDepth 100000 in
theorem c_X6_stepNumber (l : Launch) (D : va_G) (cA : cAt) (B : Nat) (aK aV : Nat → Nat) (M : Mem) (R : Mem) (h : m_X6_stepNumber M = some R) : CV l D cA B aK aV yX6_stepNumber cX6_stepNumber 1 1 [.ref (B + 2)] M R := by
  refine CV_of (by decide +kernel) (Nat.le_of_ble_eq_true rfl) ?_
  intro p e s m args below meth c C hr hlk
  have C : Cx p (rmd 1) s m args c 0 0 D cA B aK aV cX6_stepNumber 1 RX6 := C
  generalize hQ : MQ below _ args s 0 0 _ = Q
  refine v_eq (M' := M) (pc' := 0) (L' := [(0, .ref (B + 2))]) (st' := []) ?_
  unfold m_X6_stepNumber at h
  refine v_aload_nR (j := 0) C dX6_stepNumber_0 rfl rfl ?_
  refine v_iconst C dX6_stepNumber_1 ct_i_0 ?_
  replace h := nm_ex h; obtain ⟨M1, eM1, h⟩ := h
  refine pf_X6_56 C ks_2 dX6_stepNumber_2 ?_
  refine v_mem eM1 ?_
  have LB5 : ∀ (M : Mem) (o5 : Mem ⊕ Mem) (h : b_X6_stepNumber_5 M = some o5) (hc5 : ∀ z : Mem, o5 = .inl z → V p l e (rmd 1) s m args below meth c 0 0 D cA B 1 Q z 5 [(0, .ref (B + 2))] []) (he5 : ∀ z : Mem, o5 = .inr z → V p l e (rmd 1) s m args below meth c 0 0 D cA B 1 Q z 66 [(0, .ref (B + 2))] []), V p l e (rmd 1) s m args below meth c 0 0 D cA B 1 Q M 5 [(0, .ref (B + 2))] [] := by
    intro M o5 h hc5 he5
    unfold b_X6_stepNumber_5 at h
    refine v_aload_nR (j := 0) C dX6_stepNumber_5 rfl rfl ?_
    refine gf_X6_19 C ks_2 dX6_stepNumber_6 ?_
    refine v_aload_nR (j := 0) C dX6_stepNumber_9 rfl rfl ?_
    refine gf_X6_15 C ks_2 dX6_stepNumber_10 ?_
    refine v_icmp_ge (tgt := 66) C dX6_stepNumber_13 (by decide) (fun g => ?_) (fun g => ?_)
    · replace h := ite_t g h
      replace h := Option.some.inj h; subst h
      refine v_sub [0] rfl ?_
      exact he5 M rfl
    · replace h := ite_f g h
      refine v_aload_nR (j := 0) C dX6_stepNumber_16 rfl rfl ?_
      refine v_pc (pc' := 17) rfl ?_
      refine v_aload_nR (j := 0) C dX6_stepNumber_17 rfl rfl ?_
      refine gf_X6_19 C ks_2 dX6_stepNumber_18 ?_
      replace h := bind_ex h; obtain ⟨r2, hr2, h⟩ := h
      refine cv_I C tw_419 tw_104 tw_416 tw_418 tw_12 pd_X6_byteAt (Nat.le_of_ble_eq_true rfl) (Nat.le_of_ble_eq_true rfl) (q := 2) (kd_lt ks_2 (by decide)) (sh6 ks_2) rfl (As := [.int (M 2 3)]) (rest := []) rfl rfl (Nat.le_of_ble_eq_true rfl) (c_X6_byteAt l D cA B aK aV M (M 2 3) r2 hr2) dX6_stepNumber_21 ?_
      replace h := bind_ex h; obtain ⟨r3, hr3, h⟩ := h
      refine cs_I C tw_429 tw_104 tw_427 tw_428 pd_X6_isFigure (Nat.le_of_ble_eq_true rfl) (Nat.le_of_ble_eq_true rfl) (As := [.int r2]) (rest := []) rfl rfl (Nat.le_of_ble_eq_true rfl) (c_X6_isFigure l D cA B aK aV M r2 r3 hr3) dX6_stepNumber_24 ?_
      refine v_if_eq (tgt := 66) C dX6_stepNumber_27 (by decide) (fun g => ?_) (fun g => ?_)
      · replace h := ite_t g h
        replace h := Option.some.inj h; subst h
        refine v_sub [0] rfl ?_
        exact he5 M rfl
      · replace h := ite_f g h
        refine v_aload_nR (j := 0) C dX6_stepNumber_30 rfl rfl ?_
        refine v_aload_nR (j := 0) C dX6_stepNumber_31 rfl rfl ?_
        refine v_pc (pc' := 32) rfl ?_
        refine gf_X6_56 C ks_2 dX6_stepNumber_32 ?_
        refine v_bipush C dX6_stepNumber_35 ct_b_10 ?_
        refine v_imul C dX6_stepNumber_37 ?_
        refine v_aload_nR (j := 0) C dX6_stepNumber_38 rfl rfl ?_
        refine v_aload_nR (j := 0) C dX6_stepNumber_39 rfl rfl ?_
        refine gf_X6_19 C ks_2 dX6_stepNumber_40 ?_
        replace h := bind_ex h; obtain ⟨r4, hr4, h⟩ := h
        refine cv_I C tw_419 tw_104 tw_416 tw_418 tw_12 pd_X6_byteAt (Nat.le_of_ble_eq_true rfl) (Nat.le_of_ble_eq_true rfl) (q := 2) (kd_lt ks_2 (by decide)) (sh6 ks_2) rfl (As := [.int (M 2 3)]) (rest := [.int ((M 2 5) * 10), .ref (B + 2)]) rfl rfl (Nat.le_of_ble_eq_true rfl) (c_X6_byteAt l D cA B aK aV M (M 2 3) r4 hr4) dX6_stepNumber_43 ?_
        refine v_pc (pc' := 46) rfl ?_
        refine v_iadd C dX6_stepNumber_46 ?_
        refine v_bipush C dX6_stepNumber_47 ct_b_48 ?_
        refine v_isub C dX6_stepNumber_49 ?_
        replace h := nm_ex h; obtain ⟨M5, eM5, h⟩ := h
        refine pf_X6_56 C ks_2 dX6_stepNumber_50 ?_
        refine v_mem eM5 ?_
        refine v_aload_nR (j := 0) C dX6_stepNumber_53 rfl rfl ?_
        refine v_dup C dX6_stepNumber_54 rfl ?_
        refine gf_X6_19 C ks_2 dX6_stepNumber_55 ?_
        refine v_pc (pc' := 58) rfl ?_
        refine v_iconst C dX6_stepNumber_58 ct_i_1 ?_
        refine v_iadd C dX6_stepNumber_59 ?_
        replace h := nm_ex h; obtain ⟨M6, eM6, h⟩ := h
        refine pf_X6_19 C ks_2 dX6_stepNumber_60 ?_
        refine v_mem eM6 ?_
        refine v_goto (tgt := 5) C dX6_stepNumber_63 (by decide) ?_
        replace h := Option.some.inj h; subst h
        refine v_sub [0] rfl ?_
        exact hc5 M6 rfl
  replace h := bind_ex h; obtain ⟨z7, hz7, h⟩ := h
  refine v_sub [0] rfl ?_
  refine loopF_walk (Pσ := fun z => V p l e (rmd 1) s m args below meth c 0 0 D cA B 1 Q z 5 [(0, .ref (B + 2))] []) (Pρ := fun y => V p l e (rmd 1) s m args below meth c 0 0 D cA B 1 Q y 66 [(0, .ref (B + 2))] []) ?_ FUEL M1 z7 hz7 ?_
  · intro z o hb hc he
    exact LB5 z o hb hc he
  · refine v_aload_nR (j := 0) C dX6_stepNumber_66 rfl rfl ?_
    refine v_aload_nR (j := 0) C dX6_stepNumber_67 rfl rfl ?_
    refine gf_X6_19 C ks_2 dX6_stepNumber_68 ?_
    refine v_aload_nR (j := 0) C dX6_stepNumber_71 rfl rfl ?_
    refine gf_X6_96 C ks_2 dX6_stepNumber_72 ?_
    refine v_isub C dX6_stepNumber_75 ?_
    refine v_pc (pc' := 76) rfl ?_
    refine v_iconst C dX6_stepNumber_76 ct_i_3 ?_
    refine v_icmp_gt (tgt := 84) C dX6_stepNumber_77 (by decide) (fun g => ?_) (fun g => ?_)
    · replace h := ite_t g h
      refine v_iconst C dX6_stepNumber_84 ct_i_4 ?_
      replace h := nm_ex h; obtain ⟨M8, eM8, h⟩ := h
      refine pf_X6_47 C ks_2 dX6_stepNumber_85 ?_
      refine v_mem eM8 ?_
      replace h := Option.some.inj h; subst h
      subst hQ
      exact v_vret C hr hlk dX6_stepNumber_88
    · replace h := ite_f g h
      refine v_iconst C dX6_stepNumber_80 ct_i_2 ?_
      refine v_goto (tgt := 85) C dX6_stepNumber_81 (by decide) ?_
      replace h := nm_ex h; obtain ⟨M9, eM9, h⟩ := h
      refine pf_X6_47 C ks_2 dX6_stepNumber_85 ?_
      refine v_mem eM9 ?_
      replace h := Option.some.inj h; subst h
      subst hQ
      exact v_vret C hr hlk dX6_stepNumber_88
def j_X6_step_138 (M : Mem) (s0 : Int32) : Option Mem :=
  nm (mset M 2 4 s0) fun M1 => nm (mset M1 2 3 ((M1 2 3) + 1)) fun M2 => some M2
def j_X6_step_37 (M : Mem) : Option (Mem ⊕ Mem) :=
  nm (mset M 2 3 ((M 2 3) + 1)) fun M3 => some (.inl M3)
def b_X6_step_0 (M : Mem) : Option (Mem ⊕ Mem) :=
  if (M 2 1) ≤ (M 2 3) then (some (.inr M)) else ((m_X6_byteAt M (M 2 3)).bind fun r4 => if r4 = 32 then (j_X6_step_37 M) else ((m_X6_byteAt M (M 2 3)).bind fun r5 => if r5 = 10 then (j_X6_step_37 M) else (some (.inr M))))
def m_X6_step (M : Mem) : Option Mem :=
  (loopF (fun z => b_X6_step_0 z) FUEL M).bind fun z6 => nm (mset z6 2 2 (z6 2 3)) fun M7 => if (M7 2 3) < (M7 2 1) then ((m_X6_byteAt M7 (M7 2 3)).bind fun r8 => (m_X6_isLetter M7 r8).bind fun r9 => if r9 = 0 then ((m_X6_byteAt M7 (M7 2 3)).bind fun r10 => (m_X6_isFigure M7 r10).bind fun r11 => if r11 = 0 then ((m_X6_byteAt M7 (M7 2 3)).bind fun r12 => if r12 = 59 then (j_X6_step_138 M7 3) else (j_X6_step_138 M7 4)) else ((m_X6_stepNumber M7).bind fun r13 => some r13)) else ((m_X6_stepName M7).bind fun r14 => some r14)) else (nm (mset M7 2 4 0) fun M15 => some M15)
set_option maxHeartbeats 4000000 in
set_option maxRecDepth 100000 in
theorem c_X6_step (l : Launch) (D : va_G) (cA : cAt) (B : Nat) (aK aV : Nat → Nat) (M : Mem) (R : Mem) (h : m_X6_step M = some R) : CV l D cA B aK aV yX6_step cX6_step 1 2 [.ref (B + 2)] M R := by
  refine CV_of (by decide +kernel) (Nat.le_of_ble_eq_true rfl) ?_
  intro p e s m args below meth c C hr hlk
  have C : Cx p (rmd 2) s m args c 0 0 D cA B aK aV cX6_step 1 RX6 := C
  generalize hQ : MQ below _ args s 0 0 _ = Q
  refine v_eq (M' := M) (pc' := 0) (L' := [(0, .ref (B + 2))]) (st' := []) ?_
  unfold m_X6_step at h
  have J138 : ∀ (M : Mem) (s0 : Int32), j_X6_step_138 M s0 = some R → V p l e (rmd 2) s m args below meth c 0 0 D cA B 1 Q M 138 [(0, .ref (B + 2))] [.int s0, .ref (B + 2)] := by
    intro M s0 h
    unfold j_X6_step_138 at h
    replace h := nm_ex h; obtain ⟨M1, eM1, h⟩ := h
    refine pf_X6_47 C ks_2 dX6_step_138 ?_
    refine v_mem eM1 ?_
    refine v_aload_nR (j := 0) C dX6_step_141 rfl rfl ?_
    refine v_dup C dX6_step_142 rfl ?_
    refine gf_X6_19 C ks_2 dX6_step_143 ?_
    refine v_iconst C dX6_step_146 ct_i_1 ?_
    refine v_iadd C dX6_step_147 ?_
    refine v_pc (pc' := 148) rfl ?_
    replace h := nm_ex h; obtain ⟨M2, eM2, h⟩ := h
    refine pf_X6_19 C ks_2 dX6_step_148 ?_
    refine v_mem eM2 ?_
    replace h := Option.some.inj h; subst h
    subst hQ
    exact v_vret C hr hlk dX6_step_151
  have LB0 : ∀ (M : Mem) (o0 : Mem ⊕ Mem) (h : b_X6_step_0 M = some o0) (hc0 : ∀ z : Mem, o0 = .inl z → V p l e (rmd 2) s m args below meth c 0 0 D cA B 1 Q z 0 [(0, .ref (B + 2))] []) (he0 : ∀ z : Mem, o0 = .inr z → V p l e (rmd 2) s m args below meth c 0 0 D cA B 1 Q z 50 [(0, .ref (B + 2))] []), V p l e (rmd 2) s m args below meth c 0 0 D cA B 1 Q M 0 [(0, .ref (B + 2))] [] := by
    intro M o0 h hc0 he0
    unfold b_X6_step_0 at h
    have J37 : ∀ (M : Mem), j_X6_step_37 M = some o0 → V p l e (rmd 2) s m args below meth c 0 0 D cA B 1 Q M 37 [(0, .ref (B + 2))] [] := by
      intro M h
      unfold j_X6_step_37 at h
      refine v_aload_nR (j := 0) C dX6_step_37 rfl rfl ?_
      refine v_dup C dX6_step_38 rfl ?_
      refine gf_X6_19 C ks_2 dX6_step_39 ?_
      refine v_iconst C dX6_step_42 ct_i_1 ?_
      refine v_iadd C dX6_step_43 ?_
      replace h := nm_ex h; obtain ⟨M3, eM3, h⟩ := h
      refine pf_X6_19 C ks_2 dX6_step_44 ?_
      refine v_mem eM3 ?_
      refine v_pc (pc' := 47) rfl ?_
      refine v_goto (tgt := 0) C dX6_step_47 (by decide) ?_
      replace h := Option.some.inj h; subst h
      refine v_sub [0] rfl ?_
      exact hc0 M3 rfl
    refine v_aload_nR (j := 0) C dX6_step_0 rfl rfl ?_
    refine gf_X6_19 C ks_2 dX6_step_1 ?_
    refine v_aload_nR (j := 0) C dX6_step_4 rfl rfl ?_
    refine gf_X6_15 C ks_2 dX6_step_5 ?_
    refine v_icmp_ge (tgt := 50) C dX6_step_8 (by decide) (fun g => ?_) (fun g => ?_)
    · replace h := ite_t g h
      replace h := Option.some.inj h; subst h
      refine v_sub [0] rfl ?_
      exact he0 M rfl
    · replace h := ite_f g h
      refine v_aload_nR (j := 0) C dX6_step_11 rfl rfl ?_
      refine v_pc (pc' := 12) rfl ?_
      refine v_aload_nR (j := 0) C dX6_step_12 rfl rfl ?_
      refine gf_X6_19 C ks_2 dX6_step_13 ?_
      replace h := bind_ex h; obtain ⟨r4, hr4, h⟩ := h
      refine cv_I C tw_419 tw_104 tw_416 tw_418 tw_12 pd_X6_byteAt (Nat.le_of_ble_eq_true rfl) (Nat.le_of_ble_eq_true rfl) (q := 2) (kd_lt ks_2 (by decide)) (sh6 ks_2) rfl (As := [.int (M 2 3)]) (rest := []) rfl rfl (Nat.le_of_ble_eq_true rfl) (c_X6_byteAt l D cA B aK aV M (M 2 3) r4 hr4) dX6_step_16 ?_
      refine v_bipush C dX6_step_19 ct_b_32 ?_
      refine v_icmp_eq (tgt := 37) C dX6_step_21 (by decide) (fun g => ?_) (fun g => ?_)
      · replace h := ite_t g h
        refine v_sub [0] rfl ?_
        exact J37 M h
      · replace h := ite_f g h
        refine v_aload_nR (j := 0) C dX6_step_24 rfl rfl ?_
        refine v_aload_nR (j := 0) C dX6_step_25 rfl rfl ?_
        refine v_pc (pc' := 26) rfl ?_
        refine gf_X6_19 C ks_2 dX6_step_26 ?_
        replace h := bind_ex h; obtain ⟨r5, hr5, h⟩ := h
        refine cv_I C tw_419 tw_104 tw_416 tw_418 tw_12 pd_X6_byteAt (Nat.le_of_ble_eq_true rfl) (Nat.le_of_ble_eq_true rfl) (q := 2) (kd_lt ks_2 (by decide)) (sh6 ks_2) rfl (As := [.int (M 2 3)]) (rest := []) rfl rfl (Nat.le_of_ble_eq_true rfl) (c_X6_byteAt l D cA B aK aV M (M 2 3) r5 hr5) dX6_step_29 ?_
        refine v_bipush C dX6_step_32 ct_b_10 ?_
        refine v_icmp_ne (tgt := 50) C dX6_step_34 (by decide) (fun g => ?_) (fun g => ?_)
        · replace h := ite_t g h
          refine v_sub [0] rfl ?_
          exact J37 M h
        · replace h := ite_f g h
          replace h := Option.some.inj h; subst h
          refine v_sub [0] rfl ?_
          exact he0 M rfl
  replace h := bind_ex h; obtain ⟨z6, hz6, h⟩ := h
  refine v_sub [0] rfl ?_
  refine loopF_walk (Pσ := fun z => V p l e (rmd 2) s m args below meth c 0 0 D cA B 1 Q z 0 [(0, .ref (B + 2))] []) (Pρ := fun y => V p l e (rmd 2) s m args below meth c 0 0 D cA B 1 Q y 50 [(0, .ref (B + 2))] []) ?_ FUEL M z6 hz6 ?_
  · intro z o hb hc he
    exact LB0 z o hb hc he
  · refine v_aload_nR (j := 0) C dX6_step_50 rfl rfl ?_
    refine v_aload_nR (j := 0) C dX6_step_51 rfl rfl ?_
    refine gf_X6_19 C ks_2 dX6_step_52 ?_
    replace h := nm_ex h; obtain ⟨M7, eM7, h⟩ := h
    refine pf_X6_96 C ks_2 dX6_step_55 ?_
    refine v_mem eM7 ?_
    refine v_aload_nR (j := 0) C dX6_step_58 rfl rfl ?_
    refine gf_X6_19 C ks_2 dX6_step_59 ?_
    refine v_pc (pc' := 62) rfl ?_
    refine v_aload_nR (j := 0) C dX6_step_62 rfl rfl ?_
    refine gf_X6_15 C ks_2 dX6_step_63 ?_
    refine v_icmp_lt (tgt := 77) C dX6_step_66 (by decide) (fun g => ?_) (fun g => ?_)
    · replace h := ite_t g h
      refine v_aload_nR (j := 0) C dX6_step_77 rfl rfl ?_
      refine v_aload_nR (j := 0) C dX6_step_78 rfl rfl ?_
      refine gf_X6_19 C ks_2 dX6_step_79 ?_
      replace h := bind_ex h; obtain ⟨r8, hr8, h⟩ := h
      refine cv_I C tw_419 tw_104 tw_416 tw_418 tw_12 pd_X6_byteAt (Nat.le_of_ble_eq_true rfl) (Nat.le_of_ble_eq_true rfl) (q := 2) (kd_lt ks_2 (by decide)) (sh6 ks_2) rfl (As := [.int (M7 2 3)]) (rest := []) rfl rfl (Nat.le_of_ble_eq_true rfl) (c_X6_byteAt l D cA B aK aV M7 (M7 2 3) r8 hr8) dX6_step_82 ?_
      replace h := bind_ex h; obtain ⟨r9, hr9, h⟩ := h
      refine cs_I C tw_422 tw_104 tw_420 tw_421 pd_X6_isLetter (Nat.le_of_ble_eq_true rfl) (Nat.le_of_ble_eq_true rfl) (As := [.int r8]) (rest := []) rfl rfl (Nat.le_of_ble_eq_true rfl) (c_X6_isLetter l D cA B aK aV M7 r8 r9 hr9) dX6_step_85 ?_
      refine v_if_eq (tgt := 98) C dX6_step_88 (by decide) (fun g => ?_) (fun g => ?_)
      · replace h := ite_t g h
        refine v_aload_nR (j := 0) C dX6_step_98 rfl rfl ?_
        refine v_aload_nR (j := 0) C dX6_step_99 rfl rfl ?_
        refine gf_X6_19 C ks_2 dX6_step_100 ?_
        replace h := bind_ex h; obtain ⟨r10, hr10, h⟩ := h
        refine cv_I C tw_419 tw_104 tw_416 tw_418 tw_12 pd_X6_byteAt (Nat.le_of_ble_eq_true rfl) (Nat.le_of_ble_eq_true rfl) (q := 2) (kd_lt ks_2 (by decide)) (sh6 ks_2) rfl (As := [.int (M7 2 3)]) (rest := []) rfl rfl (Nat.le_of_ble_eq_true rfl) (c_X6_byteAt l D cA B aK aV M7 (M7 2 3) r10 hr10) dX6_step_103 ?_
        replace h := bind_ex h; obtain ⟨r11, hr11, h⟩ := h
        refine cs_I C tw_429 tw_104 tw_427 tw_428 pd_X6_isFigure (Nat.le_of_ble_eq_true rfl) (Nat.le_of_ble_eq_true rfl) (As := [.int r10]) (rest := []) rfl rfl (Nat.le_of_ble_eq_true rfl) (c_X6_isFigure l D cA B aK aV M7 r10 r11 hr11) dX6_step_106 ?_
        refine v_if_eq (tgt := 119) C dX6_step_109 (by decide) (fun g => ?_) (fun g => ?_)
        · replace h := ite_t g h
          refine v_aload_nR (j := 0) C dX6_step_119 rfl rfl ?_
          refine v_aload_nR (j := 0) C dX6_step_120 rfl rfl ?_
          refine v_aload_nR (j := 0) C dX6_step_121 rfl rfl ?_
          refine gf_X6_19 C ks_2 dX6_step_122 ?_
          replace h := bind_ex h; obtain ⟨r12, hr12, h⟩ := h
          refine cv_I C tw_419 tw_104 tw_416 tw_418 tw_12 pd_X6_byteAt (Nat.le_of_ble_eq_true rfl) (Nat.le_of_ble_eq_true rfl) (q := 2) (kd_lt ks_2 (by decide)) (sh6 ks_2) rfl (As := [.int (M7 2 3)]) (rest := [.ref (B + 2)]) rfl rfl (Nat.le_of_ble_eq_true rfl) (c_X6_byteAt l D cA B aK aV M7 (M7 2 3) r12 hr12) dX6_step_125 ?_
          refine v_bipush C dX6_step_128 ct_b_59 ?_
          refine v_pc (pc' := 130) rfl ?_
          refine v_icmp_ne (tgt := 137) C dX6_step_130 (by decide) (fun g => ?_) (fun g => ?_)
          · replace h := ite_t g h
            refine v_iconst C dX6_step_133 ct_i_3 ?_
            refine v_goto (tgt := 138) C dX6_step_134 (by decide) ?_
            refine v_sub [0] rfl ?_
            exact J138 M7 3 h
          · replace h := ite_f g h
            refine v_iconst C dX6_step_137 ct_i_4 ?_
            refine v_sub [0] rfl ?_
            exact J138 M7 4 h
        · replace h := ite_f g h
          refine v_pc (pc' := 112) rfl ?_
          refine v_aload_nR (j := 0) C dX6_step_112 rfl rfl ?_
          replace h := bind_ex h; obtain ⟨r13, hr13, h⟩ := h
          refine cv_V C tw_433 tw_104 tw_430 tw_432 tw_14 pd_X6_stepNumber (Nat.le_of_ble_eq_true rfl) (Nat.le_of_ble_eq_true rfl) (q := 2) (kd_lt ks_2 (by decide)) (sh6 ks_2) rfl (As := []) (rest := []) rfl rfl (Nat.le_of_ble_eq_true rfl) (c_X6_stepNumber l D cA B aK aV M7 r13 hr13) dX6_step_113 ?_
          refine v_goto (tgt := 151) C dX6_step_116 (by decide) ?_
          replace h := Option.some.inj h; subst h
          subst hQ
          exact v_vret C hr hlk dX6_step_151
      · replace h := ite_f g h
        refine v_pc (pc' := 91) rfl ?_
        refine v_aload_nR (j := 0) C dX6_step_91 rfl rfl ?_
        replace h := bind_ex h; obtain ⟨r14, hr14, h⟩ := h
        refine cv_V C tw_426 tw_104 tw_423 tw_425 tw_13 pd_X6_stepName (Nat.le_of_ble_eq_true rfl) (Nat.le_of_ble_eq_true rfl) (q := 2) (kd_lt ks_2 (by decide)) (sh6 ks_2) rfl (As := []) (rest := []) rfl rfl (Nat.le_of_ble_eq_true rfl) (c_X6_stepName l D cA B aK aV M7 r14 hr14) dX6_step_92 ?_
        refine v_goto (tgt := 151) C dX6_step_95 (by decide) ?_
        replace h := Option.some.inj h; subst h
        subst hQ
        exact v_vret C hr hlk dX6_step_151
    · replace h := ite_f g h
      refine v_aload_nR (j := 0) C dX6_step_69 rfl rfl ?_
      refine v_iconst C dX6_step_70 ct_i_0 ?_
      replace h := nm_ex h; obtain ⟨M15, eM15, h⟩ := h
      refine pf_X6_47 C ks_2 dX6_step_71 ?_
      refine v_mem eM15 ?_
      refine v_goto (tgt := 151) C dX6_step_74 (by decide) ?_
      replace h := Option.some.inj h; subst h
      subst hQ
      exact v_vret C hr hlk dX6_step_151
def b_X6_isName_28 (M : Mem) (x1 : Nat) (x2 : Int32) : Option (Int32 ⊕ (Unit ⊕ Int32)) :=
  if (sLenI x1) ≤ x2 then (some (.inr (.inl ()))) else ((m_X6_byteAt M ((M 2 2) + x2)).bind fun r1 => chk (inB x2 (sLen.getD x1 0)) (if r1 = (sChI x1 x2) then (some (.inl (x2 + 1))) else (some (.inr (.inr 0)))))
def m_X6_isName (M : Mem) (x1 : Nat) : Option Int32 :=
  if (M 2 4) = 1 then (if ((M 2 3) - (M 2 2)) = (sLenI x1) then ((loopF (fun z => b_X6_isName_28 M x1 z) FUEL 0).bind fun z3 => sumC z3 (fun z4 => some 1) (fun z => some z)) else (some 0)) else (some 0)
set_option maxHeartbeats 4000000 in
set_option maxRecDepth 100000 in
theorem c_X6_isName (l : Launch) (D : va_G) (cA : cAt) (B : Nat) (aK aV : Nat → Nat) (M : Mem) (x1 : Nat) (k1 : x1 < 8) (R : Int32) (h : m_X6_isName M x1 = some R) : CI l D cA B aK aV yX6_isName cX6_isName 3 .boolean 4 [.ref (B + 2), .ref (aK x1)] M R M := by
  refine CI_of (by decide +kernel) (Nat.le_of_ble_eq_true rfl) ?_
  intro p e s m args below meth c C hr hlk
  have C : Cx p (rmd 4) s m args c 0 0 D cA B aK aV cX6_isName 3 RX6 := C
  generalize hQ : MQ below _ args s 0 0 _ = Q
  refine v_eq (M' := M) (pc' := 0) (L' := [(0, .ref (B + 2)), (1, .ref (aK x1))]) (st' := []) ?_
  unfold m_X6_isName at h
  refine v_aload_nR (j := 0) C dX6_isName_0 rfl rfl ?_
  refine gf_X6_47 C ks_2 dX6_isName_1 ?_
  refine v_iconst C dX6_isName_4 ct_i_1 ?_
  refine v_icmp_ne (tgt := 24) C dX6_isName_5 (by decide) (fun g => ?_) (fun g => ?_)
  · replace h := ite_t g h
    refine v_aload_nR (j := 0) C dX6_isName_8 rfl rfl ?_
    refine gf_X6_19 C ks_2 dX6_isName_9 ?_
    refine v_pc (pc' := 12) rfl ?_
    refine v_aload_nR (j := 0) C dX6_isName_12 rfl rfl ?_
    refine gf_X6_96 C ks_2 dX6_isName_13 ?_
    refine v_isub C dX6_isName_16 ?_
    refine v_aload_nR (j := 1) C dX6_isName_17 rfl rfl ?_
    refine cvS_I C tw_446 tw_114 tw_443 tw_444 tw_445 pd_J0_length_8abf5 (Nat.le_of_ble_eq_true rfl) (Nat.le_of_ble_eq_true rfl) k1 (As := []) (rest := [.int ((M 2 3) - (M 2 2))]) rfl rfl (Nat.le_of_ble_eq_true rfl) (c_strlen l D cA B aK aV M x1 k1) dX6_isName_18 ?_
    refine v_icmp_eq (tgt := 26) C dX6_isName_21 (by decide) (fun g => ?_) (fun g => ?_)
    · replace h := ite_t g h
      refine v_iconst C dX6_isName_26 ct_i_0 ?_
      refine v_istore_n (L' := [(2, .int 0), (0, .ref (B + 2)), (1, .ref (aK x1))]) C dX6_isName_27 rfl (by decide) rfl ?_
      have LB28 : ∀  (x2 : Int32) (o28 : Int32 ⊕ (Unit ⊕ Int32)) (h : b_X6_isName_28 M x1 x2 = some o28) (hc28 : ∀ z : Int32, o28 = .inl z → V p l e (rmd 4) s m args below meth c 0 0 D cA B 3 Q M 28 [(0, .ref (B + 2)), (1, .ref (aK x1)), (2, .int z)] []) (he28 : ∀ z : Unit, o28 = .inr (.inl z) → V p l e (rmd 4) s m args below meth c 0 0 D cA B 3 Q M 62 [] []) (hr28 : ∀ z : Int32, o28 = .inr (.inr z) → z = R), V p l e (rmd 4) s m args below meth c 0 0 D cA B 3 Q M 28 [(0, .ref (B + 2)), (1, .ref (aK x1)), (2, .int x2)] [] := by
        intro x2 o28 h hc28 he28 hr28
        unfold b_X6_isName_28 at h
        refine v_iload_n (j := 2) C dX6_isName_28 rfl rfl ?_
        refine v_aload_nR (j := 1) C dX6_isName_29 rfl rfl ?_
        refine cvS_I C tw_446 tw_114 tw_443 tw_444 tw_445 pd_J0_length_8abf5 (Nat.le_of_ble_eq_true rfl) (Nat.le_of_ble_eq_true rfl) k1 (As := []) (rest := [.int x2]) rfl rfl (Nat.le_of_ble_eq_true rfl) (c_strlen l D cA B aK aV M x1 k1) dX6_isName_30 ?_
        refine v_icmp_ge (tgt := 62) C dX6_isName_33 (by decide) (fun g => ?_) (fun g => ?_)
        · replace h := ite_t g h
          replace h := Option.some.inj h; subst h
          refine v_sub [] rfl ?_
          exact he28 () rfl
        · replace h := ite_f g h
          refine v_aload_nR (j := 0) C dX6_isName_36 rfl rfl ?_
          refine v_aload_nR (j := 0) C dX6_isName_37 rfl rfl ?_
          refine v_pc (pc' := 38) rfl ?_
          refine gf_X6_96 C ks_2 dX6_isName_38 ?_
          refine v_iload_n (j := 2) C dX6_isName_41 rfl rfl ?_
          refine v_iadd C dX6_isName_42 ?_
          replace h := bind_ex h; obtain ⟨r1, hr1, h⟩ := h
          refine cv_I C tw_419 tw_104 tw_416 tw_418 tw_12 pd_X6_byteAt (Nat.le_of_ble_eq_true rfl) (Nat.le_of_ble_eq_true rfl) (q := 2) (kd_lt ks_2 (by decide)) (sh6 ks_2) rfl (As := [.int ((M 2 2) + x2)]) (rest := []) rfl rfl (Nat.le_of_ble_eq_true rfl) (c_X6_byteAt l D cA B aK aV M ((M 2 2) + x2) r1 hr1) dX6_isName_43 ?_
          refine v_aload_nR (j := 1) C dX6_isName_46 rfl rfl ?_
          refine v_iload_n (j := 2) C dX6_isName_47 rfl rfl ?_
          replace h := chk_some h; obtain ⟨g2, h⟩ := h
          refine cvS_I C tw_456 tw_114 tw_453 tw_454 tw_455 pd_J0_charAt_5068e (Nat.le_of_ble_eq_true rfl) (Nat.le_of_ble_eq_true rfl) k1 (As := [.int x2]) (rest := [.int r1]) rfl rfl (Nat.le_of_ble_eq_true rfl) (c_charAt l D cA B aK aV M x1 k1 x2 (inB_vp g2)) dX6_isName_48 ?_
          refine v_pc (pc' := 51) rfl ?_
          refine v_icmp_eq (tgt := 56) C dX6_isName_51 (by decide) (fun g => ?_) (fun g => ?_)
          · replace h := ite_t g h
            refine v_iinc (j := 2) (L' := [(2, .int (x2 + 1)), (0, .ref (B + 2)), (1, .ref (aK x1))]) C dX6_isName_56 rfl (congrArg (fun z => _ + z) ct_i_1) (by decide) rfl ?_
            refine v_goto (tgt := 28) C dX6_isName_59 (by decide) ?_
            replace h := Option.some.inj h; subst h
            refine v_sub [1, 2, 0] rfl ?_
            exact hc28 (x2 + 1) rfl
          · replace h := ite_f g h
            refine v_iconst C dX6_isName_54 ct_i_0 ?_
            replace h := Option.some.inj h; subst h
            have hR := hr28 _ rfl
            subst hR
            subst hQ
            exact v_zret C hr hlk (show narrow .boolean (.int 0) = .int 0 from rfl) dX6_isName_55
      replace h := bind_ex h; obtain ⟨z3, hz3, h⟩ := h
      refine v_sub [1, 2, 0] rfl ?_
      refine loopF_walk (Pσ := fun z => V p l e (rmd 4) s m args below meth c 0 0 D cA B 3 Q M 28 [(0, .ref (B + 2)), (1, .ref (aK x1)), (2, .int z)] []) (Pρ := fun r => (∀ y : Unit, r = .inl y → V p l e (rmd 4) s m args below meth c 0 0 D cA B 3 Q M 62 [] []) ∧ (∀ y : Int32, r = .inr y → y = R)) ?_ FUEL 0 z3 hz3 ?_
      · intro z o hb hc he
        exact LB28 z o hb hc (fun y e => (he _ e).1 y rfl) (fun y e => (he _ e).2 y rfl)
      · refine ⟨fun z4 e => ?_, fun y e => ?_⟩
        · subst e
          replace h := sumC_l h
          refine v_iconst C dX6_isName_62 ct_i_1 ?_
          replace h := Option.some.inj h; subst h
          subst hQ
          exact v_zret C hr hlk (show narrow .boolean (.int 1) = .int 1 from rfl) dX6_isName_63
        · subst e
          replace h := sumC_r h
          exact Option.some.inj h
    · replace h := ite_f g h
      refine v_iconst C dX6_isName_24 ct_i_0 ?_
      refine v_pc (pc' := 25) rfl ?_
      replace h := Option.some.inj h; subst h
      subst hQ
      exact v_zret C hr hlk (show narrow .boolean (.int 0) = .int 0 from rfl) dX6_isName_25
  · replace h := ite_f g h
    refine v_iconst C dX6_isName_24 ct_i_0 ?_
    replace h := Option.some.inj h; subst h
    subst hQ
    exact v_zret C hr hlk (show narrow .boolean (.int 0) = .int 0 from rfl) dX6_isName_25
def m_X6_refuse (M : Mem) (x1 : Int32) : Option (Int32 × Mem) :=
  nm (mset M 2 6 x1) fun M1 => some ((0, M1))
set_option maxHeartbeats 4000000 in
set_option maxRecDepth 100000 in
theorem c_X6_refuse (l : Launch) (D : va_G) (cA : cAt) (B : Nat) (aK aV : Nat → Nat) (M : Mem) (x1 : Int32) (R : Int32 × Mem) (h : m_X6_refuse M x1 = some R) : CI l D cA B aK aV yX6_refuse cX6_refuse 2 .boolean 0 [.ref (B + 2), .int x1] M R.1 R.2 := by
  refine CI_of (by decide +kernel) (Nat.le_of_ble_eq_true rfl) ?_
  intro p e s m args below meth c C hr hlk
  have C : Cx p (rmd 0) s m args c 0 0 D cA B aK aV cX6_refuse 2 RX6 := C
  generalize hQ : MQ below _ args s 0 0 _ = Q
  refine v_eq (M' := M) (pc' := 0) (L' := [(0, .ref (B + 2)), (1, .int x1)]) (st' := []) ?_
  unfold m_X6_refuse at h
  refine v_aload_nR (j := 0) C dX6_refuse_0 rfl rfl ?_
  refine v_iload_n (j := 1) C dX6_refuse_1 rfl rfl ?_
  replace h := nm_ex h; obtain ⟨M1, eM1, h⟩ := h
  refine pf_X6_93 C ks_2 dX6_refuse_2 ?_
  refine v_mem eM1 ?_
  refine v_iconst C dX6_refuse_5 ct_i_0 ?_
  replace h := Option.some.inj h; subst h
  subst hQ
  exact v_zret C hr hlk (show narrow .boolean (.int 0) = .int 0 from rfl) dX6_refuse_6
def j_X6_takeNumber_30 (M : Mem) : Option (Int32 × Mem) :=
  (m_X6_refuse M 2).bind fun r1 => if r1.1 = 0 then (some ((0, r1.2))) else (some ((1, r1.2)))
def m_X6_takeNumber (M : Mem) (x1 : Int32) (x2 : Int32) : Option (Int32 × Mem) :=
  if (M 2 4) = 2 then (if (M 2 5) < x1 then (j_X6_takeNumber_30 M) else (if (M 2 5) ≤ x2 then (some ((1, M))) else (j_X6_takeNumber_30 M))) else ((m_X6_refuse M 1).bind fun r2 => chk (isZ r2.1) (some ((r2.1, r2.2))))
set_option maxHeartbeats 4000000 in
set_option maxRecDepth 100000 in
theorem c_X6_takeNumber (l : Launch) (D : va_G) (cA : cAt) (B : Nat) (aK aV : Nat → Nat) (M : Mem) (x1 : Int32) (x2 : Int32) (R : Int32 × Mem) (h : m_X6_takeNumber M x1 x2 = some R) : CI l D cA B aK aV yX6_takeNumber cX6_takeNumber 3 .boolean 1 [.ref (B + 2), .int x1, .int x2] M R.1 R.2 := by
  refine CI_of (by decide +kernel) (Nat.le_of_ble_eq_true rfl) ?_
  intro p e s m args below meth c C hr hlk
  have C : Cx p (rmd 1) s m args c 0 0 D cA B aK aV cX6_takeNumber 3 RX6 := C
  generalize hQ : MQ below _ args s 0 0 _ = Q
  refine v_eq (M' := M) (pc' := 0) (L' := [(0, .ref (B + 2)), (1, .int x1), (2, .int x2)]) (st' := []) ?_
  unfold m_X6_takeNumber at h
  have J30 : ∀ (M : Mem), j_X6_takeNumber_30 M = some R → V p l e (rmd 1) s m args below meth c 0 0 D cA B 3 Q M 30 [(0, .ref (B + 2))] [] := by
    intro M h
    unfold j_X6_takeNumber_30 at h
    refine v_aload_nR (j := 0) C dX6_takeNumber_30 rfl rfl ?_
    refine v_iconst C dX6_takeNumber_31 ct_i_2 ?_
    replace h := bind_ex h; obtain ⟨r1, hr1, h⟩ := h
    refine cv_I C tw_494 tw_104 tw_491 tw_493 tw_17 pd_X6_refuse (Nat.le_of_ble_eq_true rfl) (Nat.le_of_ble_eq_true rfl) (q := 2) (kd_lt ks_2 (by decide)) (sh6 ks_2) rfl (As := [.int 2]) (rest := []) rfl rfl (Nat.le_of_ble_eq_true rfl) (c_X6_refuse l D cA B aK aV M 2 r1 hr1) dX6_takeNumber_32 ?_
    refine v_if_eq (tgt := 42) C dX6_takeNumber_35 (by decide) (fun g => ?_) (fun g => ?_)
    · replace h := ite_t g h
      refine v_iconst C dX6_takeNumber_42 ct_i_0 ?_
      replace h := Option.some.inj h; subst h
      subst hQ
      exact v_zret C hr hlk (show narrow .boolean (.int 0) = .int 0 from rfl) dX6_takeNumber_43
    · replace h := ite_f g h
      refine v_iconst C dX6_takeNumber_38 ct_i_1 ?_
      refine v_goto (tgt := 43) C dX6_takeNumber_39 (by decide) ?_
      replace h := Option.some.inj h; subst h
      subst hQ
      exact v_zret C hr hlk (show narrow .boolean (.int 1) = .int 1 from rfl) dX6_takeNumber_43
  refine v_aload_nR (j := 0) C dX6_takeNumber_0 rfl rfl ?_
  refine gf_X6_47 C ks_2 dX6_takeNumber_1 ?_
  refine v_iconst C dX6_takeNumber_4 ct_i_2 ?_
  refine v_icmp_eq (tgt := 14) C dX6_takeNumber_5 (by decide) (fun g => ?_) (fun g => ?_)
  · replace h := ite_t g h
    refine v_aload_nR (j := 0) C dX6_takeNumber_14 rfl rfl ?_
    refine gf_X6_56 C ks_2 dX6_takeNumber_15 ?_
    refine v_iload_n (j := 1) C dX6_takeNumber_18 rfl rfl ?_
    refine v_icmp_lt (tgt := 30) C dX6_takeNumber_19 (by decide) (fun g => ?_) (fun g => ?_)
    · replace h := ite_t g h
      refine v_sub [0] rfl ?_
      exact J30 M h
    · replace h := ite_f g h
      refine v_aload_nR (j := 0) C dX6_takeNumber_22 rfl rfl ?_
      refine gf_X6_56 C ks_2 dX6_takeNumber_23 ?_
      refine v_pc (pc' := 26) rfl ?_
      refine v_iload_n (j := 2) C dX6_takeNumber_26 rfl rfl ?_
      refine v_icmp_le (tgt := 38) C dX6_takeNumber_27 (by decide) (fun g => ?_) (fun g => ?_)
      · replace h := ite_t g h
        refine v_iconst C dX6_takeNumber_38 ct_i_1 ?_
        refine v_goto (tgt := 43) C dX6_takeNumber_39 (by decide) ?_
        replace h := Option.some.inj h; subst h
        subst hQ
        exact v_zret C hr hlk (show narrow .boolean (.int 1) = .int 1 from rfl) dX6_takeNumber_43
      · replace h := ite_f g h
        refine v_sub [0] rfl ?_
        exact J30 M h
  · replace h := ite_f g h
    refine v_aload_nR (j := 0) C dX6_takeNumber_8 rfl rfl ?_
    refine v_iconst C dX6_takeNumber_9 ct_i_1 ?_
    refine v_pc (pc' := 10) rfl ?_
    replace h := bind_ex h; obtain ⟨r2, hr2, h⟩ := h
    refine cv_I C tw_494 tw_104 tw_491 tw_493 tw_17 pd_X6_refuse (Nat.le_of_ble_eq_true rfl) (Nat.le_of_ble_eq_true rfl) (q := 2) (kd_lt ks_2 (by decide)) (sh6 ks_2) rfl (As := [.int 1]) (rest := []) rfl rfl (Nat.le_of_ble_eq_true rfl) (c_X6_refuse l D cA B aK aV M 1 r2 hr2) dX6_takeNumber_10 ?_
    replace h := chk_some h; obtain ⟨g3, h⟩ := h
    replace h := Option.some.inj h; subst h
    subst hQ
    exact v_zret C hr hlk (isZ_nar g3) dX6_takeNumber_13
def m_X6_takeEnd (M : Mem) : Option (Int32 × Mem) :=
  if (M 2 4) = 3 then ((m_X6_step M).bind fun r1 => some ((1, r1))) else ((m_X6_refuse M 1).bind fun r2 => chk (isZ r2.1) (some ((r2.1, r2.2))))
set_option maxHeartbeats 4000000 in
set_option maxRecDepth 100000 in
theorem c_X6_takeEnd (l : Launch) (D : va_G) (cA : cAt) (B : Nat) (aK aV : Nat → Nat) (M : Mem) (R : Int32 × Mem) (h : m_X6_takeEnd M = some R) : CI l D cA B aK aV yX6_takeEnd cX6_takeEnd 1 .boolean 3 [.ref (B + 2)] M R.1 R.2 := by
  refine CI_of (by decide +kernel) (Nat.le_of_ble_eq_true rfl) ?_
  intro p e s m args below meth c C hr hlk
  have C : Cx p (rmd 3) s m args c 0 0 D cA B aK aV cX6_takeEnd 1 RX6 := C
  generalize hQ : MQ below _ args s 0 0 _ = Q
  refine v_eq (M' := M) (pc' := 0) (L' := [(0, .ref (B + 2))]) (st' := []) ?_
  unfold m_X6_takeEnd at h
  refine v_aload_nR (j := 0) C dX6_takeEnd_0 rfl rfl ?_
  refine gf_X6_47 C ks_2 dX6_takeEnd_1 ?_
  refine v_iconst C dX6_takeEnd_4 ct_i_3 ?_
  refine v_icmp_eq (tgt := 14) C dX6_takeEnd_5 (by decide) (fun g => ?_) (fun g => ?_)
  · replace h := ite_t g h
    refine v_aload_nR (j := 0) C dX6_takeEnd_14 rfl rfl ?_
    replace h := bind_ex h; obtain ⟨r1, hr1, h⟩ := h
    refine cv_V C tw_415 tw_104 tw_412 tw_414 tw_11 pd_X6_step (Nat.le_of_ble_eq_true rfl) (Nat.le_of_ble_eq_true rfl) (q := 2) (kd_lt ks_2 (by decide)) (sh6 ks_2) rfl (As := []) (rest := []) rfl rfl (Nat.le_of_ble_eq_true rfl) (c_X6_step l D cA B aK aV M r1 hr1) dX6_takeEnd_15 ?_
    refine v_iconst C dX6_takeEnd_18 ct_i_1 ?_
    replace h := Option.some.inj h; subst h
    subst hQ
    exact v_zret C hr hlk (show narrow .boolean (.int 1) = .int 1 from rfl) dX6_takeEnd_19
  · replace h := ite_f g h
    refine v_aload_nR (j := 0) C dX6_takeEnd_8 rfl rfl ?_
    refine v_iconst C dX6_takeEnd_9 ct_i_1 ?_
    refine v_pc (pc' := 10) rfl ?_
    replace h := bind_ex h; obtain ⟨r2, hr2, h⟩ := h
    refine cv_I C tw_494 tw_104 tw_491 tw_493 tw_17 pd_X6_refuse (Nat.le_of_ble_eq_true rfl) (Nat.le_of_ble_eq_true rfl) (q := 2) (kd_lt ks_2 (by decide)) (sh6 ks_2) rfl (As := [.int 1]) (rest := []) rfl rfl (Nat.le_of_ble_eq_true rfl) (c_X6_refuse l D cA B aK aV M 1 r2 hr2) dX6_takeEnd_10 ?_
    replace h := chk_some h; obtain ⟨g3, h⟩ := h
    replace h := Option.some.inj h; subst h
    subst hQ
    exact v_zret C hr hlk (isZ_nar g3) dX6_takeEnd_13
def m_X6_readLaw (M : Mem) (x1 : Nat) : Option (Int32 × Mem) :=
  (m_X6_isName M 0).bind fun r1 => if r1 = 0 then ((m_X6_refuse M 1).bind fun r8 => chk (isZ r8.1) (some ((r8.1, r8.2)))) else ((m_X6_step M).bind fun r2 => (m_X6_takeNumber r2 0 20).bind fun r3 => if r3.1 = 0 then (some ((0, r3.2))) else (nm (mset r3.2 x1 2 (r3.2 2 5)) fun M4 => (m_X6_step M4).bind fun r5 => (m_X6_takeEnd r5).bind fun r6 => chk (isZ r6.1) (some ((r6.1, r6.2)))))
set_option maxHeartbeats 4000000 in
set_option maxRecDepth 100000 in
theorem c_X6_readLaw (l : Launch) (D : va_G) (cA : cAt) (B : Nat) (aK aV : Nat → Nat) (M : Mem) (x1 : Nat) (k1 : kd x1 = 5) (R : Int32 × Mem) (h : m_X6_readLaw M x1 = some R) : CI l D cA B aK aV yX6_readLaw cX6_readLaw 2 .boolean 5 [.ref (B + 2), .ref (B + x1)] M R.1 R.2 := by
  refine CI_of (by decide +kernel) (Nat.le_of_ble_eq_true rfl) ?_
  intro p e s m args below meth c C hr hlk
  have C : Cx p (rmd 5) s m args c 0 0 D cA B aK aV cX6_readLaw 2 RX6 := C
  generalize hQ : MQ below _ args s 0 0 _ = Q
  refine v_eq (M' := M) (pc' := 0) (L' := [(0, .ref (B + 2)), (1, .ref (B + x1))]) (st' := []) ?_
  unfold m_X6_readLaw at h
  refine v_aload_nR (j := 0) C dX6_readLaw_0 rfl rfl ?_
  refine v_ldcS C rfl 0 (by decide) rfl dX6_readLaw_1 ?_
  replace h := bind_ex h; obtain ⟨r1, hr1, h⟩ := h
  refine cv_I C tw_442 tw_104 tw_439 tw_441 tw_16 pd_X6_isName (Nat.le_of_ble_eq_true rfl) (Nat.le_of_ble_eq_true rfl) (q := 2) (kd_lt ks_2 (by decide)) (sh6 ks_2) rfl (As := [.ref (aK 0)]) (rest := []) rfl rfl (Nat.le_of_ble_eq_true rfl) (c_X6_isName l D cA B aK aV M 0 (by decide) r1 hr1) dX6_readLaw_3 ?_
  refine v_if_ne (tgt := 15) C dX6_readLaw_6 (by decide) (fun g => ?_) (fun g => ?_)
  · replace h := ite_t g h
    refine v_aload_nR (j := 0) C dX6_readLaw_9 rfl rfl ?_
    refine v_iconst C dX6_readLaw_10 ct_i_1 ?_
    refine v_pc (pc' := 11) rfl ?_
    replace h := bind_ex h; obtain ⟨r8, hr8, h⟩ := h
    refine cv_I C tw_494 tw_104 tw_491 tw_493 tw_17 pd_X6_refuse (Nat.le_of_ble_eq_true rfl) (Nat.le_of_ble_eq_true rfl) (q := 2) (kd_lt ks_2 (by decide)) (sh6 ks_2) rfl (As := [.int 1]) (rest := []) rfl rfl (Nat.le_of_ble_eq_true rfl) (c_X6_refuse l D cA B aK aV M 1 r8 hr8) dX6_readLaw_11 ?_
    replace h := chk_some h; obtain ⟨g9, h⟩ := h
    replace h := Option.some.inj h; subst h
    subst hQ
    exact v_zret C hr hlk (isZ_nar g9) dX6_readLaw_14
  · replace h := ite_f g h
    refine v_aload_nR (j := 0) C dX6_readLaw_15 rfl rfl ?_
    replace h := bind_ex h; obtain ⟨r2, hr2, h⟩ := h
    refine cv_V C tw_415 tw_104 tw_412 tw_414 tw_11 pd_X6_step (Nat.le_of_ble_eq_true rfl) (Nat.le_of_ble_eq_true rfl) (q := 2) (kd_lt ks_2 (by decide)) (sh6 ks_2) rfl (As := []) (rest := []) rfl rfl (Nat.le_of_ble_eq_true rfl) (c_X6_step l D cA B aK aV M r2 hr2) dX6_readLaw_16 ?_
    refine v_aload_nR (j := 0) C dX6_readLaw_19 rfl rfl ?_
    refine v_iconst C dX6_readLaw_20 ct_i_0 ?_
    refine v_bipush C dX6_readLaw_21 ct_b_20 ?_
    replace h := bind_ex h; obtain ⟨r3, hr3, h⟩ := h
    refine cv_I C tw_498 tw_104 tw_495 tw_497 tw_18 pd_X6_takeNumber (Nat.le_of_ble_eq_true rfl) (Nat.le_of_ble_eq_true rfl) (q := 2) (kd_lt ks_2 (by decide)) (sh6 ks_2) rfl (As := [.int 0, .int 20]) (rest := []) rfl rfl (Nat.le_of_ble_eq_true rfl) (c_X6_takeNumber l D cA B aK aV r2 0 20 r3 hr3) dX6_readLaw_23 ?_
    refine v_pc (pc' := 26) rfl ?_
    refine v_if_ne (tgt := 31) C dX6_readLaw_26 (by decide) (fun g => ?_) (fun g => ?_)
    · replace h := ite_t g h
      refine v_iconst C dX6_readLaw_29 ct_i_0 ?_
      replace h := Option.some.inj h; subst h
      subst hQ
      exact v_zret C hr hlk (show narrow .boolean (.int 0) = .int 0 from rfl) dX6_readLaw_30
    · replace h := ite_f g h
      refine v_aload_nR (j := 1) C dX6_readLaw_31 rfl rfl ?_
      refine v_aload_nR (j := 0) C dX6_readLaw_32 rfl rfl ?_
      refine gf_X6_56 C ks_2 dX6_readLaw_33 ?_
      replace h := nm_ex h; obtain ⟨M4, eM4, h⟩ := h
      refine pf_X6_59 C k1 dX6_readLaw_36 ?_
      refine v_mem eM4 ?_
      refine v_aload_nR (j := 0) C dX6_readLaw_39 rfl rfl ?_
      replace h := bind_ex h; obtain ⟨r5, hr5, h⟩ := h
      refine cv_V C tw_415 tw_104 tw_412 tw_414 tw_11 pd_X6_step (Nat.le_of_ble_eq_true rfl) (Nat.le_of_ble_eq_true rfl) (q := 2) (kd_lt ks_2 (by decide)) (sh6 ks_2) rfl (As := []) (rest := []) rfl rfl (Nat.le_of_ble_eq_true rfl) (c_X6_step l D cA B aK aV M4 r5 hr5) dX6_readLaw_40 ?_
      refine v_pc (pc' := 43) rfl ?_
      refine v_aload_nR (j := 0) C dX6_readLaw_43 rfl rfl ?_
      replace h := bind_ex h; obtain ⟨r6, hr6, h⟩ := h
      refine cv_I C tw_502 tw_104 tw_499 tw_501 tw_19 pd_X6_takeEnd (Nat.le_of_ble_eq_true rfl) (Nat.le_of_ble_eq_true rfl) (q := 2) (kd_lt ks_2 (by decide)) (sh6 ks_2) rfl (As := []) (rest := []) rfl rfl (Nat.le_of_ble_eq_true rfl) (c_X6_takeEnd l D cA B aK aV r5 r6 hr6) dX6_readLaw_44 ?_
      replace h := chk_some h; obtain ⟨g7, h⟩ := h
      replace h := Option.some.inj h; subst h
      subst hQ
      exact v_zret C hr hlk (isZ_nar g7) dX6_readLaw_47
def m_X6_takeCell (M : Mem) : Option (Int32 × Mem) :=
  (m_X6_takeNumber M 0 5).bind fun r1 => if r1.1 = 0 then (some ((0, r1.2))) else (nm (r1.2 2 5) fun y2 => (m_X6_step r1.2).bind fun r3 => (m_X6_takeNumber r3 0 4).bind fun r4 => if r4.1 = 0 then (some ((0, r4.2))) else (nm (mset r4.2 2 5 ((6 * (r4.2 2 5)) + y2)) fun M5 => some ((1, M5))))
set_option maxHeartbeats 4000000 in
set_option maxRecDepth 100000 in
theorem c_X6_takeCell (l : Launch) (D : va_G) (cA : cAt) (B : Nat) (aK aV : Nat → Nat) (M : Mem) (R : Int32 × Mem) (h : m_X6_takeCell M = some R) : CI l D cA B aK aV yX6_takeCell cX6_takeCell 2 .boolean 3 [.ref (B + 2)] M R.1 R.2 := by
  refine CI_of (by decide +kernel) (Nat.le_of_ble_eq_true rfl) ?_
  intro p e s m args below meth c C hr hlk
  have C : Cx p (rmd 3) s m args c 0 0 D cA B aK aV cX6_takeCell 2 RX6 := C
  generalize hQ : MQ below _ args s 0 0 _ = Q
  refine v_eq (M' := M) (pc' := 0) (L' := [(0, .ref (B + 2))]) (st' := []) ?_
  unfold m_X6_takeCell at h
  refine v_aload_nR (j := 0) C dX6_takeCell_0 rfl rfl ?_
  refine v_iconst C dX6_takeCell_1 ct_i_0 ?_
  refine v_iconst C dX6_takeCell_2 ct_i_5 ?_
  replace h := bind_ex h; obtain ⟨r1, hr1, h⟩ := h
  refine cv_I C tw_498 tw_104 tw_495 tw_497 tw_18 pd_X6_takeNumber (Nat.le_of_ble_eq_true rfl) (Nat.le_of_ble_eq_true rfl) (q := 2) (kd_lt ks_2 (by decide)) (sh6 ks_2) rfl (As := [.int 0, .int 5]) (rest := []) rfl rfl (Nat.le_of_ble_eq_true rfl) (c_X6_takeNumber l D cA B aK aV M 0 5 r1 hr1) dX6_takeCell_3 ?_
  refine v_if_ne (tgt := 11) C dX6_takeCell_6 (by decide) (fun g => ?_) (fun g => ?_)
  · replace h := ite_t g h
    refine v_iconst C dX6_takeCell_9 ct_i_0 ?_
    refine v_pc (pc' := 10) rfl ?_
    replace h := Option.some.inj h; subst h
    subst hQ
    exact v_zret C hr hlk (show narrow .boolean (.int 0) = .int 0 from rfl) dX6_takeCell_10
  · replace h := ite_f g h
    refine v_aload_nR (j := 0) C dX6_takeCell_11 rfl rfl ?_
    refine gf_X6_56 C ks_2 dX6_takeCell_12 ?_
    replace h := nm_ex h; obtain ⟨y2, ey2, h⟩ := h
    refine v_topI ey2 ?_
    refine v_istore_n (L' := [(1, .int y2), (0, .ref (B + 2))]) C dX6_takeCell_15 rfl (by decide) rfl ?_
    refine v_aload_nR (j := 1) C dX6_takeCell_16 rfl rfl ?_
    replace h := bind_ex h; obtain ⟨r3, hr3, h⟩ := h
    refine cv_V C tw_415 tw_104 tw_412 tw_414 tw_11 pd_X6_step (Nat.le_of_ble_eq_true rfl) (Nat.le_of_ble_eq_true rfl) (q := 2) (kd_lt ks_2 (by decide)) (sh6 ks_2) rfl (As := []) (rest := []) rfl rfl (Nat.le_of_ble_eq_true rfl) (c_X6_step l D cA B aK aV r1.2 r3 hr3) dX6_takeCell_17 ?_
    refine v_aload_nR (j := 1) C dX6_takeCell_20 rfl rfl ?_
    refine v_pc (pc' := 21) rfl ?_
    refine v_iconst C dX6_takeCell_21 ct_i_0 ?_
    refine v_iconst C dX6_takeCell_22 ct_i_4 ?_
    replace h := bind_ex h; obtain ⟨r4, hr4, h⟩ := h
    refine cv_I C tw_498 tw_104 tw_495 tw_497 tw_18 pd_X6_takeNumber (Nat.le_of_ble_eq_true rfl) (Nat.le_of_ble_eq_true rfl) (q := 2) (kd_lt ks_2 (by decide)) (sh6 ks_2) rfl (As := [.int 0, .int 4]) (rest := []) rfl rfl (Nat.le_of_ble_eq_true rfl) (c_X6_takeNumber l D cA B aK aV r3 0 4 r4 hr4) dX6_takeCell_23 ?_
    refine v_if_ne (tgt := 31) C dX6_takeCell_26 (by decide) (fun g => ?_) (fun g => ?_)
    · replace h := ite_t g h
      refine v_iconst C dX6_takeCell_29 ct_i_0 ?_
      replace h := Option.some.inj h; subst h
      subst hQ
      exact v_zret C hr hlk (show narrow .boolean (.int 0) = .int 0 from rfl) dX6_takeCell_30
    · replace h := ite_f g h
      refine v_aload_nR (j := 1) C dX6_takeCell_31 rfl rfl ?_
      refine v_bipush C dX6_takeCell_32 ct_b_6 ?_
      refine v_aload_nR (j := 1) C dX6_takeCell_34 rfl rfl ?_
      refine gf_X6_56 C ks_2 dX6_takeCell_35 ?_
      refine v_imul C dX6_takeCell_38 ?_
      refine v_iload_n (j := 0) C dX6_takeCell_39 rfl rfl ?_
      refine v_pc (pc' := 40) rfl ?_
      refine v_iadd C dX6_takeCell_40 ?_
      replace h := nm_ex h; obtain ⟨M5, eM5, h⟩ := h
      refine pf_X6_56 C ks_2 dX6_takeCell_41 ?_
      refine v_mem eM5 ?_
      refine v_iconst C dX6_takeCell_44 ct_i_1 ?_
      replace h := Option.some.inj h; subst h
      subst hQ
      exact v_zret C hr hlk (show narrow .boolean (.int 1) = .int 1 from rfl) dX6_takeCell_45
def m_X6_readDrain (M : Mem) (x1 : Nat) : Option (Int32 × Mem) :=
  (m_X6_step M).bind fun r1 => (m_X6_takeCell r1).bind fun r2 => if r2.1 = 0 then (some ((0, r2.2))) else (nm (mset r2.2 x1 3 ((r2.2 x1 3) ||| (1 <<< ((r2.2 2 5) &&& 31)))) fun M3 => (m_X6_step M3).bind fun r4 => (m_X6_takeEnd r4).bind fun r5 => chk (isZ r5.1) (some ((r5.1, r5.2))))
set_option maxHeartbeats 4000000 in
set_option maxRecDepth 100000 in
theorem c_X6_readDrain (l : Launch) (D : va_G) (cA : cAt) (B : Nat) (aK aV : Nat → Nat) (M : Mem) (x1 : Nat) (k1 : kd x1 = 5) (R : Int32 × Mem) (h : m_X6_readDrain M x1 = some R) : CI l D cA B aK aV yX6_readDrain cX6_readDrain 2 .boolean 4 [.ref (B + 2), .ref (B + x1)] M R.1 R.2 := by
  refine CI_of (by decide +kernel) (Nat.le_of_ble_eq_true rfl) ?_
  intro p e s m args below meth c C hr hlk
  have C : Cx p (rmd 4) s m args c 0 0 D cA B aK aV cX6_readDrain 2 RX6 := C
  generalize hQ : MQ below _ args s 0 0 _ = Q
  refine v_eq (M' := M) (pc' := 0) (L' := [(0, .ref (B + 2)), (1, .ref (B + x1))]) (st' := []) ?_
  unfold m_X6_readDrain at h
  refine v_aload_nR (j := 0) C dX6_readDrain_0 rfl rfl ?_
  replace h := bind_ex h; obtain ⟨r1, hr1, h⟩ := h
  refine cv_V C tw_415 tw_104 tw_412 tw_414 tw_11 pd_X6_step (Nat.le_of_ble_eq_true rfl) (Nat.le_of_ble_eq_true rfl) (q := 2) (kd_lt ks_2 (by decide)) (sh6 ks_2) rfl (As := []) (rest := []) rfl rfl (Nat.le_of_ble_eq_true rfl) (c_X6_step l D cA B aK aV M r1 hr1) dX6_readDrain_1 ?_
  refine v_aload_nR (j := 0) C dX6_readDrain_4 rfl rfl ?_
  replace h := bind_ex h; obtain ⟨r2, hr2, h⟩ := h
  refine cv_I C tw_511 tw_104 tw_508 tw_510 tw_21 pd_X6_takeCell (Nat.le_of_ble_eq_true rfl) (Nat.le_of_ble_eq_true rfl) (q := 2) (kd_lt ks_2 (by decide)) (sh6 ks_2) rfl (As := []) (rest := []) rfl rfl (Nat.le_of_ble_eq_true rfl) (c_X6_takeCell l D cA B aK aV r1 r2 hr2) dX6_readDrain_5 ?_
  refine v_if_ne (tgt := 13) C dX6_readDrain_8 (by decide) (fun g => ?_) (fun g => ?_)
  · replace h := ite_t g h
    refine v_iconst C dX6_readDrain_11 ct_i_0 ?_
    refine v_pc (pc' := 12) rfl ?_
    replace h := Option.some.inj h; subst h
    subst hQ
    exact v_zret C hr hlk (show narrow .boolean (.int 0) = .int 0 from rfl) dX6_readDrain_12
  · replace h := ite_f g h
    refine v_aload_nR (j := 1) C dX6_readDrain_13 rfl rfl ?_
    refine v_dup C dX6_readDrain_14 rfl ?_
    refine gf_X6_71 C k1 dX6_readDrain_15 ?_
    refine v_iconst C dX6_readDrain_18 ct_i_1 ?_
    refine v_aload_nR (j := 0) C dX6_readDrain_19 rfl rfl ?_
    refine gf_X6_56 C ks_2 dX6_readDrain_20 ?_
    refine v_pc (pc' := 23) rfl ?_
    refine v_ishl C dX6_readDrain_23 ?_
    refine v_ior C dX6_readDrain_24 ?_
    replace h := nm_ex h; obtain ⟨M3, eM3, h⟩ := h
    refine pf_X6_71 C k1 dX6_readDrain_25 ?_
    refine v_mem eM3 ?_
    refine v_aload_nR (j := 0) C dX6_readDrain_28 rfl rfl ?_
    replace h := bind_ex h; obtain ⟨r4, hr4, h⟩ := h
    refine cv_V C tw_415 tw_104 tw_412 tw_414 tw_11 pd_X6_step (Nat.le_of_ble_eq_true rfl) (Nat.le_of_ble_eq_true rfl) (q := 2) (kd_lt ks_2 (by decide)) (sh6 ks_2) rfl (As := []) (rest := []) rfl rfl (Nat.le_of_ble_eq_true rfl) (c_X6_step l D cA B aK aV M3 r4 hr4) dX6_readDrain_29 ?_
    refine v_aload_nR (j := 0) C dX6_readDrain_32 rfl rfl ?_
    replace h := bind_ex h; obtain ⟨r5, hr5, h⟩ := h
    refine cv_I C tw_502 tw_104 tw_499 tw_501 tw_19 pd_X6_takeEnd (Nat.le_of_ble_eq_true rfl) (Nat.le_of_ble_eq_true rfl) (q := 2) (kd_lt ks_2 (by decide)) (sh6 ks_2) rfl (As := []) (rest := []) rfl rfl (Nat.le_of_ble_eq_true rfl) (c_X6_takeEnd l D cA B aK aV r4 r5 hr5) dX6_readDrain_33 ?_
    refine v_pc (pc' := 36) rfl ?_
    replace h := chk_some h; obtain ⟨g6, h⟩ := h
    replace h := Option.some.inj h; subst h
    subst hQ
    exact v_zret C hr hlk (isZ_nar g6) dX6_readDrain_36
