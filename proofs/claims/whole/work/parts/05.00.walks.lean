def b_X0_forgetOldest_2 (M : Mem) (x1 : Int32) : Option ((Int32 × Mem) ⊕ Mem) :=
  if 24 ≤ x1 then (some (.inr M)) else (chk (inB x1 24) (chk (inB (x1 - 1) 24) (chk (kdB (28 + 7 * (M 27 (x1 - 1).toNatClampNeg).toNatClampNeg) 5) (chk (inB x1 24) (nm (mset M 27 x1.toNatClampNeg (M 27 (x1 - 1).toNatClampNeg)) fun M5 => chk (kdB (28 + 7 * (M 27 x1.toNatClampNeg).toNatClampNeg) 5) (chk (inB (x1 - 1) 24) (nm (mset M5 27 (x1 - 1).toNatClampNeg (M 27 x1.toNatClampNeg)) fun M8 => some (.inl (x1 + 1, M8)))))))))
def m_X0_forgetOldest (M : Mem) : Option Mem :=
  (loopF (fun z => b_X0_forgetOldest_2 z.2 z.1) FUEL (1, M)).bind fun z9 => nm (mset z9 26 1 ((z9 26 1) - 1)) fun M10 => some M10
set_option maxHeartbeats 4000000 in
set_option maxRecDepth 100000 in
theorem c_X0_forgetOldest (l : Launch) (D : va_G) (cA : cAt) (B : Nat) (aK aV : Nat → Nat) (M : Mem) (R : Mem) (h : m_X0_forgetOldest M = some R) : CV l D cA B aK aV yX0_forgetOldest cX0_forgetOldest 3 0 [.ref (B + 26)] M R := by
  refine CV_of (by decide +kernel) (Nat.le_of_ble_eq_true rfl) ?_
  intro p e s m args below meth c C hr hlk
  have C : Cx p (rmd 0) s m args c 0 0 D cA B aK aV cX0_forgetOldest 3 RX0 := C
  generalize hQ : MQ below _ args s 0 0 _ = Q
  refine v_eq (M' := M) (pc' := 0) (L' := [(0, .ref (B + 26))]) (st' := []) ?_
  unfold m_X0_forgetOldest at h
  refine v_iconst C dX0_forgetOldest_0 ct_i_1 ?_
  refine v_istore_n (L' := [(1, .int 1), (0, .ref (B + 26))]) C dX0_forgetOldest_1 rfl (by decide) rfl ?_
  have LB2 : ∀ (M : Mem) (x1 : Int32) (o2 : (Int32 × Mem) ⊕ Mem) (h : b_X0_forgetOldest_2 M x1 = some o2) (hc2 : ∀ z : Int32 × Mem, o2 = .inl z → V p l e (rmd 0) s m args below meth c 0 0 D cA B 3 Q z.2 2 [(0, .ref (B + 26)), (1, .int z.1)] []) (he2 : ∀ z : Mem, o2 = .inr z → V p l e (rmd 0) s m args below meth c 0 0 D cA B 3 Q z 47 [(0, .ref (B + 26))] []), V p l e (rmd 0) s m args below meth c 0 0 D cA B 3 Q M 2 [(0, .ref (B + 26)), (1, .int x1)] [] := by
    intro M x1 o2 h hc2 he2
    unfold b_X0_forgetOldest_2 at h
    refine v_iload_n (j := 1) C dX0_forgetOldest_2 rfl rfl ?_
    refine v_aload_nR (j := 0) C dX0_forgetOldest_3 rfl rfl ?_
    refine gf_X0_11 C ks_26 dX0_forgetOldest_4 ?_
    refine v_alenQ14 C ks_27 dX0_forgetOldest_7 ?_
    refine v_icmp_ge (tgt := 47) C dX0_forgetOldest_8 (by decide) (fun g => ?_) (fun g => ?_)
    · replace h := ite_t g h
      replace h := Option.some.inj h; subst h
      refine v_sub [0] rfl ?_
      exact he2 M rfl
    · replace h := ite_f g h
      refine v_aload_nR (j := 0) C dX0_forgetOldest_11 rfl rfl ?_
      refine v_pc (pc' := 12) rfl ?_
      refine gf_X0_11 C ks_26 dX0_forgetOldest_12 ?_
      refine v_iload_n (j := 1) C dX0_forgetOldest_15 rfl rfl ?_
      replace h := chk_some h; obtain ⟨g1, h⟩ := h
      refine v_aldK C (inB_vp g1) dX0_forgetOldest_16 ?_
      refine v_astore_nR (L' := [(2, .ref (B + (28 + 7 * (M 27 x1.toNatClampNeg).toNatClampNeg))), (0, .ref (B + 26)), (1, .int x1)]) C dX0_forgetOldest_17 rfl (by decide) rfl ?_
      refine v_aload_nR (j := 1) C dX0_forgetOldest_18 rfl rfl ?_
      refine gf_X0_11 C ks_26 dX0_forgetOldest_19 ?_
      refine v_iload_n (j := 2) C dX0_forgetOldest_22 rfl rfl ?_
      refine v_pc (pc' := 23) rfl ?_
      refine v_aload_nR (j := 1) C dX0_forgetOldest_23 rfl rfl ?_
      refine gf_X0_11 C ks_26 dX0_forgetOldest_24 ?_
      refine v_iload_n (j := 2) C dX0_forgetOldest_27 rfl rfl ?_
      refine v_iconst C dX0_forgetOldest_28 ct_i_1 ?_
      refine v_isub C dX0_forgetOldest_29 ?_
      replace h := chk_some h; obtain ⟨g2, h⟩ := h
      refine v_aldK C (inB_vp g2) dX0_forgetOldest_30 ?_
      replace h := chk_some h; obtain ⟨g4, h⟩ := h
      replace h := chk_some h; obtain ⟨g3, h⟩ := h
      replace h := nm_ex h; obtain ⟨M5, eM5, h⟩ := h
      refine v_aastK C (kdB_eq g4) (inB_vp g3) dX0_forgetOldest_31 ?_
      refine v_mem eM5 ?_
      refine v_pc (pc' := 32) rfl ?_
      refine v_aload_nR (j := 1) C dX0_forgetOldest_32 rfl rfl ?_
      refine gf_X0_11 C ks_26 dX0_forgetOldest_33 ?_
      refine v_iload_n (j := 2) C dX0_forgetOldest_36 rfl rfl ?_
      refine v_iconst C dX0_forgetOldest_37 ct_i_1 ?_
      refine v_isub C dX0_forgetOldest_38 ?_
      refine v_aload_nR (j := 0) C dX0_forgetOldest_39 rfl rfl ?_
      replace h := chk_some h; obtain ⟨g7, h⟩ := h
      replace h := chk_some h; obtain ⟨g6, h⟩ := h
      replace h := nm_ex h; obtain ⟨M8, eM8, h⟩ := h
      refine v_aastK C (kdB_eq g7) (inB_vp g6) dX0_forgetOldest_40 ?_
      refine v_mem eM8 ?_
      refine v_pc (pc' := 41) rfl ?_
      refine v_iinc (j := 2) (L' := [(1, .int (x1 + 1)), (2, .ref (B + (28 + 7 * (M 27 x1.toNatClampNeg).toNatClampNeg))), (0, .ref (B + 26))]) C dX0_forgetOldest_41 rfl (congrArg (fun z => _ + z) ct_i_1) (by decide) rfl ?_
      refine v_goto (tgt := 2) C dX0_forgetOldest_44 (by decide) ?_
      replace h := Option.some.inj h; subst h
      refine v_sub [2, 0] rfl ?_
      exact hc2 (x1 + 1, M8) rfl
  replace h := bind_ex h; obtain ⟨z9, hz9, h⟩ := h
  refine v_sub [1, 0] rfl ?_
  refine loopF_walk (Pσ := fun z => V p l e (rmd 0) s m args below meth c 0 0 D cA B 3 Q z.2 2 [(0, .ref (B + 26)), (1, .int z.1)] []) (Pρ := fun y => V p l e (rmd 0) s m args below meth c 0 0 D cA B 3 Q y 47 [(0, .ref (B + 26))] []) ?_ FUEL (1, M) z9 hz9 ?_
  · intro z o hb hc he
    exact LB2 z.2 z.1 o hb hc he
  · refine v_aload_nR (j := 0) C dX0_forgetOldest_47 rfl rfl ?_
    refine v_dup C dX0_forgetOldest_48 rfl ?_
    refine gf_X0_18 C ks_26 dX0_forgetOldest_49 ?_
    refine v_iconst C dX0_forgetOldest_52 ct_i_1 ?_
    refine v_isub C dX0_forgetOldest_53 ?_
    replace h := nm_ex h; obtain ⟨M10, eM10, h⟩ := h
    refine pf_X0_18 C ks_26 dX0_forgetOldest_54 ?_
    refine v_mem eM10 ?_
    refine v_pc (pc' := 57) rfl ?_
    replace h := Option.some.inj h; subst h
    subst hQ
    exact v_vret C hr hlk dX0_forgetOldest_57
def m_X0_at (M : Mem) (x1 : Int32) : Option (Option Nat) :=
  if x1 < 0 then (some none) else (if 24 ≤ x1 then (some none) else (chk (inB x1 24) (some (some (28 + 7 * (M 27 x1.toNatClampNeg).toNatClampNeg)))))
set_option maxHeartbeats 4000000 in
set_option maxRecDepth 100000 in
theorem c_X0_at (l : Launch) (D : va_G) (cA : cAt) (B : Nat) (aK aV : Nat → Nat) (M : Mem) (x1 : Int32) (R : Option Nat) (h : m_X0_at M x1 = some R) : CQ l D cA B aK aV yX0_at cX0_at 2 (.object "HotPennies$Square") 0 [.ref (B + 26), .int x1] M R M := by
  refine CQ_of (by decide +kernel) (Nat.le_of_ble_eq_true rfl) ?_
  intro p e s m args below meth c C hr hlk
  have C : Cx p (rmd 0) s m args c 0 0 D cA B aK aV cX0_at 2 RX0 := C
  generalize hQ : MQ below _ args s 0 0 _ = Q
  refine v_eq (M' := M) (pc' := 0) (L' := [(0, .ref (B + 26)), (1, .int x1)]) (st' := []) ?_
  unfold m_X0_at at h
  refine v_iload_n (j := 1) C dX0_at_0 rfl rfl ?_
  refine v_if_lt (tgt := 22) C dX0_at_1 (by decide) (fun g => ?_) (fun g => ?_)
  · replace h := ite_t g h
    refine v_null C dX0_at_22 ?_
    replace h := Option.some.inj h; subst h
    subst hQ
    exact v_aret C hr hlk (Or.inl ⟨_, rfl⟩) dX0_at_23
  · replace h := ite_f g h
    refine v_iload_n (j := 1) C dX0_at_4 rfl rfl ?_
    refine v_aload_nR (j := 0) C dX0_at_5 rfl rfl ?_
    refine gf_X0_11 C ks_26 dX0_at_6 ?_
    refine v_alenQ14 C ks_27 dX0_at_9 ?_
    refine v_pc (pc' := 10) rfl ?_
    refine v_icmp_ge (tgt := 22) C dX0_at_10 (by decide) (fun g => ?_) (fun g => ?_)
    · replace h := ite_t g h
      refine v_null C dX0_at_22 ?_
      replace h := Option.some.inj h; subst h
      subst hQ
      exact v_aret C hr hlk (Or.inl ⟨_, rfl⟩) dX0_at_23
    · replace h := ite_f g h
      refine v_aload_nR (j := 0) C dX0_at_13 rfl rfl ?_
      refine gf_X0_11 C ks_26 dX0_at_14 ?_
      refine v_iload_n (j := 1) C dX0_at_17 rfl rfl ?_
      replace h := chk_some h; obtain ⟨g1, h⟩ := h
      refine v_aldK C (inB_vp g1) dX0_at_18 ?_
      refine v_goto (tgt := 23) C dX0_at_19 (by decide) ?_
      replace h := Option.some.inj h; subst h
      subst hQ
      exact v_aret C hr hlk (Or.inl ⟨_, rfl⟩) dX0_at_23
def m_X5_at (M : Mem) (x0 : Nat) (x1 : Int32) : Option (Option Nat) :=
  if x1 < 0 then (some none) else (if (M x0 4) ≤ x1 then (some none) else (if 5 ≤ x1 then (some none) else (chk (inB x1 5) (some (some (x0 + 1 + 1 + x1.toNatClampNeg))))))
set_option maxHeartbeats 4000000 in
set_option maxRecDepth 100000 in
theorem c_X5_at (l : Launch) (D : va_G) (cA : cAt) (B : Nat) (aK aV : Nat → Nat) (M : Mem) (x0 : Nat) (x1 : Int32) (k0 : kd x0 = 5) (R : Option Nat) (h : m_X5_at M x0 x1 = some R) : CQ l D cA B aK aV yX5_at cX5_at 2 (.object "HotPennies$Child") 0 [.ref (B + x0), .int x1] M R M := by
  refine CQ_of (by decide +kernel) (Nat.le_of_ble_eq_true rfl) ?_
  intro p e s m args below meth c C hr hlk
  have C : Cx p (rmd 0) s m args c 0 0 D cA B aK aV cX5_at 2 RX5 := C
  generalize hQ : MQ below _ args s 0 0 _ = Q
  refine v_eq (M' := M) (pc' := 0) (L' := [(0, .ref (B + x0)), (1, .int x1)]) (st' := []) ?_
  unfold m_X5_at at h
  refine v_iload_n (j := 1) C dX5_at_0 rfl rfl ?_
  refine v_if_lt (tgt := 30) C dX5_at_1 (by decide) (fun g => ?_) (fun g => ?_)
  · replace h := ite_t g h
    refine v_null C dX5_at_30 ?_
    replace h := Option.some.inj h; subst h
    subst hQ
    exact v_aret C hr hlk (Or.inl ⟨_, rfl⟩) dX5_at_31
  · replace h := ite_f g h
    refine v_iload_n (j := 1) C dX5_at_4 rfl rfl ?_
    refine v_aload_nR (j := 0) C dX5_at_5 rfl rfl ?_
    refine gf_X5_31 C k0 dX5_at_6 ?_
    refine v_icmp_ge (tgt := 30) C dX5_at_9 (by decide) (fun g => ?_) (fun g => ?_)
    · replace h := ite_t g h
      refine v_null C dX5_at_30 ?_
      replace h := Option.some.inj h; subst h
      subst hQ
      exact v_aret C hr hlk (Or.inl ⟨_, rfl⟩) dX5_at_31
    · replace h := ite_f g h
      refine v_pc (pc' := 12) rfl ?_
      refine v_iload_n (j := 1) C dX5_at_12 rfl rfl ?_
      refine v_aload_nR (j := 0) C dX5_at_13 rfl rfl ?_
      refine gf_X5_11 C k0 dX5_at_14 ?_
      refine v_alenQ11 C (kdS k0) dX5_at_17 ?_
      refine v_icmp_ge (tgt := 30) C dX5_at_18 (by decide) (fun g => ?_) (fun g => ?_)
      · replace h := ite_t g h
        refine v_null C dX5_at_30 ?_
        replace h := Option.some.inj h; subst h
        subst hQ
        exact v_aret C hr hlk (Or.inl ⟨_, rfl⟩) dX5_at_31
      · replace h := ite_f g h
        refine v_aload_nR (j := 0) C dX5_at_21 rfl rfl ?_
        refine gf_X5_11 C k0 dX5_at_22 ?_
        refine v_pc (pc' := 25) rfl ?_
        refine v_iload_n (j := 1) C dX5_at_25 rfl rfl ?_
        replace h := chk_some h; obtain ⟨g1, h⟩ := h
        refine v_aldC C (kdS k0) (inB_vp g1) dX5_at_26 ?_
        refine v_goto (tgt := 31) C dX5_at_27 (by decide) ?_
        replace h := Option.some.inj h; subst h
        subst hQ
        exact v_aret C hr hlk (Or.inl ⟨_, rfl⟩) dX5_at_31
def m_X2_takeFrom (M : Mem) (x0 : Nat) (x1 : Nat) : Option Mem :=
  nm (mset M x0 1 (M x1 1)) fun M1 => nm (mset M1 x0 2 (M1 x1 2)) fun M2 => nm (mset M2 x0 3 (M2 x1 3)) fun M3 => nm (mset M3 x0 4 (M3 x1 4)) fun M4 => some M4
set_option maxHeartbeats 4000000 in
set_option maxRecDepth 100000 in
theorem c_X2_takeFrom (l : Launch) (D : va_G) (cA : cAt) (B : Nat) (aK aV : Nat → Nat) (M : Mem) (x0 : Nat) (x1 : Nat) (k0 : kd x0 = 2) (k1 : kd x1 = 2) (R : Mem) (h : m_X2_takeFrom M x0 x1 = some R) : CV l D cA B aK aV yX2_takeFrom cX2_takeFrom 2 0 [.ref (B + x0), .ref (B + x1)] M R := by
  refine CV_of (by decide +kernel) (Nat.le_of_ble_eq_true rfl) ?_
  intro p e s m args below meth c C hr hlk
  have C : Cx p (rmd 0) s m args c 0 0 D cA B aK aV cX2_takeFrom 2 RX2 := C
  generalize hQ : MQ below _ args s 0 0 _ = Q
  refine v_eq (M' := M) (pc' := 0) (L' := [(0, .ref (B + x0)), (1, .ref (B + x1))]) (st' := []) ?_
  unfold m_X2_takeFrom at h
  refine v_aload_nR (j := 0) C dX2_takeFrom_0 rfl rfl ?_
  refine v_aload_nR (j := 1) C dX2_takeFrom_1 rfl rfl ?_
  refine gf_X2_15 C k1 dX2_takeFrom_2 ?_
  replace h := nm_ex h; obtain ⟨M1, eM1, h⟩ := h
  refine pf_X2_15 C k0 dX2_takeFrom_5 ?_
  refine v_mem eM1 ?_
  refine v_aload_nR (j := 0) C dX2_takeFrom_8 rfl rfl ?_
  refine v_aload_nR (j := 1) C dX2_takeFrom_9 rfl rfl ?_
  refine v_pc (pc' := 10) rfl ?_
  refine gf_X2_18 C k1 dX2_takeFrom_10 ?_
  replace h := nm_ex h; obtain ⟨M2, eM2, h⟩ := h
  refine pf_X2_18 C k0 dX2_takeFrom_13 ?_
  refine v_mem eM2 ?_
  refine v_aload_nR (j := 0) C dX2_takeFrom_16 rfl rfl ?_
  refine v_aload_nR (j := 1) C dX2_takeFrom_17 rfl rfl ?_
  refine gf_X2_21 C k1 dX2_takeFrom_18 ?_
  replace h := nm_ex h; obtain ⟨M3, eM3, h⟩ := h
  refine pf_X2_21 C k0 dX2_takeFrom_21 ?_
  refine v_mem eM3 ?_
  refine v_aload_nR (j := 0) C dX2_takeFrom_24 rfl rfl ?_
  refine v_pc (pc' := 25) rfl ?_
  refine v_aload_nR (j := 1) C dX2_takeFrom_25 rfl rfl ?_
  refine gf_X2_24 C k1 dX2_takeFrom_26 ?_
  replace h := nm_ex h; obtain ⟨M4, eM4, h⟩ := h
  refine pf_X2_24 C k0 dX2_takeFrom_29 ?_
  refine v_mem eM4 ?_
  replace h := Option.some.inj h; subst h
  subst hQ
  exact v_vret C hr hlk dX2_takeFrom_32
def b_X5_takeFrom_34 (M : Mem) (x0 : Nat) (x1 : Nat) (x2 : Int32) : Option ((Int32 × Mem) ⊕ Mem) :=
  if 5 ≤ x2 then (some (.inr M)) else ((m_X5_at M x0 x2).bind fun r5 => (m_X5_at M x1 x2).bind fun r6 => optC r5 (some (.inl (x2 + 1, M))) (fun a7 => chk (kdB a7 2) (optC r6 (some (.inl (x2 + 1, M))) (fun a9 => chk (kdB a9 2) ((m_X2_takeFrom M a7 a9).bind fun r11 => some (.inl (x2 + 1, r11)))))))
def m_X5_takeFrom (M : Mem) (x0 : Nat) (x1 : Nat) : Option Mem :=
  chk (isZ (M x1 1)) (nm (mset M x0 1 (M x1 1)) fun M1 => nm (mset M1 x0 2 (M1 x1 2)) fun M2 => nm (mset M2 x0 3 (M2 x1 3)) fun M3 => nm (mset M3 x0 4 (M3 x1 4)) fun M4 => (loopF (fun z => b_X5_takeFrom_34 z.2 x0 x1 z.1) FUEL (0, M4)).bind fun z12 => some z12)
set_option maxHeartbeats 4000000 in
set_option maxRecDepth 100000 in
theorem c_X5_takeFrom (l : Launch) (D : va_G) (cA : cAt) (B : Nat) (aK aV : Nat → Nat) (M : Mem) (x0 : Nat) (x1 : Nat) (k0 : kd x0 = 5) (k1 : kd x1 = 5) (R : Mem) (h : m_X5_takeFrom M x0 x1 = some R) : CV l D cA B aK aV yX5_takeFrom cX5_takeFrom 5 1 [.ref (B + x0), .ref (B + x1)] M R := by
  refine CV_of (by decide +kernel) (Nat.le_of_ble_eq_true rfl) ?_
  intro p e s m args below meth c C hr hlk
  have C : Cx p (rmd 1) s m args c 0 0 D cA B aK aV cX5_takeFrom 5 RX5 := C
  generalize hQ : MQ below _ args s 0 0 _ = Q
  refine v_eq (M' := M) (pc' := 0) (L' := [(0, .ref (B + x0)), (1, .ref (B + x1))]) (st' := []) ?_
  unfold m_X5_takeFrom at h
  refine v_aload_nR (j := 0) C dX5_takeFrom_0 rfl rfl ?_
  refine v_aload_nR (j := 1) C dX5_takeFrom_1 rfl rfl ?_
  refine gf_X5_20 C k1 dX5_takeFrom_2 ?_
  replace h := chk_some h; obtain ⟨g13, h⟩ := h
  replace h := nm_ex h; obtain ⟨M1, eM1, h⟩ := h
  refine pf_X5_20 C k0 g13 dX5_takeFrom_5 ?_
  refine v_mem eM1 ?_
  refine v_aload_nR (j := 0) C dX5_takeFrom_8 rfl rfl ?_
  refine v_aload_nR (j := 1) C dX5_takeFrom_9 rfl rfl ?_
  refine v_pc (pc' := 10) rfl ?_
  refine gf_X5_24 C k1 dX5_takeFrom_10 ?_
  replace h := nm_ex h; obtain ⟨M2, eM2, h⟩ := h
  refine pf_X5_24 C k0 dX5_takeFrom_13 ?_
  refine v_mem eM2 ?_
  refine v_aload_nR (j := 0) C dX5_takeFrom_16 rfl rfl ?_
  refine v_aload_nR (j := 1) C dX5_takeFrom_17 rfl rfl ?_
  refine gf_X5_28 C k1 dX5_takeFrom_18 ?_
  replace h := nm_ex h; obtain ⟨M3, eM3, h⟩ := h
  refine pf_X5_28 C k0 dX5_takeFrom_21 ?_
  refine v_mem eM3 ?_
  refine v_aload_nR (j := 0) C dX5_takeFrom_24 rfl rfl ?_
  refine v_pc (pc' := 25) rfl ?_
  refine v_aload_nR (j := 1) C dX5_takeFrom_25 rfl rfl ?_
  refine gf_X5_31 C k1 dX5_takeFrom_26 ?_
  replace h := nm_ex h; obtain ⟨M4, eM4, h⟩ := h
  refine pf_X5_31 C k0 dX5_takeFrom_29 ?_
  refine v_mem eM4 ?_
  refine v_iconst C dX5_takeFrom_32 ct_i_0 ?_
  refine v_istore_n (L' := [(2, .int 0), (0, .ref (B + x0)), (1, .ref (B + x1))]) C dX5_takeFrom_33 rfl (by decide) rfl ?_
  have LB34 : ∀ (M : Mem) (x2 : Int32) (o34 : (Int32 × Mem) ⊕ Mem) (h : b_X5_takeFrom_34 M x0 x1 x2 = some o34) (hc34 : ∀ z : Int32 × Mem, o34 = .inl z → V p l e (rmd 1) s m args below meth c 0 0 D cA B 5 Q z.2 34 [(0, .ref (B + x0)), (1, .ref (B + x1)), (2, .int z.1)] []) (he34 : ∀ z : Mem, o34 = .inr z → V p l e (rmd 1) s m args below meth c 0 0 D cA B 5 Q z 73 [] []), V p l e (rmd 1) s m args below meth c 0 0 D cA B 5 Q M 34 [(0, .ref (B + x0)), (1, .ref (B + x1)), (2, .int x2)] [] := by
    intro M x2 o34 h hc34 he34
    unfold b_X5_takeFrom_34 at h
    refine v_iload_n (j := 2) C dX5_takeFrom_34 rfl rfl ?_
    refine v_iconst C dX5_takeFrom_35 ct_i_5 ?_
    refine v_icmp_ge (tgt := 73) C dX5_takeFrom_36 (by decide) (fun g => ?_) (fun g => ?_)
    · replace h := ite_t g h
      replace h := Option.some.inj h; subst h
      refine v_sub [] rfl ?_
      exact he34 M rfl
    · replace h := ite_f g h
      refine v_aload_nR (j := 0) C dX5_takeFrom_39 rfl rfl ?_
      refine v_iload_n (j := 2) C dX5_takeFrom_40 rfl rfl ?_
      replace h := bind_ex h; obtain ⟨r5, hr5, h⟩ := h
      refine cv_Q C tw_534 tw_105 tw_531 tw_533 tw_25 pd_X5_at (Nat.le_of_ble_eq_true rfl) (Nat.le_of_ble_eq_true rfl) (q := x0) (kd_lt k0 (by decide)) (sh5 k0) rfl (As := [.int x2]) (rest := []) rfl rfl (Nat.le_of_ble_eq_true rfl) (c_X5_at l D cA B aK aV M x0 x2 k0 r5 hr5) dX5_takeFrom_41 ?_
      refine v_pc (pc' := 44) rfl ?_
      refine v_astore_nO (L' := [(3, rv B r5), (0, .ref (B + x0)), (1, .ref (B + x1)), (2, .int x2)]) C dX5_takeFrom_44 rfl (by decide) rfl ?_
      refine v_aload_nR (j := 2) C dX5_takeFrom_45 rfl rfl ?_
      refine v_iload_n (j := 3) C dX5_takeFrom_46 rfl rfl ?_
      replace h := bind_ex h; obtain ⟨r6, hr6, h⟩ := h
      refine cv_Q C tw_534 tw_105 tw_531 tw_533 tw_25 pd_X5_at (Nat.le_of_ble_eq_true rfl) (Nat.le_of_ble_eq_true rfl) (q := x1) (kd_lt k1 (by decide)) (sh5 k1) rfl (As := [.int x2]) (rest := []) rfl rfl (Nat.le_of_ble_eq_true rfl) (c_X5_at l D cA B aK aV M x1 x2 k1 r6 hr6) dX5_takeFrom_47 ?_
      refine v_astoreO (L' := [(4, rv B r6), (3, rv B r5), (0, .ref (B + x0)), (1, .ref (B + x1)), (2, .int x2)]) C dX5_takeFrom_50 (by decide) (by cases r5 <;> rfl) ?_
      refine v_aload_nO (j := 1) C dX5_takeFrom_52 rfl rfl ?_
      replace h := optC_ex h
      rcases h with ⟨rfl, h⟩ | ⟨a7, rfl, h⟩
      · refine v_eq (M' := M) (pc' := 53) (L' := [(4, rv B r6), (3, .null), (0, .ref (B + x0)), (1, .ref (B + x1)), (2, .int x2)]) (st' := [.null]) ?_
        refine v_ifnullN (tgt := 67) C dX5_takeFrom_53 (by decide) ?_
        refine v_iinc (j := 4) (L' := [(2, .int (x2 + 1)), (4, rv B r6), (3, .null), (0, .ref (B + x0)), (1, .ref (B + x1))]) C dX5_takeFrom_67 rfl (congrArg (fun z => _ + z) ct_i_1) (by decide) rfl ?_
        refine v_goto (tgt := 34) C dX5_takeFrom_70 (by decide) ?_
        replace h := Option.some.inj h; subst h
        refine v_sub [3, 4, 0] rfl ?_
        exact hc34 (x2 + 1, M) rfl
      · replace h := chk_some h; obtain ⟨g8, h⟩ := h
        replace g8 := kdB_eq g8
        refine v_eq (M' := M) (pc' := 53) (L' := [(4, rv B r6), (3, .ref (B + a7)), (0, .ref (B + x0)), (1, .ref (B + x1)), (2, .int x2)]) (st' := [.ref (B + a7)]) ?_
        refine v_ifnullS C dX5_takeFrom_53 ?_
        refine v_aloadO (j := 0) C dX5_takeFrom_56 rfl ?_
        replace h := optC_ex h
        rcases h with ⟨rfl, h⟩ | ⟨a9, rfl, h⟩
        · refine v_eq (M' := M) (pc' := 58) (L' := [(4, .null), (3, .ref (B + a7)), (0, .ref (B + x0)), (1, .ref (B + x1)), (2, .int x2)]) (st' := [.null]) ?_
          refine v_ifnullN (tgt := 67) C dX5_takeFrom_58 (by decide) ?_
          refine v_iinc (j := 4) (L' := [(2, .int (x2 + 1)), (4, .null), (3, .ref (B + a7)), (0, .ref (B + x0)), (1, .ref (B + x1))]) C dX5_takeFrom_67 rfl (congrArg (fun z => _ + z) ct_i_1) (by decide) rfl ?_
          refine v_goto (tgt := 34) C dX5_takeFrom_70 (by decide) ?_
          replace h := Option.some.inj h; subst h
          refine v_sub [3, 4, 0] rfl ?_
          exact hc34 (x2 + 1, M) rfl
        · replace h := chk_some h; obtain ⟨g10, h⟩ := h
          replace g10 := kdB_eq g10
          refine v_eq (M' := M) (pc' := 58) (L' := [(4, .ref (B + a9)), (3, .ref (B + a7)), (0, .ref (B + x0)), (1, .ref (B + x1)), (2, .int x2)]) (st' := [.ref (B + a9)]) ?_
          refine v_ifnullS C dX5_takeFrom_58 ?_
          refine v_aload_nR (j := 1) C dX5_takeFrom_61 rfl rfl ?_
          refine v_aloadR (j := 0) C dX5_takeFrom_62 rfl ?_
          replace h := bind_ex h; obtain ⟨r11, hr11, h⟩ := h
          refine cvN_V C tw_543 tw_106 tw_540 tw_542 tw_27 pd_X2_takeFrom (Nat.le_of_ble_eq_true rfl) (Nat.le_of_ble_eq_true rfl) (q := a7) (kd_lt g8 (by decide)) (sh2 g8) rfl (As := [.ref (B + a9)]) (rest := []) rfl rfl (Nat.le_of_ble_eq_true rfl) (c_X2_takeFrom l D cA B aK aV M a7 a9 g8 g10 r11 hr11) dX5_takeFrom_64 ?_
          refine v_iinc (j := 4) (L' := [(2, .int (x2 + 1)), (4, .ref (B + a9)), (3, .ref (B + a7)), (0, .ref (B + x0)), (1, .ref (B + x1))]) C dX5_takeFrom_67 rfl (congrArg (fun z => _ + z) ct_i_1) (by decide) rfl ?_
          refine v_goto (tgt := 34) C dX5_takeFrom_70 (by decide) ?_
          replace h := Option.some.inj h; subst h
          refine v_sub [3, 4, 0] rfl ?_
          exact hc34 (x2 + 1, r11) rfl
  replace h := bind_ex h; obtain ⟨z12, hz12, h⟩ := h
  refine v_sub [1, 2, 0] rfl ?_
  refine loopF_walk (Pσ := fun z => V p l e (rmd 1) s m args below meth c 0 0 D cA B 5 Q z.2 34 [(0, .ref (B + x0)), (1, .ref (B + x1)), (2, .int z.1)] []) (Pρ := fun y => V p l e (rmd 1) s m args below meth c 0 0 D cA B 5 Q y 73 [] []) ?_ FUEL (0, M4) z12 hz12 ?_
  · intro z o hb hc he
    exact LB34 z.2 z.1 o hb hc he
  · replace h := Option.some.inj h; subst h
    subst hQ
    exact v_vret C hr hlk dX5_takeFrom_73
def j_X0_keep_16 (M : Mem) (x1 : Nat) : Option Mem :=
  (m_X0_at M (M 26 1)).bind fun r1 => optC r1 (some M) (fun a2 => chk (kdB a2 5) ((m_X5_takeFrom M a2 x1).bind fun r4 => nm (mset r4 26 1 ((r4 26 1) + 1)) fun M5 => some M5))
def m_X0_keep (M : Mem) (x1 : Nat) : Option Mem :=
  if (M 26 1) < 24 then (j_X0_keep_16 M x1) else ((m_X0_forgetOldest M).bind fun r6 => j_X0_keep_16 r6 x1)
set_option maxHeartbeats 4000000 in
set_option maxRecDepth 100000 in
theorem c_X0_keep (l : Launch) (D : va_G) (cA : cAt) (B : Nat) (aK aV : Nat → Nat) (M : Mem) (x1 : Nat) (k1 : kd x1 = 5) (R : Mem) (h : m_X0_keep M x1 = some R) : CV l D cA B aK aV yX0_keep cX0_keep 3 2 [.ref (B + 26), .ref (B + x1)] M R := by
  refine CV_of (by decide +kernel) (Nat.le_of_ble_eq_true rfl) ?_
  intro p e s m args below meth c C hr hlk
  have C : Cx p (rmd 2) s m args c 0 0 D cA B aK aV cX0_keep 3 RX0 := C
  generalize hQ : MQ below _ args s 0 0 _ = Q
  refine v_eq (M' := M) (pc' := 0) (L' := [(0, .ref (B + 26)), (1, .ref (B + x1))]) (st' := []) ?_
  unfold m_X0_keep at h
  have J16 : ∀ (M : Mem), j_X0_keep_16 M x1 = some R → V p l e (rmd 2) s m args below meth c 0 0 D cA B 3 Q M 16 [(0, .ref (B + 26)), (1, .ref (B + x1))] [] := by
    intro M h
    unfold j_X0_keep_16 at h
    refine v_aload_nR (j := 0) C dX0_keep_16 rfl rfl ?_
    refine v_aload_nR (j := 0) C dX0_keep_17 rfl rfl ?_
    refine gf_X0_18 C ks_26 dX0_keep_18 ?_
    replace h := bind_ex h; obtain ⟨r1, hr1, h⟩ := h
    refine cv_Q C tw_579 tw_107 tw_576 tw_578 tw_31 pd_X0_at (Nat.le_of_ble_eq_true rfl) (Nat.le_of_ble_eq_true rfl) (q := 26) (kd_lt ks_26 (by decide)) (sh0 ks_26) rfl (As := [.int (M 26 1)]) (rest := []) rfl rfl (Nat.le_of_ble_eq_true rfl) (c_X0_at l D cA B aK aV M (M 26 1) r1 hr1) dX0_keep_21 ?_
    refine v_astore_nO (L' := [(2, rv B r1), (0, .ref (B + 26)), (1, .ref (B + x1))]) C dX0_keep_24 rfl (by decide) rfl ?_
    refine v_aload_nO (j := 0) C dX0_keep_25 rfl rfl ?_
    refine v_pc (pc' := 26) rfl ?_
    replace h := optC_ex h
    rcases h with ⟨rfl, h⟩ | ⟨a2, rfl, h⟩
    · refine v_eq (M' := M) (pc' := 26) (L' := [(2, .null), (0, .ref (B + 26)), (1, .ref (B + x1))]) (st' := [.null]) ?_
      refine v_ifnullN (tgt := 44) C dX0_keep_26 (by decide) ?_
      replace h := Option.some.inj h; subst h
      subst hQ
      exact v_vret C hr hlk dX0_keep_44
    · replace h := chk_some h; obtain ⟨g3, h⟩ := h
      replace g3 := kdB_eq g3
      refine v_eq (M' := M) (pc' := 26) (L' := [(2, .ref (B + a2)), (0, .ref (B + 26)), (1, .ref (B + x1))]) (st' := [.ref (B + a2)]) ?_
      refine v_ifnullS C dX0_keep_26 ?_
      refine v_aload_nR (j := 0) C dX0_keep_29 rfl rfl ?_
      refine v_aload_nR (j := 2) C dX0_keep_30 rfl rfl ?_
      replace h := bind_ex h; obtain ⟨r4, hr4, h⟩ := h
      refine cvN_V C tw_539 tw_105 tw_580 tw_538 tw_26 pd_X5_takeFrom (Nat.le_of_ble_eq_true rfl) (Nat.le_of_ble_eq_true rfl) (q := a2) (kd_lt g3 (by decide)) (sh5 g3) rfl (As := [.ref (B + x1)]) (rest := []) rfl rfl (Nat.le_of_ble_eq_true rfl) (c_X5_takeFrom l D cA B aK aV M a2 x1 g3 k1 r4 hr4) dX0_keep_31 ?_
      refine v_aload_nR (j := 1) C dX0_keep_34 rfl rfl ?_
      refine v_dup C dX0_keep_35 rfl ?_
      refine gf_X0_18 C ks_26 dX0_keep_36 ?_
      refine v_pc (pc' := 39) rfl ?_
      refine v_iconst C dX0_keep_39 ct_i_1 ?_
      refine v_iadd C dX0_keep_40 ?_
      replace h := nm_ex h; obtain ⟨M5, eM5, h⟩ := h
      refine pf_X0_18 C ks_26 dX0_keep_41 ?_
      refine v_mem eM5 ?_
      replace h := Option.some.inj h; subst h
      subst hQ
      exact v_vret C hr hlk dX0_keep_44
  refine v_aload_nR (j := 0) C dX0_keep_0 rfl rfl ?_
  refine gf_X0_18 C ks_26 dX0_keep_1 ?_
  refine v_aload_nR (j := 0) C dX0_keep_4 rfl rfl ?_
  refine gf_X0_11 C ks_26 dX0_keep_5 ?_
  refine v_alenQ14 C ks_27 dX0_keep_8 ?_
  refine v_icmp_lt (tgt := 16) C dX0_keep_9 (by decide) (fun g => ?_) (fun g => ?_)
  · replace h := ite_t g h
    refine v_sub [0, 1] rfl ?_
    exact J16 M h
  · replace h := ite_f g h
    refine v_pc (pc' := 12) rfl ?_
    refine v_aload_nR (j := 0) C dX0_keep_12 rfl rfl ?_
    replace h := bind_ex h; obtain ⟨r6, hr6, h⟩ := h
    refine cv_V C tw_575 tw_107 tw_572 tw_574 tw_30 pd_X0_forgetOldest (Nat.le_of_ble_eq_true rfl) (Nat.le_of_ble_eq_true rfl) (q := 26) (kd_lt ks_26 (by decide)) (sh0 ks_26) rfl (As := []) (rest := []) rfl rfl (Nat.le_of_ble_eq_true rfl) (c_X0_forgetOldest l D cA B aK aV M r6 hr6) dX0_keep_13 ?_
    refine v_sub [0, 1] rfl ?_
    exact J16 r6 h
def m_X0_takeBack (M : Mem) (x1 : Nat) : Option (Int32 × Mem) :=
  (m_X0_at M ((M 26 1) - 1)).bind fun r1 => optC r1 (some ((0, M))) (fun a2 => chk (kdB a2 5) ((m_X5_takeFrom M x1 a2).bind fun r4 => nm (mset r4 26 1 ((r4 26 1) - 1)) fun M5 => some ((1, M5))))
set_option maxHeartbeats 4000000 in
set_option maxRecDepth 100000 in
theorem c_X0_takeBack (l : Launch) (D : va_G) (cA : cAt) (B : Nat) (aK aV : Nat → Nat) (M : Mem) (x1 : Nat) (k1 : kd x1 = 5) (R : Int32 × Mem) (h : m_X0_takeBack M x1 = some R) : CI l D cA B aK aV yX0_takeBack cX0_takeBack 3 .boolean 2 [.ref (B + 26), .ref (B + x1)] M R.1 R.2 := by
  refine CI_of (by decide +kernel) (Nat.le_of_ble_eq_true rfl) ?_
  intro p e s m args below meth c C hr hlk
  have C : Cx p (rmd 2) s m args c 0 0 D cA B aK aV cX0_takeBack 3 RX0 := C
  generalize hQ : MQ below _ args s 0 0 _ = Q
  refine v_eq (M' := M) (pc' := 0) (L' := [(0, .ref (B + 26)), (1, .ref (B + x1))]) (st' := []) ?_
  unfold m_X0_takeBack at h
  refine v_aload_nR (j := 0) C dX0_takeBack_0 rfl rfl ?_
  refine v_aload_nR (j := 0) C dX0_takeBack_1 rfl rfl ?_
  refine gf_X0_18 C ks_26 dX0_takeBack_2 ?_
  refine v_iconst C dX0_takeBack_5 ct_i_1 ?_
  refine v_isub C dX0_takeBack_6 ?_
  replace h := bind_ex h; obtain ⟨r1, hr1, h⟩ := h
  refine cv_Q C tw_579 tw_107 tw_576 tw_578 tw_31 pd_X0_at (Nat.le_of_ble_eq_true rfl) (Nat.le_of_ble_eq_true rfl) (q := 26) (kd_lt ks_26 (by decide)) (sh0 ks_26) rfl (As := [.int ((M 26 1) - 1)]) (rest := []) rfl rfl (Nat.le_of_ble_eq_true rfl) (c_X0_at l D cA B aK aV M ((M 26 1) - 1) r1 hr1) dX0_takeBack_7 ?_
  refine v_pc (pc' := 10) rfl ?_
  refine v_astore_nO (L' := [(2, rv B r1), (0, .ref (B + 26)), (1, .ref (B + x1))]) C dX0_takeBack_10 rfl (by decide) rfl ?_
  refine v_aload_nO (j := 0) C dX0_takeBack_11 rfl rfl ?_
  replace h := optC_ex h
  rcases h with ⟨rfl, h⟩ | ⟨a2, rfl, h⟩
  · refine v_eq (M' := M) (pc' := 12) (L' := [(2, .null), (0, .ref (B + 26)), (1, .ref (B + x1))]) (st' := [.null]) ?_
    refine v_ifnonnullN C dX0_takeBack_12 ?_
    refine v_iconst C dX0_takeBack_15 ct_i_0 ?_
    replace h := Option.some.inj h; subst h
    subst hQ
    exact v_zret C hr hlk (show narrow .boolean (.int 0) = .int 0 from rfl) dX0_takeBack_16
  · replace h := chk_some h; obtain ⟨g3, h⟩ := h
    replace g3 := kdB_eq g3
    refine v_eq (M' := M) (pc' := 12) (L' := [(2, .ref (B + a2)), (0, .ref (B + 26)), (1, .ref (B + x1))]) (st' := [.ref (B + a2)]) ?_
    refine v_ifnonnullS (tgt := 17) C dX0_takeBack_12 (by decide) ?_
    refine v_aload_nR (j := 2) C dX0_takeBack_17 rfl rfl ?_
    refine v_aload_nR (j := 0) C dX0_takeBack_18 rfl rfl ?_
    replace h := bind_ex h; obtain ⟨r4, hr4, h⟩ := h
    refine cvN_V C tw_539 tw_105 tw_580 tw_538 tw_26 pd_X5_takeFrom (Nat.le_of_ble_eq_true rfl) (Nat.le_of_ble_eq_true rfl) (q := x1) (kd_lt k1 (by decide)) (sh5 k1) rfl (As := [.ref (B + a2)]) (rest := []) rfl rfl (Nat.le_of_ble_eq_true rfl) (c_X5_takeFrom l D cA B aK aV M x1 a2 k1 g3 r4 hr4) dX0_takeBack_19 ?_
    refine v_aload_nR (j := 1) C dX0_takeBack_22 rfl rfl ?_
    refine v_dup C dX0_takeBack_23 rfl ?_
    refine gf_X0_18 C ks_26 dX0_takeBack_24 ?_
    refine v_pc (pc' := 27) rfl ?_
    refine v_iconst C dX0_takeBack_27 ct_i_1 ?_
    refine v_isub C dX0_takeBack_28 ?_
    replace h := nm_ex h; obtain ⟨M5, eM5, h⟩ := h
    refine pf_X0_18 C ks_26 dX0_takeBack_29 ?_
    refine v_mem eM5 ?_
    refine v_iconst C dX0_takeBack_32 ct_i_1 ?_
    replace h := Option.some.inj h; subst h
    subst hQ
    exact v_zret C hr hlk (show narrow .boolean (.int 1) = .int 1 from rfl) dX0_takeBack_33
def m_X1_begin (M : Mem) (x1 : Int32) : Option Mem :=
  if (M 202 1) < 0 then (some M) else (if 16 ≤ (M 202 1) then (some M) else (chk (inB (M 202 1) 16) (nm (mset M 203 (M 202 1).toNatClampNeg x1) fun M2 => nm (mset M2 202 1 ((M2 202 1) + 1)) fun M3 => some M3)))
set_option maxHeartbeats 4000000 in
set_option maxRecDepth 100000 in
theorem c_X1_begin (l : Launch) (D : va_G) (cA : cAt) (B : Nat) (aK aV : Nat → Nat) (M : Mem) (x1 : Int32) (R : Mem) (h : m_X1_begin M x1 = some R) : CV l D cA B aK aV yX1_begin cX1_begin 2 0 [.ref (B + 202), .int x1] M R := by
  refine CV_of (by decide +kernel) (Nat.le_of_ble_eq_true rfl) ?_
  intro p e s m args below meth c C hr hlk
  have C : Cx p (rmd 0) s m args c 0 0 D cA B aK aV cX1_begin 2 RX1 := C
  generalize hQ : MQ below _ args s 0 0 _ = Q
  refine v_eq (M' := M) (pc' := 0) (L' := [(0, .ref (B + 202)), (1, .int x1)]) (st' := []) ?_
  unfold m_X1_begin at h
  refine v_aload_nR (j := 0) C dX1_begin_0 rfl rfl ?_
  refine gf_X1_15 C ks_202 dX1_begin_1 ?_
  refine v_if_lt (tgt := 39) C dX1_begin_4 (by decide) (fun g => ?_) (fun g => ?_)
  · replace h := ite_t g h
    replace h := Option.some.inj h; subst h
    subst hQ
    exact v_vret C hr hlk dX1_begin_39
  · replace h := ite_f g h
    refine v_aload_nR (j := 0) C dX1_begin_7 rfl rfl ?_
    refine gf_X1_15 C ks_202 dX1_begin_8 ?_
    refine v_aload_nR (j := 0) C dX1_begin_11 rfl rfl ?_
    refine v_pc (pc' := 12) rfl ?_
    refine gf_X1_9 C ks_202 dX1_begin_12 ?_
    refine v_alen9 (v := 16) C ks_203 rfl dX1_begin_15 ?_
    refine v_icmp_ge (tgt := 39) C dX1_begin_16 (by decide) (fun g => ?_) (fun g => ?_)
    · replace h := ite_t g h
      replace h := Option.some.inj h; subst h
      subst hQ
      exact v_vret C hr hlk dX1_begin_39
    · replace h := ite_f g h
      refine v_aload_nR (j := 0) C dX1_begin_19 rfl rfl ?_
      refine gf_X1_9 C ks_202 dX1_begin_20 ?_
      refine v_aload_nR (j := 0) C dX1_begin_23 rfl rfl ?_
      refine gf_X1_15 C ks_202 dX1_begin_24 ?_
      refine v_pc (pc' := 27) rfl ?_
      refine v_iload_n (j := 1) C dX1_begin_27 rfl rfl ?_
      replace h := chk_some h; obtain ⟨g1, h⟩ := h
      replace h := nm_ex h; obtain ⟨M2, eM2, h⟩ := h
      refine v_iast C ks_203 (inB_vp g1) dX1_begin_28 ?_
      refine v_mem eM2 ?_
      refine v_aload_nR (j := 0) C dX1_begin_29 rfl rfl ?_
      refine v_dup C dX1_begin_30 rfl ?_
      refine gf_X1_15 C ks_202 dX1_begin_31 ?_
      refine v_iconst C dX1_begin_34 ct_i_1 ?_
      refine v_iadd C dX1_begin_35 ?_
      refine v_pc (pc' := 36) rfl ?_
      replace h := nm_ex h; obtain ⟨M3, eM3, h⟩ := h
      refine pf_X1_15 C ks_202 dX1_begin_36 ?_
      refine v_mem eM3 ?_
      replace h := Option.some.inj h; subst h
      subst hQ
      exact v_vret C hr hlk dX1_begin_39
def m_X1_bodyAt (M : Mem) (x1 : Int32) : Option Int32 :=
  if x1 < 0 then (some (-1000000)) else (if (M 202 1) ≤ x1 then (some (-1000000)) else (if 16 ≤ x1 then (some (-1000000)) else (chk (inB x1 16) (some (M 203 x1.toNatClampNeg)))))
set_option maxHeartbeats 4000000 in
set_option maxRecDepth 100000 in
theorem c_X1_bodyAt (l : Launch) (D : va_G) (cA : cAt) (B : Nat) (aK aV : Nat → Nat) (M : Mem) (x1 : Int32) (R : Int32) (h : m_X1_bodyAt M x1 = some R) : CI l D cA B aK aV yX1_bodyAt cX1_bodyAt 2 .int 0 [.ref (B + 202), .int x1] M R M := by
  refine CI_of (by decide +kernel) (Nat.le_of_ble_eq_true rfl) ?_
  intro p e s m args below meth c C hr hlk
  have C : Cx p (rmd 0) s m args c 0 0 D cA B aK aV cX1_bodyAt 2 RX1 := C
  generalize hQ : MQ below _ args s 0 0 _ = Q
  refine v_eq (M' := M) (pc' := 0) (L' := [(0, .ref (B + 202)), (1, .int x1)]) (st' := []) ?_
  unfold m_X1_bodyAt at h
  refine v_iload_n (j := 1) C dX1_bodyAt_0 rfl rfl ?_
  refine v_if_lt (tgt := 30) C dX1_bodyAt_1 (by decide) (fun g => ?_) (fun g => ?_)
  · replace h := ite_t g h
    refine v_ldc C tw_869 dX1_bodyAt_30 ?_
    replace h := Option.some.inj h; subst h
    subst hQ
    exact v_iret C hr hlk dX1_bodyAt_32
  · replace h := ite_f g h
    refine v_iload_n (j := 1) C dX1_bodyAt_4 rfl rfl ?_
    refine v_aload_nR (j := 0) C dX1_bodyAt_5 rfl rfl ?_
    refine gf_X1_15 C ks_202 dX1_bodyAt_6 ?_
    refine v_icmp_ge (tgt := 30) C dX1_bodyAt_9 (by decide) (fun g => ?_) (fun g => ?_)
    · replace h := ite_t g h
      refine v_ldc C tw_869 dX1_bodyAt_30 ?_
      replace h := Option.some.inj h; subst h
      subst hQ
      exact v_iret C hr hlk dX1_bodyAt_32
    · replace h := ite_f g h
      refine v_pc (pc' := 12) rfl ?_
      refine v_iload_n (j := 1) C dX1_bodyAt_12 rfl rfl ?_
      refine v_aload_nR (j := 0) C dX1_bodyAt_13 rfl rfl ?_
      refine gf_X1_9 C ks_202 dX1_bodyAt_14 ?_
      refine v_alen9 (v := 16) C ks_203 rfl dX1_bodyAt_17 ?_
      refine v_icmp_ge (tgt := 30) C dX1_bodyAt_18 (by decide) (fun g => ?_) (fun g => ?_)
      · replace h := ite_t g h
        refine v_ldc C tw_869 dX1_bodyAt_30 ?_
        replace h := Option.some.inj h; subst h
        subst hQ
        exact v_iret C hr hlk dX1_bodyAt_32
      · replace h := ite_f g h
        refine v_aload_nR (j := 0) C dX1_bodyAt_21 rfl rfl ?_
        refine gf_X1_9 C ks_202 dX1_bodyAt_22 ?_
        refine v_pc (pc' := 25) rfl ?_
        refine v_iload_n (j := 1) C dX1_bodyAt_25 rfl rfl ?_
        replace h := chk_some h; obtain ⟨g1, h⟩ := h
        refine v_iald C ks_203 (inB_vp g1) dX1_bodyAt_26 ?_
        refine v_goto (tgt := 32) C dX1_bodyAt_27 (by decide) ?_
        replace h := Option.some.inj h; subst h
        subst hQ
        exact v_iret C hr hlk dX1_bodyAt_32
def m_X1_body10 (M : Mem) (x1 : Nat) : Option (Int32 × Mem) :=
  (m_X1_begin M 10).bind fun r1 => some ((r1 x1 2, r1))
set_option maxHeartbeats 4000000 in
set_option maxRecDepth 100000 in
theorem c_X1_body10 (l : Launch) (D : va_G) (cA : cAt) (B : Nat) (aK aV : Nat → Nat) (M : Mem) (x1 : Nat) (k1 : kd x1 = 2) (R : Int32 × Mem) (h : m_X1_body10 M x1 = some R) : CI l D cA B aK aV yX1_body10 cX1_body10 2 .int 1 [.ref (B + 202), .ref (B + x1)] M R.1 R.2 := by
  refine CI_of (by decide +kernel) (Nat.le_of_ble_eq_true rfl) ?_
  intro p e s m args below meth c C hr hlk
  have C : Cx p (rmd 1) s m args c 0 0 D cA B aK aV cX1_body10 2 RX1 := C
  generalize hQ : MQ below _ args s 0 0 _ = Q
  refine v_eq (M' := M) (pc' := 0) (L' := [(0, .ref (B + 202)), (1, .ref (B + x1))]) (st' := []) ?_
  unfold m_X1_body10 at h
  refine v_aload_nR (j := 0) C dX1_body10_0 rfl rfl ?_
  refine v_bipush C dX1_body10_1 ct_b_10 ?_
  replace h := bind_ex h; obtain ⟨r1, hr1, h⟩ := h
  refine cv_V C tw_832 tw_109 tw_829 tw_831 tw_62 pd_X1_begin (Nat.le_of_ble_eq_true rfl) (Nat.le_of_ble_eq_true rfl) (q := 202) (kd_lt ks_202 (by decide)) (sh1 ks_202) rfl (As := [.int 10]) (rest := []) rfl rfl (Nat.le_of_ble_eq_true rfl) (c_X1_begin l D cA B aK aV M 10 r1 hr1) dX1_body10_3 ?_
  refine v_aload_nR (j := 1) C dX1_body10_6 rfl rfl ?_
  refine gf_X1_51 C k1 dX1_body10_7 ?_
  replace h := Option.some.inj h; subst h
  subst hQ
  exact v_iret C hr hlk dX1_body10_10
def m_X1_body20 (M : Mem) (x1 : Nat) : Option (Int32 × Mem) :=
  (m_X1_begin M 20).bind fun r1 => some ((r1 x1 0, r1))
set_option maxHeartbeats 4000000 in
set_option maxRecDepth 100000 in
theorem c_X1_body20 (l : Launch) (D : va_G) (cA : cAt) (B : Nat) (aK aV : Nat → Nat) (M : Mem) (x1 : Nat) (k1 : kd x1 = 2) (R : Int32 × Mem) (h : m_X1_body20 M x1 = some R) : CI l D cA B aK aV yX1_body20 cX1_body20 2 .int 1 [.ref (B + 202), .ref (B + x1)] M R.1 R.2 := by
  refine CI_of (by decide +kernel) (Nat.le_of_ble_eq_true rfl) ?_
  intro p e s m args below meth c C hr hlk
  have C : Cx p (rmd 1) s m args c 0 0 D cA B aK aV cX1_body20 2 RX1 := C
  generalize hQ : MQ below _ args s 0 0 _ = Q
  refine v_eq (M' := M) (pc' := 0) (L' := [(0, .ref (B + 202)), (1, .ref (B + x1))]) (st' := []) ?_
  unfold m_X1_body20 at h
  refine v_aload_nR (j := 0) C dX1_body20_0 rfl rfl ?_
  refine v_bipush C dX1_body20_1 ct_b_20 ?_
  replace h := bind_ex h; obtain ⟨r1, hr1, h⟩ := h
  refine cv_V C tw_832 tw_109 tw_829 tw_831 tw_62 pd_X1_begin (Nat.le_of_ble_eq_true rfl) (Nat.le_of_ble_eq_true rfl) (q := 202) (kd_lt ks_202 (by decide)) (sh1 ks_202) rfl (As := [.int 20]) (rest := []) rfl rfl (Nat.le_of_ble_eq_true rfl) (c_X1_begin l D cA B aK aV M 20 r1 hr1) dX1_body20_3 ?_
  refine v_aload_nR (j := 1) C dX1_body20_6 rfl rfl ?_
  refine gf_X1_54 C k1 dX1_body20_7 ?_
  replace h := Option.some.inj h; subst h
  subst hQ
  exact v_iret C hr hlk dX1_body20_10
def m_X1_body21 (M : Mem) (x1 : Nat) : Option (Int32 × Mem) :=
  (m_X1_begin M 21).bind fun r1 => (m_X1_body20 r1 x1).bind fun r2 => some ((r2.1 + (r2.2 x1 3), r2.2))
set_option maxHeartbeats 4000000 in
set_option maxRecDepth 100000 in
theorem c_X1_body21 (l : Launch) (D : va_G) (cA : cAt) (B : Nat) (aK aV : Nat → Nat) (M : Mem) (x1 : Nat) (k1 : kd x1 = 2) (R : Int32 × Mem) (h : m_X1_body21 M x1 = some R) : CI l D cA B aK aV yX1_body21 cX1_body21 2 .int 2 [.ref (B + 202), .ref (B + x1)] M R.1 R.2 := by
  refine CI_of (by decide +kernel) (Nat.le_of_ble_eq_true rfl) ?_
  intro p e s m args below meth c C hr hlk
  have C : Cx p (rmd 2) s m args c 0 0 D cA B aK aV cX1_body21 2 RX1 := C
  generalize hQ : MQ below _ args s 0 0 _ = Q
  refine v_eq (M' := M) (pc' := 0) (L' := [(0, .ref (B + 202)), (1, .ref (B + x1))]) (st' := []) ?_
  unfold m_X1_body21 at h
  refine v_aload_nR (j := 0) C dX1_body21_0 rfl rfl ?_
  refine v_bipush C dX1_body21_1 ct_b_21 ?_
  replace h := bind_ex h; obtain ⟨r1, hr1, h⟩ := h
  refine cv_V C tw_832 tw_109 tw_829 tw_831 tw_62 pd_X1_begin (Nat.le_of_ble_eq_true rfl) (Nat.le_of_ble_eq_true rfl) (q := 202) (kd_lt ks_202 (by decide)) (sh1 ks_202) rfl (As := [.int 21]) (rest := []) rfl rfl (Nat.le_of_ble_eq_true rfl) (c_X1_begin l D cA B aK aV M 21 r1 hr1) dX1_body21_3 ?_
  refine v_aload_nR (j := 0) C dX1_body21_6 rfl rfl ?_
  refine v_aload_nR (j := 1) C dX1_body21_7 rfl rfl ?_
  replace h := bind_ex h; obtain ⟨r2, hr2, h⟩ := h
  refine cv_I C tw_848 tw_109 tw_845 tw_847 tw_66 pd_X1_body20 (Nat.le_of_ble_eq_true rfl) (Nat.le_of_ble_eq_true rfl) (q := 202) (kd_lt ks_202 (by decide)) (sh1 ks_202) rfl (As := [.ref (B + x1)]) (rest := []) rfl rfl (Nat.le_of_ble_eq_true rfl) (c_X1_body20 l D cA B aK aV r1 x1 k1 r2 hr2) dX1_body21_8 ?_
  refine v_pc (pc' := 11) rfl ?_
  refine v_aload_nR (j := 1) C dX1_body21_11 rfl rfl ?_
  refine gf_X1_57 C k1 dX1_body21_12 ?_
  refine v_iadd C dX1_body21_15 ?_
  replace h := Option.some.inj h; subst h
  subst hQ
  exact v_iret C hr hlk dX1_body21_16
def m_X1_askSmallMark (M : Mem) (x1 : Nat) : Option (Int32 × Mem) :=
  if (M x1 1) = 2 then ((m_X1_begin M 24).bind fun r6 => (m_X1_body21 r6 x1).bind fun r7 => some ((2 * r7.1, r7.2))) else (if (M x1 1) = 3 then ((m_X1_begin M 22).bind fun r4 => (m_X1_body21 r4 x1).bind fun r5 => some ((r5.1 - 1000, r5.2))) else ((m_X1_body21 M x1).bind fun r1 => some ((r1.1, r1.2))))
set_option maxHeartbeats 4000000 in
set_option maxRecDepth 100000 in
theorem c_X1_askSmallMark (l : Launch) (D : va_G) (cA : cAt) (B : Nat) (aK aV : Nat → Nat) (M : Mem) (x1 : Nat) (k1 : kd x1 = 2) (R : Int32 × Mem) (h : m_X1_askSmallMark M x1 = some R) : CI l D cA B aK aV yX1_askSmallMark cX1_askSmallMark 2 .int 3 [.ref (B + 202), .ref (B + x1)] M R.1 R.2 := by
  refine CI_of (by decide +kernel) (Nat.le_of_ble_eq_true rfl) ?_
  intro p e s m args below meth c C hr hlk
  have C : Cx p (rmd 3) s m args c 0 0 D cA B aK aV cX1_askSmallMark 2 RX1 := C
  generalize hQ : MQ below _ args s 0 0 _ = Q
  refine v_eq (M' := M) (pc' := 0) (L' := [(0, .ref (B + 202)), (1, .ref (B + x1))]) (st' := []) ?_
  unfold m_X1_askSmallMark at h
  refine v_aload_nR (j := 1) C dX1_askSmallMark_0 rfl rfl ?_
  refine gf_X1_20 C k1 dX1_askSmallMark_1 ?_
  by_cases g2 : (M x1 1) = 2
  · replace h := ite_t g2 h
    refine v_lookup (off := 28) (tgt := 32) C dX1_askSmallMark_4 (by decide) (by rw [g2] <;> rfl) (by decide) ?_
    refine v_aload_nR (j := 0) C dX1_askSmallMark_32 rfl rfl ?_
    refine v_bipush C dX1_askSmallMark_33 ct_b_24 ?_
    replace h := bind_ex h; obtain ⟨r6, hr6, h⟩ := h
    refine cv_V C tw_832 tw_109 tw_829 tw_831 tw_62 pd_X1_begin (Nat.le_of_ble_eq_true rfl) (Nat.le_of_ble_eq_true rfl) (q := 202) (kd_lt ks_202 (by decide)) (sh1 ks_202) rfl (As := [.int 24]) (rest := []) rfl rfl (Nat.le_of_ble_eq_true rfl) (c_X1_begin l D cA B aK aV M 24 r6 hr6) dX1_askSmallMark_35 ?_
    refine v_iconst C dX1_askSmallMark_38 ct_i_2 ?_
    refine v_aload_nR (j := 0) C dX1_askSmallMark_39 rfl rfl ?_
    refine v_aload_nR (j := 1) C dX1_askSmallMark_40 rfl rfl ?_
    refine v_pc (pc' := 41) rfl ?_
    replace h := bind_ex h; obtain ⟨r7, hr7, h⟩ := h
    refine cv_I C tw_844 tw_109 tw_841 tw_843 tw_65 pd_X1_body21 (Nat.le_of_ble_eq_true rfl) (Nat.le_of_ble_eq_true rfl) (q := 202) (kd_lt ks_202 (by decide)) (sh1 ks_202) rfl (As := [.ref (B + x1)]) (rest := [.int 2]) rfl rfl (Nat.le_of_ble_eq_true rfl) (c_X1_body21 l D cA B aK aV r6 x1 k1 r7 hr7) dX1_askSmallMark_41 ?_
    refine v_imul C dX1_askSmallMark_44 ?_
    replace h := Option.some.inj h; subst h
    subst hQ
    exact v_iret C hr hlk dX1_askSmallMark_45
  · replace h := ite_f g2 h
    by_cases g3 : (M x1 1) = 3
    · replace h := ite_t g3 h
      refine v_lookup (off := 42) (tgt := 46) C dX1_askSmallMark_4 (by decide) (by rw [lv_osw g2 ct_t_2]; rw [g3] <;> rfl) (by decide) ?_
      refine v_aload_nR (j := 0) C dX1_askSmallMark_46 rfl rfl ?_
      refine v_bipush C dX1_askSmallMark_47 ct_b_22 ?_
      replace h := bind_ex h; obtain ⟨r4, hr4, h⟩ := h
      refine cv_V C tw_832 tw_109 tw_829 tw_831 tw_62 pd_X1_begin (Nat.le_of_ble_eq_true rfl) (Nat.le_of_ble_eq_true rfl) (q := 202) (kd_lt ks_202 (by decide)) (sh1 ks_202) rfl (As := [.int 22]) (rest := []) rfl rfl (Nat.le_of_ble_eq_true rfl) (c_X1_begin l D cA B aK aV M 22 r4 hr4) dX1_askSmallMark_49 ?_
      refine v_aload_nR (j := 0) C dX1_askSmallMark_52 rfl rfl ?_
      refine v_aload_nR (j := 1) C dX1_askSmallMark_53 rfl rfl ?_
      replace h := bind_ex h; obtain ⟨r5, hr5, h⟩ := h
      refine cv_I C tw_844 tw_109 tw_841 tw_843 tw_65 pd_X1_body21 (Nat.le_of_ble_eq_true rfl) (Nat.le_of_ble_eq_true rfl) (q := 202) (kd_lt ks_202 (by decide)) (sh1 ks_202) rfl (As := [.ref (B + x1)]) (rest := []) rfl rfl (Nat.le_of_ble_eq_true rfl) (c_X1_body21 l D cA B aK aV r4 x1 k1 r5 hr5) dX1_askSmallMark_54 ?_
      refine v_pc (pc' := 57) rfl ?_
      refine v_sipush C dX1_askSmallMark_57 ct_s_1000 ?_
      refine v_isub C dX1_askSmallMark_60 ?_
      replace h := Option.some.inj h; subst h
      subst hQ
      exact v_iret C hr hlk dX1_askSmallMark_61
    · replace h := ite_f g3 h
      refine v_lookup (off := 58) (tgt := 62) C dX1_askSmallMark_4 (by decide) (by rw [lv_osw g2 ct_t_2, lv_osw g3 ct_t_3] <;> rfl) (by decide) ?_
      refine v_aload_nR (j := 0) C dX1_askSmallMark_62 rfl rfl ?_
      refine v_aload_nR (j := 1) C dX1_askSmallMark_63 rfl rfl ?_
      replace h := bind_ex h; obtain ⟨r1, hr1, h⟩ := h
      refine cv_I C tw_844 tw_109 tw_841 tw_843 tw_65 pd_X1_body21 (Nat.le_of_ble_eq_true rfl) (Nat.le_of_ble_eq_true rfl) (q := 202) (kd_lt ks_202 (by decide)) (sh1 ks_202) rfl (As := [.ref (B + x1)]) (rest := []) rfl rfl (Nat.le_of_ble_eq_true rfl) (c_X1_body21 l D cA B aK aV M x1 k1 r1 hr1) dX1_askSmallMark_64 ?_
      replace h := Option.some.inj h; subst h
      subst hQ
      exact v_iret C hr hlk dX1_askSmallMark_67
def m_X1_body11 (M : Mem) (x1 : Nat) : Option (Int32 × Mem) :=
  (m_X1_begin M 11).bind fun r1 => (m_X1_body10 r1 x1).bind fun r2 => (m_X1_askSmallMark r2.2 x1).bind fun r3 => some ((r2.1 + r3.1, r3.2))
set_option maxHeartbeats 4000000 in
set_option maxRecDepth 100000 in
theorem c_X1_body11 (l : Launch) (D : va_G) (cA : cAt) (B : Nat) (aK aV : Nat → Nat) (M : Mem) (x1 : Nat) (k1 : kd x1 = 2) (R : Int32 × Mem) (h : m_X1_body11 M x1 = some R) : CI l D cA B aK aV yX1_body11 cX1_body11 2 .int 4 [.ref (B + 202), .ref (B + x1)] M R.1 R.2 := by
  refine CI_of (by decide +kernel) (Nat.le_of_ble_eq_true rfl) ?_
  intro p e s m args below meth c C hr hlk
  have C : Cx p (rmd 4) s m args c 0 0 D cA B aK aV cX1_body11 2 RX1 := C
  generalize hQ : MQ below _ args s 0 0 _ = Q
  refine v_eq (M' := M) (pc' := 0) (L' := [(0, .ref (B + 202)), (1, .ref (B + x1))]) (st' := []) ?_
  unfold m_X1_body11 at h
  refine v_aload_nR (j := 0) C dX1_body11_0 rfl rfl ?_
  refine v_bipush C dX1_body11_1 ct_b_11 ?_
  replace h := bind_ex h; obtain ⟨r1, hr1, h⟩ := h
  refine cv_V C tw_832 tw_109 tw_829 tw_831 tw_62 pd_X1_begin (Nat.le_of_ble_eq_true rfl) (Nat.le_of_ble_eq_true rfl) (q := 202) (kd_lt ks_202 (by decide)) (sh1 ks_202) rfl (As := [.int 11]) (rest := []) rfl rfl (Nat.le_of_ble_eq_true rfl) (c_X1_begin l D cA B aK aV M 11 r1 hr1) dX1_body11_3 ?_
  refine v_aload_nR (j := 0) C dX1_body11_6 rfl rfl ?_
  refine v_aload_nR (j := 1) C dX1_body11_7 rfl rfl ?_
  replace h := bind_ex h; obtain ⟨r2, hr2, h⟩ := h
  refine cv_I C tw_836 tw_109 tw_833 tw_835 tw_63 pd_X1_body10 (Nat.le_of_ble_eq_true rfl) (Nat.le_of_ble_eq_true rfl) (q := 202) (kd_lt ks_202 (by decide)) (sh1 ks_202) rfl (As := [.ref (B + x1)]) (rest := []) rfl rfl (Nat.le_of_ble_eq_true rfl) (c_X1_body10 l D cA B aK aV r1 x1 k1 r2 hr2) dX1_body11_8 ?_
  refine v_pc (pc' := 11) rfl ?_
  refine v_aload_nR (j := 0) C dX1_body11_11 rfl rfl ?_
  refine v_aload_nR (j := 1) C dX1_body11_12 rfl rfl ?_
  replace h := bind_ex h; obtain ⟨r3, hr3, h⟩ := h
  refine cv_I C tw_840 tw_109 tw_837 tw_839 tw_64 pd_X1_askSmallMark (Nat.le_of_ble_eq_true rfl) (Nat.le_of_ble_eq_true rfl) (q := 202) (kd_lt ks_202 (by decide)) (sh1 ks_202) rfl (As := [.ref (B + x1)]) (rest := [.int r2.1]) rfl rfl (Nat.le_of_ble_eq_true rfl) (c_X1_askSmallMark l D cA B aK aV r2.2 x1 k1 r3 hr3) dX1_body11_13 ?_
  refine v_iadd C dX1_body11_16 ?_
  replace h := Option.some.inj h; subst h
  subst hQ
  exact v_iret C hr hlk dX1_body11_17
def m_X1_body13 (M : Mem) (x1 : Nat) : Option (Int32 × Mem) :=
  (m_X1_begin M 13).bind fun r1 => (m_X1_body10 r1 x1).bind fun r2 => some ((r2.1 - 100, r2.2))
set_option maxHeartbeats 4000000 in
set_option maxRecDepth 100000 in
theorem c_X1_body13 (l : Launch) (D : va_G) (cA : cAt) (B : Nat) (aK aV : Nat → Nat) (M : Mem) (x1 : Nat) (k1 : kd x1 = 2) (R : Int32 × Mem) (h : m_X1_body13 M x1 = some R) : CI l D cA B aK aV yX1_body13 cX1_body13 2 .int 2 [.ref (B + 202), .ref (B + x1)] M R.1 R.2 := by
  refine CI_of (by decide +kernel) (Nat.le_of_ble_eq_true rfl) ?_
  intro p e s m args below meth c C hr hlk
  have C : Cx p (rmd 2) s m args c 0 0 D cA B aK aV cX1_body13 2 RX1 := C
  generalize hQ : MQ below _ args s 0 0 _ = Q
  refine v_eq (M' := M) (pc' := 0) (L' := [(0, .ref (B + 202)), (1, .ref (B + x1))]) (st' := []) ?_
  unfold m_X1_body13 at h
  refine v_aload_nR (j := 0) C dX1_body13_0 rfl rfl ?_
  refine v_bipush C dX1_body13_1 ct_b_13 ?_
  replace h := bind_ex h; obtain ⟨r1, hr1, h⟩ := h
  refine cv_V C tw_832 tw_109 tw_829 tw_831 tw_62 pd_X1_begin (Nat.le_of_ble_eq_true rfl) (Nat.le_of_ble_eq_true rfl) (q := 202) (kd_lt ks_202 (by decide)) (sh1 ks_202) rfl (As := [.int 13]) (rest := []) rfl rfl (Nat.le_of_ble_eq_true rfl) (c_X1_begin l D cA B aK aV M 13 r1 hr1) dX1_body13_3 ?_
  refine v_aload_nR (j := 0) C dX1_body13_6 rfl rfl ?_
  refine v_aload_nR (j := 1) C dX1_body13_7 rfl rfl ?_
  replace h := bind_ex h; obtain ⟨r2, hr2, h⟩ := h
  refine cv_I C tw_836 tw_109 tw_833 tw_835 tw_63 pd_X1_body10 (Nat.le_of_ble_eq_true rfl) (Nat.le_of_ble_eq_true rfl) (q := 202) (kd_lt ks_202 (by decide)) (sh1 ks_202) rfl (As := [.ref (B + x1)]) (rest := []) rfl rfl (Nat.le_of_ble_eq_true rfl) (c_X1_body10 l D cA B aK aV r1 x1 k1 r2 hr2) dX1_body13_8 ?_
  refine v_pc (pc' := 11) rfl ?_
  refine v_bipush C dX1_body13_11 ct_b_100 ?_
  refine v_isub C dX1_body13_13 ?_
  replace h := Option.some.inj h; subst h
  subst hQ
  exact v_iret C hr hlk dX1_body13_14
def m_X1_askGloveSize (M : Mem) (x1 : Nat) : Option (Int32 × Mem) :=
  if (M x1 1) = 5 then ((m_X1_begin M 14).bind fun r2 => (m_X1_body13 r2 x1).bind fun r3 => some ((2 * r3.1, r3.2))) else ((m_X1_body13 M x1).bind fun r1 => some ((r1.1, r1.2)))
set_option maxHeartbeats 4000000 in
set_option maxRecDepth 100000 in
theorem c_X1_askGloveSize (l : Launch) (D : va_G) (cA : cAt) (B : Nat) (aK aV : Nat → Nat) (M : Mem) (x1 : Nat) (k1 : kd x1 = 2) (R : Int32 × Mem) (h : m_X1_askGloveSize M x1 = some R) : CI l D cA B aK aV yX1_askGloveSize cX1_askGloveSize 2 .int 3 [.ref (B + 202), .ref (B + x1)] M R.1 R.2 := by
  refine CI_of (by decide +kernel) (Nat.le_of_ble_eq_true rfl) ?_
  intro p e s m args below meth c C hr hlk
  have C : Cx p (rmd 3) s m args c 0 0 D cA B aK aV cX1_askGloveSize 2 RX1 := C
  generalize hQ : MQ below _ args s 0 0 _ = Q
  refine v_eq (M' := M) (pc' := 0) (L' := [(0, .ref (B + 202)), (1, .ref (B + x1))]) (st' := []) ?_
  unfold m_X1_askGloveSize at h
  refine v_aload_nR (j := 1) C dX1_askGloveSize_0 rfl rfl ?_
  refine gf_X1_20 C k1 dX1_askGloveSize_1 ?_
  refine v_iconst C dX1_askGloveSize_4 ct_i_5 ?_
  refine v_icmp_ne (tgt := 22) C dX1_askGloveSize_5 (by decide) (fun g => ?_) (fun g => ?_)
  · replace h := ite_t g h
    refine v_aload_nR (j := 0) C dX1_askGloveSize_8 rfl rfl ?_
    refine v_bipush C dX1_askGloveSize_9 ct_b_14 ?_
    refine v_pc (pc' := 11) rfl ?_
    replace h := bind_ex h; obtain ⟨r2, hr2, h⟩ := h
    refine cv_V C tw_832 tw_109 tw_829 tw_831 tw_62 pd_X1_begin (Nat.le_of_ble_eq_true rfl) (Nat.le_of_ble_eq_true rfl) (q := 202) (kd_lt ks_202 (by decide)) (sh1 ks_202) rfl (As := [.int 14]) (rest := []) rfl rfl (Nat.le_of_ble_eq_true rfl) (c_X1_begin l D cA B aK aV M 14 r2 hr2) dX1_askGloveSize_11 ?_
    refine v_iconst C dX1_askGloveSize_14 ct_i_2 ?_
    refine v_aload_nR (j := 0) C dX1_askGloveSize_15 rfl rfl ?_
    refine v_aload_nR (j := 1) C dX1_askGloveSize_16 rfl rfl ?_
    replace h := bind_ex h; obtain ⟨r3, hr3, h⟩ := h
    refine cv_I C tw_856 tw_109 tw_853 tw_855 tw_68 pd_X1_body13 (Nat.le_of_ble_eq_true rfl) (Nat.le_of_ble_eq_true rfl) (q := 202) (kd_lt ks_202 (by decide)) (sh1 ks_202) rfl (As := [.ref (B + x1)]) (rest := [.int 2]) rfl rfl (Nat.le_of_ble_eq_true rfl) (c_X1_body13 l D cA B aK aV r2 x1 k1 r3 hr3) dX1_askGloveSize_17 ?_
    refine v_imul C dX1_askGloveSize_20 ?_
    replace h := Option.some.inj h; subst h
    subst hQ
    exact v_iret C hr hlk dX1_askGloveSize_21
  · replace h := ite_f g h
    refine v_aload_nR (j := 0) C dX1_askGloveSize_22 rfl rfl ?_
    refine v_aload_nR (j := 1) C dX1_askGloveSize_23 rfl rfl ?_
    replace h := bind_ex h; obtain ⟨r1, hr1, h⟩ := h
    refine cv_I C tw_856 tw_109 tw_853 tw_855 tw_68 pd_X1_body13 (Nat.le_of_ble_eq_true rfl) (Nat.le_of_ble_eq_true rfl) (q := 202) (kd_lt ks_202 (by decide)) (sh1 ks_202) rfl (As := [.ref (B + x1)]) (rest := []) rfl rfl (Nat.le_of_ble_eq_true rfl) (c_X1_body13 l D cA B aK aV M x1 k1 r1 hr1) dX1_askGloveSize_24 ?_
    replace h := Option.some.inj h; subst h
    subst hQ
    exact v_iret C hr hlk dX1_askGloveSize_27
def m_X1_askSize (M : Mem) (x1 : Nat) : Option (Int32 × Mem) :=
  if (M x1 1) = 1 then ((m_X1_body11 M x1).bind fun r12 => some ((r12.1, r12.2))) else (if (M x1 1) = 2 then ((m_X1_begin M 12).bind fun r10 => (m_X1_body11 r10 x1).bind fun r11 => some ((-r11.1, r11.2))) else (if (M x1 1) = 3 then ((m_X1_body11 M x1).bind fun r9 => some ((r9.1, r9.2))) else (if (M x1 1) = 4 then ((m_X1_askGloveSize M x1).bind fun r8 => some ((r8.1, r8.2))) else (if (M x1 1) = 5 then ((m_X1_askGloveSize M x1).bind fun r7 => some ((r7.1, r7.2))) else ((m_X1_body10 M x1).bind fun r1 => some ((r1.1, r1.2)))))))
set_option maxHeartbeats 4000000 in
set_option maxRecDepth 100000 in
theorem c_X1_askSize (l : Launch) (D : va_G) (cA : cAt) (B : Nat) (aK aV : Nat → Nat) (M : Mem) (x1 : Nat) (k1 : kd x1 = 2) (R : Int32 × Mem) (h : m_X1_askSize M x1 = some R) : CI l D cA B aK aV yX1_askSize cX1_askSize 2 .int 5 [.ref (B + 202), .ref (B + x1)] M R.1 R.2 := by
  refine CI_of (by decide +kernel) (Nat.le_of_ble_eq_true rfl) ?_
  intro p e s m args below meth c C hr hlk
  have C : Cx p (rmd 5) s m args c 0 0 D cA B aK aV cX1_askSize 2 RX1 := C
  generalize hQ : MQ below _ args s 0 0 _ = Q
  refine v_eq (M' := M) (pc' := 0) (L' := [(0, .ref (B + 202)), (1, .ref (B + x1))]) (st' := []) ?_
  unfold m_X1_askSize at h
  refine v_aload_nR (j := 1) C dX1_askSize_0 rfl rfl ?_
  refine gf_X1_20 C k1 dX1_askSize_1 ?_
  by_cases g2 : (M x1 1) = 1
  · replace h := ite_t g2 h
    refine v_tableIn (off := 36) (tgt := 40) C dX1_askSize_4 (by rw [g2]; decide) (by rw [g2]; decide) (by rw [g2] <;> rfl) (by decide) ?_
    refine v_aload_nR (j := 0) C dX1_askSize_40 rfl rfl ?_
    refine v_aload_nR (j := 1) C dX1_askSize_41 rfl rfl ?_
    replace h := bind_ex h; obtain ⟨r12, hr12, h⟩ := h
    refine cv_I C tw_828 tw_109 tw_825 tw_827 tw_61 pd_X1_body11 (Nat.le_of_ble_eq_true rfl) (Nat.le_of_ble_eq_true rfl) (q := 202) (kd_lt ks_202 (by decide)) (sh1 ks_202) rfl (As := [.ref (B + x1)]) (rest := []) rfl rfl (Nat.le_of_ble_eq_true rfl) (c_X1_body11 l D cA B aK aV M x1 k1 r12 hr12) dX1_askSize_42 ?_
    replace h := Option.some.inj h; subst h
    subst hQ
    exact v_iret C hr hlk dX1_askSize_45
  · replace h := ite_f g2 h
    by_cases g3 : (M x1 1) = 2
    · replace h := ite_t g3 h
      refine v_tableIn (off := 42) (tgt := 46) C dX1_askSize_4 (by rw [g3]; decide) (by rw [g3]; decide) (by rw [g3] <;> rfl) (by decide) ?_
      refine v_aload_nR (j := 0) C dX1_askSize_46 rfl rfl ?_
      refine v_bipush C dX1_askSize_47 ct_b_12 ?_
      replace h := bind_ex h; obtain ⟨r10, hr10, h⟩ := h
      refine cv_V C tw_832 tw_109 tw_829 tw_831 tw_62 pd_X1_begin (Nat.le_of_ble_eq_true rfl) (Nat.le_of_ble_eq_true rfl) (q := 202) (kd_lt ks_202 (by decide)) (sh1 ks_202) rfl (As := [.int 12]) (rest := []) rfl rfl (Nat.le_of_ble_eq_true rfl) (c_X1_begin l D cA B aK aV M 12 r10 hr10) dX1_askSize_49 ?_
      refine v_aload_nR (j := 0) C dX1_askSize_52 rfl rfl ?_
      refine v_aload_nR (j := 1) C dX1_askSize_53 rfl rfl ?_
      replace h := bind_ex h; obtain ⟨r11, hr11, h⟩ := h
      refine cv_I C tw_828 tw_109 tw_825 tw_827 tw_61 pd_X1_body11 (Nat.le_of_ble_eq_true rfl) (Nat.le_of_ble_eq_true rfl) (q := 202) (kd_lt ks_202 (by decide)) (sh1 ks_202) rfl (As := [.ref (B + x1)]) (rest := []) rfl rfl (Nat.le_of_ble_eq_true rfl) (c_X1_body11 l D cA B aK aV r10 x1 k1 r11 hr11) dX1_askSize_54 ?_
      refine v_pc (pc' := 57) rfl ?_
      refine v_ineg C dX1_askSize_57 ?_
      replace h := Option.some.inj h; subst h
      subst hQ
      exact v_iret C hr hlk dX1_askSize_58
    · replace h := ite_f g3 h
      by_cases g4 : (M x1 1) = 3
      · replace h := ite_t g4 h
        refine v_tableIn (off := 36) (tgt := 40) C dX1_askSize_4 (by rw [g4]; decide) (by rw [g4]; decide) (by rw [g4] <;> rfl) (by decide) ?_
        refine v_aload_nR (j := 0) C dX1_askSize_40 rfl rfl ?_
        refine v_aload_nR (j := 1) C dX1_askSize_41 rfl rfl ?_
        replace h := bind_ex h; obtain ⟨r9, hr9, h⟩ := h
        refine cv_I C tw_828 tw_109 tw_825 tw_827 tw_61 pd_X1_body11 (Nat.le_of_ble_eq_true rfl) (Nat.le_of_ble_eq_true rfl) (q := 202) (kd_lt ks_202 (by decide)) (sh1 ks_202) rfl (As := [.ref (B + x1)]) (rest := []) rfl rfl (Nat.le_of_ble_eq_true rfl) (c_X1_body11 l D cA B aK aV M x1 k1 r9 hr9) dX1_askSize_42 ?_
        replace h := Option.some.inj h; subst h
        subst hQ
        exact v_iret C hr hlk dX1_askSize_45
      · replace h := ite_f g4 h
        by_cases g5 : (M x1 1) = 4
        · replace h := ite_t g5 h
          refine v_tableIn (off := 55) (tgt := 59) C dX1_askSize_4 (by rw [g5]; decide) (by rw [g5]; decide) (by rw [g5] <;> rfl) (by decide) ?_
          refine v_aload_nR (j := 0) C dX1_askSize_59 rfl rfl ?_
          refine v_aload_nR (j := 1) C dX1_askSize_60 rfl rfl ?_
          replace h := bind_ex h; obtain ⟨r8, hr8, h⟩ := h
          refine cv_I C tw_852 tw_109 tw_849 tw_851 tw_67 pd_X1_askGloveSize (Nat.le_of_ble_eq_true rfl) (Nat.le_of_ble_eq_true rfl) (q := 202) (kd_lt ks_202 (by decide)) (sh1 ks_202) rfl (As := [.ref (B + x1)]) (rest := []) rfl rfl (Nat.le_of_ble_eq_true rfl) (c_X1_askGloveSize l D cA B aK aV M x1 k1 r8 hr8) dX1_askSize_61 ?_
          replace h := Option.some.inj h; subst h
          subst hQ
          exact v_iret C hr hlk dX1_askSize_64
        · replace h := ite_f g5 h
          by_cases g6 : (M x1 1) = 5
          · replace h := ite_t g6 h
            refine v_tableIn (off := 55) (tgt := 59) C dX1_askSize_4 (by rw [g6]; decide) (by rw [g6]; decide) (by rw [g6] <;> rfl) (by decide) ?_
            refine v_aload_nR (j := 0) C dX1_askSize_59 rfl rfl ?_
            refine v_aload_nR (j := 1) C dX1_askSize_60 rfl rfl ?_
            replace h := bind_ex h; obtain ⟨r7, hr7, h⟩ := h
            refine cv_I C tw_852 tw_109 tw_849 tw_851 tw_67 pd_X1_askGloveSize (Nat.le_of_ble_eq_true rfl) (Nat.le_of_ble_eq_true rfl) (q := 202) (kd_lt ks_202 (by decide)) (sh1 ks_202) rfl (As := [.ref (B + x1)]) (rest := []) rfl rfl (Nat.le_of_ble_eq_true rfl) (c_X1_askGloveSize l D cA B aK aV M x1 k1 r7 hr7) dX1_askSize_61 ?_
            replace h := Option.some.inj h; subst h
            subst hQ
            exact v_iret C hr hlk dX1_askSize_64
          · replace h := ite_f g6 h
            refine v_tableOut (tgt := 65) C dX1_askSize_4 (by have t0 := sw_ne (k := 1) g2; have t1 := sw_ne (k := 2) g3; have t2 := sw_ne (k := 3) g4; have t3 := sw_ne (k := 4) g5; have t4 := sw_ne (k := 5) g6; have u0 : (1 : Int32).toInt = 1 := (by decide); have u1 : (2 : Int32).toInt = 2 := (by decide); have u2 : (3 : Int32).toInt = 3 := (by decide); have u3 : (4 : Int32).toInt = 4 := (by decide); have u4 : (5 : Int32).toInt = 5 := (by decide); omega) (by decide) ?_
            refine v_aload_nR (j := 0) C dX1_askSize_65 rfl rfl ?_
            refine v_aload_nR (j := 1) C dX1_askSize_66 rfl rfl ?_
            replace h := bind_ex h; obtain ⟨r1, hr1, h⟩ := h
            refine cv_I C tw_836 tw_109 tw_833 tw_835 tw_63 pd_X1_body10 (Nat.le_of_ble_eq_true rfl) (Nat.le_of_ble_eq_true rfl) (q := 202) (kd_lt ks_202 (by decide)) (sh1 ks_202) rfl (As := [.ref (B + x1)]) (rest := []) rfl rfl (Nat.le_of_ble_eq_true rfl) (c_X1_body10 l D cA B aK aV M x1 k1 r1 hr1) dX1_askSize_67 ?_
            replace h := Option.some.inj h; subst h
            subst hQ
            exact v_iret C hr hlk dX1_askSize_70
def m_X1_askMark (M : Mem) (x1 : Nat) : Option (Int32 × Mem) :=
  if (M x1 1) = 1 then ((m_X1_askSmallMark M x1).bind fun r15 => some ((r15.1, r15.2))) else (if (M x1 1) = 2 then ((m_X1_askSmallMark M x1).bind fun r14 => some ((r14.1, r14.2))) else (if (M x1 1) = 3 then ((m_X1_askSmallMark M x1).bind fun r13 => some ((r13.1, r13.2))) else (if (M x1 1) = 4 then ((m_X1_begin M 23).bind fun r10 => (m_X1_body20 r10 x1).bind fun r11 => (m_X1_askGloveSize r11.2 x1).bind fun r12 => some ((r11.1 - r12.1, r12.2))) else (if (M x1 1) = 5 then ((m_X1_begin M 23).bind fun r7 => (m_X1_body20 r7 x1).bind fun r8 => (m_X1_askGloveSize r8.2 x1).bind fun r9 => some ((r8.1 - r9.1, r9.2))) else ((m_X1_body20 M x1).bind fun r1 => some ((r1.1, r1.2)))))))
set_option maxHeartbeats 4000000 in
set_option maxRecDepth 100000 in
theorem c_X1_askMark (l : Launch) (D : va_G) (cA : cAt) (B : Nat) (aK aV : Nat → Nat) (M : Mem) (x1 : Nat) (k1 : kd x1 = 2) (R : Int32 × Mem) (h : m_X1_askMark M x1 = some R) : CI l D cA B aK aV yX1_askMark cX1_askMark 2 .int 4 [.ref (B + 202), .ref (B + x1)] M R.1 R.2 := by
  refine CI_of (by decide +kernel) (Nat.le_of_ble_eq_true rfl) ?_
  intro p e s m args below meth c C hr hlk
  have C : Cx p (rmd 4) s m args c 0 0 D cA B aK aV cX1_askMark 2 RX1 := C
  generalize hQ : MQ below _ args s 0 0 _ = Q
  refine v_eq (M' := M) (pc' := 0) (L' := [(0, .ref (B + 202)), (1, .ref (B + x1))]) (st' := []) ?_
  unfold m_X1_askMark at h
  refine v_aload_nR (j := 1) C dX1_askMark_0 rfl rfl ?_
  refine gf_X1_20 C k1 dX1_askMark_1 ?_
  by_cases g2 : (M x1 1) = 1
  · replace h := ite_t g2 h
    refine v_tableIn (off := 36) (tgt := 40) C dX1_askMark_4 (by rw [g2]; decide) (by rw [g2]; decide) (by rw [g2] <;> rfl) (by decide) ?_
    refine v_aload_nR (j := 0) C dX1_askMark_40 rfl rfl ?_
    refine v_aload_nR (j := 1) C dX1_askMark_41 rfl rfl ?_
    replace h := bind_ex h; obtain ⟨r15, hr15, h⟩ := h
    refine cv_I C tw_840 tw_109 tw_837 tw_839 tw_64 pd_X1_askSmallMark (Nat.le_of_ble_eq_true rfl) (Nat.le_of_ble_eq_true rfl) (q := 202) (kd_lt ks_202 (by decide)) (sh1 ks_202) rfl (As := [.ref (B + x1)]) (rest := []) rfl rfl (Nat.le_of_ble_eq_true rfl) (c_X1_askSmallMark l D cA B aK aV M x1 k1 r15 hr15) dX1_askMark_42 ?_
    replace h := Option.some.inj h; subst h
    subst hQ
    exact v_iret C hr hlk dX1_askMark_45
  · replace h := ite_f g2 h
    by_cases g3 : (M x1 1) = 2
    · replace h := ite_t g3 h
      refine v_tableIn (off := 36) (tgt := 40) C dX1_askMark_4 (by rw [g3]; decide) (by rw [g3]; decide) (by rw [g3] <;> rfl) (by decide) ?_
      refine v_aload_nR (j := 0) C dX1_askMark_40 rfl rfl ?_
      refine v_aload_nR (j := 1) C dX1_askMark_41 rfl rfl ?_
      replace h := bind_ex h; obtain ⟨r14, hr14, h⟩ := h
      refine cv_I C tw_840 tw_109 tw_837 tw_839 tw_64 pd_X1_askSmallMark (Nat.le_of_ble_eq_true rfl) (Nat.le_of_ble_eq_true rfl) (q := 202) (kd_lt ks_202 (by decide)) (sh1 ks_202) rfl (As := [.ref (B + x1)]) (rest := []) rfl rfl (Nat.le_of_ble_eq_true rfl) (c_X1_askSmallMark l D cA B aK aV M x1 k1 r14 hr14) dX1_askMark_42 ?_
      replace h := Option.some.inj h; subst h
      subst hQ
      exact v_iret C hr hlk dX1_askMark_45
    · replace h := ite_f g3 h
      by_cases g4 : (M x1 1) = 3
      · replace h := ite_t g4 h
        refine v_tableIn (off := 36) (tgt := 40) C dX1_askMark_4 (by rw [g4]; decide) (by rw [g4]; decide) (by rw [g4] <;> rfl) (by decide) ?_
        refine v_aload_nR (j := 0) C dX1_askMark_40 rfl rfl ?_
        refine v_aload_nR (j := 1) C dX1_askMark_41 rfl rfl ?_
        replace h := bind_ex h; obtain ⟨r13, hr13, h⟩ := h
        refine cv_I C tw_840 tw_109 tw_837 tw_839 tw_64 pd_X1_askSmallMark (Nat.le_of_ble_eq_true rfl) (Nat.le_of_ble_eq_true rfl) (q := 202) (kd_lt ks_202 (by decide)) (sh1 ks_202) rfl (As := [.ref (B + x1)]) (rest := []) rfl rfl (Nat.le_of_ble_eq_true rfl) (c_X1_askSmallMark l D cA B aK aV M x1 k1 r13 hr13) dX1_askMark_42 ?_
        replace h := Option.some.inj h; subst h
        subst hQ
        exact v_iret C hr hlk dX1_askMark_45
      · replace h := ite_f g4 h
        by_cases g5 : (M x1 1) = 4
        · replace h := ite_t g5 h
          refine v_tableIn (off := 42) (tgt := 46) C dX1_askMark_4 (by rw [g5]; decide) (by rw [g5]; decide) (by rw [g5] <;> rfl) (by decide) ?_
          refine v_aload_nR (j := 0) C dX1_askMark_46 rfl rfl ?_
          refine v_bipush C dX1_askMark_47 ct_b_23 ?_
          replace h := bind_ex h; obtain ⟨r10, hr10, h⟩ := h
          refine cv_V C tw_832 tw_109 tw_829 tw_831 tw_62 pd_X1_begin (Nat.le_of_ble_eq_true rfl) (Nat.le_of_ble_eq_true rfl) (q := 202) (kd_lt ks_202 (by decide)) (sh1 ks_202) rfl (As := [.int 23]) (rest := []) rfl rfl (Nat.le_of_ble_eq_true rfl) (c_X1_begin l D cA B aK aV M 23 r10 hr10) dX1_askMark_49 ?_
          refine v_aload_nR (j := 0) C dX1_askMark_52 rfl rfl ?_
          refine v_aload_nR (j := 1) C dX1_askMark_53 rfl rfl ?_
          replace h := bind_ex h; obtain ⟨r11, hr11, h⟩ := h
          refine cv_I C tw_848 tw_109 tw_845 tw_847 tw_66 pd_X1_body20 (Nat.le_of_ble_eq_true rfl) (Nat.le_of_ble_eq_true rfl) (q := 202) (kd_lt ks_202 (by decide)) (sh1 ks_202) rfl (As := [.ref (B + x1)]) (rest := []) rfl rfl (Nat.le_of_ble_eq_true rfl) (c_X1_body20 l D cA B aK aV r10 x1 k1 r11 hr11) dX1_askMark_54 ?_
          refine v_pc (pc' := 57) rfl ?_
          refine v_aload_nR (j := 0) C dX1_askMark_57 rfl rfl ?_
          refine v_aload_nR (j := 1) C dX1_askMark_58 rfl rfl ?_
          replace h := bind_ex h; obtain ⟨r12, hr12, h⟩ := h
          refine cv_I C tw_852 tw_109 tw_849 tw_851 tw_67 pd_X1_askGloveSize (Nat.le_of_ble_eq_true rfl) (Nat.le_of_ble_eq_true rfl) (q := 202) (kd_lt ks_202 (by decide)) (sh1 ks_202) rfl (As := [.ref (B + x1)]) (rest := [.int r11.1]) rfl rfl (Nat.le_of_ble_eq_true rfl) (c_X1_askGloveSize l D cA B aK aV r11.2 x1 k1 r12 hr12) dX1_askMark_59 ?_
          refine v_isub C dX1_askMark_62 ?_
          replace h := Option.some.inj h; subst h
          subst hQ
          exact v_iret C hr hlk dX1_askMark_63
        · replace h := ite_f g5 h
          by_cases g6 : (M x1 1) = 5
          · replace h := ite_t g6 h
            refine v_tableIn (off := 42) (tgt := 46) C dX1_askMark_4 (by rw [g6]; decide) (by rw [g6]; decide) (by rw [g6] <;> rfl) (by decide) ?_
            refine v_aload_nR (j := 0) C dX1_askMark_46 rfl rfl ?_
            refine v_bipush C dX1_askMark_47 ct_b_23 ?_
            replace h := bind_ex h; obtain ⟨r7, hr7, h⟩ := h
            refine cv_V C tw_832 tw_109 tw_829 tw_831 tw_62 pd_X1_begin (Nat.le_of_ble_eq_true rfl) (Nat.le_of_ble_eq_true rfl) (q := 202) (kd_lt ks_202 (by decide)) (sh1 ks_202) rfl (As := [.int 23]) (rest := []) rfl rfl (Nat.le_of_ble_eq_true rfl) (c_X1_begin l D cA B aK aV M 23 r7 hr7) dX1_askMark_49 ?_
            refine v_aload_nR (j := 0) C dX1_askMark_52 rfl rfl ?_
            refine v_aload_nR (j := 1) C dX1_askMark_53 rfl rfl ?_
            replace h := bind_ex h; obtain ⟨r8, hr8, h⟩ := h
            refine cv_I C tw_848 tw_109 tw_845 tw_847 tw_66 pd_X1_body20 (Nat.le_of_ble_eq_true rfl) (Nat.le_of_ble_eq_true rfl) (q := 202) (kd_lt ks_202 (by decide)) (sh1 ks_202) rfl (As := [.ref (B + x1)]) (rest := []) rfl rfl (Nat.le_of_ble_eq_true rfl) (c_X1_body20 l D cA B aK aV r7 x1 k1 r8 hr8) dX1_askMark_54 ?_
            refine v_pc (pc' := 57) rfl ?_
            refine v_aload_nR (j := 0) C dX1_askMark_57 rfl rfl ?_
            refine v_aload_nR (j := 1) C dX1_askMark_58 rfl rfl ?_
            replace h := bind_ex h; obtain ⟨r9, hr9, h⟩ := h
            refine cv_I C tw_852 tw_109 tw_849 tw_851 tw_67 pd_X1_askGloveSize (Nat.le_of_ble_eq_true rfl) (Nat.le_of_ble_eq_true rfl) (q := 202) (kd_lt ks_202 (by decide)) (sh1 ks_202) rfl (As := [.ref (B + x1)]) (rest := [.int r8.1]) rfl rfl (Nat.le_of_ble_eq_true rfl) (c_X1_askGloveSize l D cA B aK aV r8.2 x1 k1 r9 hr9) dX1_askMark_59 ?_
            refine v_isub C dX1_askMark_62 ?_
            replace h := Option.some.inj h; subst h
            subst hQ
            exact v_iret C hr hlk dX1_askMark_63
          · replace h := ite_f g6 h
            refine v_tableOut (tgt := 64) C dX1_askMark_4 (by have t0 := sw_ne (k := 1) g2; have t1 := sw_ne (k := 2) g3; have t2 := sw_ne (k := 3) g4; have t3 := sw_ne (k := 4) g5; have t4 := sw_ne (k := 5) g6; have u0 : (1 : Int32).toInt = 1 := (by decide); have u1 : (2 : Int32).toInt = 2 := (by decide); have u2 : (3 : Int32).toInt = 3 := (by decide); have u3 : (4 : Int32).toInt = 4 := (by decide); have u4 : (5 : Int32).toInt = 5 := (by decide); omega) (by decide) ?_
            refine v_aload_nR (j := 0) C dX1_askMark_64 rfl rfl ?_
            refine v_aload_nR (j := 1) C dX1_askMark_65 rfl rfl ?_
            replace h := bind_ex h; obtain ⟨r1, hr1, h⟩ := h
            refine cv_I C tw_848 tw_109 tw_845 tw_847 tw_66 pd_X1_body20 (Nat.le_of_ble_eq_true rfl) (Nat.le_of_ble_eq_true rfl) (q := 202) (kd_lt ks_202 (by decide)) (sh1 ks_202) rfl (As := [.ref (B + x1)]) (rest := []) rfl rfl (Nat.le_of_ble_eq_true rfl) (c_X1_body20 l D cA B aK aV M x1 k1 r1 hr1) dX1_askMark_66 ?_
            replace h := Option.some.inj h; subst h
            subst hQ
            exact v_iret C hr hlk dX1_askMark_69
def m_X2_might (M : Mem) (x0 : Nat) : Option Int32 :=
  if (M x0 1) = 2 then (some (2 * (M x0 2))) else (some (M x0 2))
set_option maxHeartbeats 4000000 in
set_option maxRecDepth 100000 in
theorem c_X2_might (l : Launch) (D : va_G) (cA : cAt) (B : Nat) (aK aV : Nat → Nat) (M : Mem) (x0 : Nat) (k0 : kd x0 = 2) (R : Int32) (h : m_X2_might M x0 = some R) : CI l D cA B aK aV yX2_might cX2_might 1 .int 0 [.ref (B + x0)] M R M := by
  refine CI_of (by decide +kernel) (Nat.le_of_ble_eq_true rfl) ?_
  intro p e s m args below meth c C hr hlk
  have C : Cx p (rmd 0) s m args c 0 0 D cA B aK aV cX2_might 1 RX2 := C
  generalize hQ : MQ below _ args s 0 0 _ = Q
  refine v_eq (M' := M) (pc' := 0) (L' := [(0, .ref (B + x0))]) (st' := []) ?_
  unfold m_X2_might at h
  refine v_aload_nR (j := 0) C dX2_might_0 rfl rfl ?_
  refine gf_X2_15 C k0 dX2_might_1 ?_
  refine v_iconst C dX2_might_4 ct_i_2 ?_
  refine v_icmp_ne (tgt := 17) C dX2_might_5 (by decide) (fun g => ?_) (fun g => ?_)
  · replace h := ite_t g h
    refine v_iconst C dX2_might_8 ct_i_2 ?_
    refine v_aload_nR (j := 0) C dX2_might_9 rfl rfl ?_
    refine v_pc (pc' := 10) rfl ?_
    refine gf_X2_18 C k0 dX2_might_10 ?_
    refine v_imul C dX2_might_13 ?_
    refine v_goto (tgt := 21) C dX2_might_14 (by decide) ?_
    replace h := Option.some.inj h; subst h
    subst hQ
    exact v_iret C hr hlk dX2_might_21
  · replace h := ite_f g h
    refine v_aload_nR (j := 0) C dX2_might_17 rfl rfl ?_
    refine gf_X2_18 C k0 dX2_might_18 ?_
    replace h := Option.some.inj h; subst h
    subst hQ
    exact v_iret C hr hlk dX2_might_21
def m_X2_isOne (M : Mem) (x0 : Nat) (x1 : Int32) : Option Int32 :=
  if x1 = 0 then (some 1) else (if x1 = 1 then (if (M x0 1) = 1 then (some 1) else (if (M x0 1) = 2 then (some 1) else (if (M x0 1) = 3 then (some 1) else (some 0)))) else (if x1 = 2 then (if (M x0 1) = x1 then (some 1) else (some 0)) else (if x1 = 3 then (if (M x0 1) = x1 then (some 1) else (some 0)) else (if x1 = 4 then (if (M x0 1) = 4 then (some 1) else (if (M x0 1) = 5 then (some 1) else (some 0))) else (if (M x0 1) = x1 then (some 1) else (some 0))))))
set_option maxHeartbeats 4000000 in
set_option maxRecDepth 100000 in
theorem c_X2_isOne (l : Launch) (D : va_G) (cA : cAt) (B : Nat) (aK aV : Nat → Nat) (M : Mem) (x0 : Nat) (x1 : Int32) (k0 : kd x0 = 2) (R : Int32) (h : m_X2_isOne M x0 x1 = some R) : CI l D cA B aK aV yX2_isOne cX2_isOne 2 .boolean 0 [.ref (B + x0), .int x1] M R M := by
  refine CI_of (by decide +kernel) (Nat.le_of_ble_eq_true rfl) ?_
  intro p e s m args below meth c C hr hlk
  have C : Cx p (rmd 0) s m args c 0 0 D cA B aK aV cX2_isOne 2 RX2 := C
  generalize hQ : MQ below _ args s 0 0 _ = Q
  refine v_eq (M' := M) (pc' := 0) (L' := [(0, .ref (B + x0)), (1, .int x1)]) (st' := []) ?_
  unfold m_X2_isOne at h
  refine v_iload_n (j := 1) C dX2_isOne_0 rfl rfl ?_
  by_cases g1 : x1 = 0
  · replace h := ite_t g1 h
    refine v_tableIn (off := 35) (tgt := 36) C dX2_isOne_1 (by rw [g1]; decide) (by rw [g1]; decide) (by rw [g1] <;> rfl) (by decide) ?_
    refine v_iconst C dX2_isOne_36 ct_i_1 ?_
    replace h := Option.some.inj h; subst h
    subst hQ
    exact v_zret C hr hlk (show narrow .boolean (.int 1) = .int 1 from rfl) dX2_isOne_37
  · replace h := ite_f g1 h
    by_cases g2 : x1 = 1
    · replace h := ite_t g2 h
      refine v_tableIn (off := 37) (tgt := 38) C dX2_isOne_1 (by rw [g2]; decide) (by rw [g2]; decide) (by rw [g2] <;> rfl) (by decide) ?_
      refine v_aload_nR (j := 0) C dX2_isOne_38 rfl rfl ?_
      refine gf_X2_15 C k0 dX2_isOne_39 ?_
      refine v_iconst C dX2_isOne_42 ct_i_1 ?_
      refine v_icmp_eq (tgt := 62) C dX2_isOne_43 (by decide) (fun g => ?_) (fun g => ?_)
      · replace h := ite_t g h
        refine v_iconst C dX2_isOne_62 ct_i_1 ?_
        refine v_goto (tgt := 67) C dX2_isOne_63 (by decide) ?_
        replace h := Option.some.inj h; subst h
        subst hQ
        exact v_zret C hr hlk (show narrow .boolean (.int 1) = .int 1 from rfl) dX2_isOne_67
      · replace h := ite_f g h
        refine v_aload_nR (j := 0) C dX2_isOne_46 rfl rfl ?_
        refine gf_X2_15 C k0 dX2_isOne_47 ?_
        refine v_pc (pc' := 50) rfl ?_
        refine v_iconst C dX2_isOne_50 ct_i_2 ?_
        refine v_icmp_eq (tgt := 62) C dX2_isOne_51 (by decide) (fun g => ?_) (fun g => ?_)
        · replace h := ite_t g h
          refine v_iconst C dX2_isOne_62 ct_i_1 ?_
          refine v_goto (tgt := 67) C dX2_isOne_63 (by decide) ?_
          replace h := Option.some.inj h; subst h
          subst hQ
          exact v_zret C hr hlk (show narrow .boolean (.int 1) = .int 1 from rfl) dX2_isOne_67
        · replace h := ite_f g h
          refine v_aload_nR (j := 0) C dX2_isOne_54 rfl rfl ?_
          refine gf_X2_15 C k0 dX2_isOne_55 ?_
          refine v_iconst C dX2_isOne_58 ct_i_3 ?_
          refine v_icmp_ne (tgt := 66) C dX2_isOne_59 (by decide) (fun g => ?_) (fun g => ?_)
          · replace h := ite_t g h
            refine v_iconst C dX2_isOne_62 ct_i_1 ?_
            refine v_pc (pc' := 63) rfl ?_
            refine v_goto (tgt := 67) C dX2_isOne_63 (by decide) ?_
            replace h := Option.some.inj h; subst h
            subst hQ
            exact v_zret C hr hlk (show narrow .boolean (.int 1) = .int 1 from rfl) dX2_isOne_67
          · replace h := ite_f g h
            refine v_iconst C dX2_isOne_66 ct_i_0 ?_
            replace h := Option.some.inj h; subst h
            subst hQ
            exact v_zret C hr hlk (show narrow .boolean (.int 0) = .int 0 from rfl) dX2_isOne_67
    · replace h := ite_f g2 h
      by_cases g3 : x1 = 2
      · replace h := ite_t g3 h
        refine v_tableIn (off := 89) (tgt := 90) C dX2_isOne_1 (by rw [g3]; decide) (by rw [g3]; decide) (by rw [g3] <;> rfl) (by decide) ?_
        refine v_aload_nR (j := 0) C dX2_isOne_90 rfl rfl ?_
        refine gf_X2_15 C k0 dX2_isOne_91 ?_
        refine v_iload_n (j := 1) C dX2_isOne_94 rfl rfl ?_
        refine v_icmp_ne (tgt := 102) C dX2_isOne_95 (by decide) (fun g => ?_) (fun g => ?_)
        · replace h := ite_t g h
          refine v_iconst C dX2_isOne_98 ct_i_1 ?_
          refine v_goto (tgt := 103) C dX2_isOne_99 (by decide) ?_
          replace h := Option.some.inj h; subst h
          subst hQ
          exact v_zret C hr hlk (show narrow .boolean (.int 1) = .int 1 from rfl) dX2_isOne_103
        · replace h := ite_f g h
          refine v_iconst C dX2_isOne_102 ct_i_0 ?_
          replace h := Option.some.inj h; subst h
          subst hQ
          exact v_zret C hr hlk (show narrow .boolean (.int 0) = .int 0 from rfl) dX2_isOne_103
      · replace h := ite_f g3 h
        by_cases g4 : x1 = 3
        · replace h := ite_t g4 h
          refine v_tableIn (off := 89) (tgt := 90) C dX2_isOne_1 (by rw [g4]; decide) (by rw [g4]; decide) (by rw [g4] <;> rfl) (by decide) ?_
          refine v_aload_nR (j := 0) C dX2_isOne_90 rfl rfl ?_
          refine gf_X2_15 C k0 dX2_isOne_91 ?_
          refine v_iload_n (j := 1) C dX2_isOne_94 rfl rfl ?_
          refine v_icmp_ne (tgt := 102) C dX2_isOne_95 (by decide) (fun g => ?_) (fun g => ?_)
          · replace h := ite_t g h
            refine v_iconst C dX2_isOne_98 ct_i_1 ?_
            refine v_goto (tgt := 103) C dX2_isOne_99 (by decide) ?_
            replace h := Option.some.inj h; subst h
            subst hQ
            exact v_zret C hr hlk (show narrow .boolean (.int 1) = .int 1 from rfl) dX2_isOne_103
          · replace h := ite_f g h
            refine v_iconst C dX2_isOne_102 ct_i_0 ?_
            replace h := Option.some.inj h; subst h
            subst hQ
            exact v_zret C hr hlk (show narrow .boolean (.int 0) = .int 0 from rfl) dX2_isOne_103
        · replace h := ite_f g4 h
          by_cases g5 : x1 = 4
          · replace h := ite_t g5 h
            refine v_tableIn (off := 67) (tgt := 68) C dX2_isOne_1 (by rw [g5]; decide) (by rw [g5]; decide) (by rw [g5] <;> rfl) (by decide) ?_
            refine v_aload_nR (j := 0) C dX2_isOne_68 rfl rfl ?_
            refine gf_X2_15 C k0 dX2_isOne_69 ?_
            refine v_iconst C dX2_isOne_72 ct_i_4 ?_
            refine v_icmp_eq (tgt := 84) C dX2_isOne_73 (by decide) (fun g => ?_) (fun g => ?_)
            · replace h := ite_t g h
              refine v_iconst C dX2_isOne_84 ct_i_1 ?_
              refine v_goto (tgt := 89) C dX2_isOne_85 (by decide) ?_
              replace h := Option.some.inj h; subst h
              subst hQ
              exact v_zret C hr hlk (show narrow .boolean (.int 1) = .int 1 from rfl) dX2_isOne_89
            · replace h := ite_f g h
              refine v_aload_nR (j := 0) C dX2_isOne_76 rfl rfl ?_
              refine gf_X2_15 C k0 dX2_isOne_77 ?_
              refine v_pc (pc' := 80) rfl ?_
              refine v_iconst C dX2_isOne_80 ct_i_5 ?_
              refine v_icmp_ne (tgt := 88) C dX2_isOne_81 (by decide) (fun g => ?_) (fun g => ?_)
              · replace h := ite_t g h
                refine v_iconst C dX2_isOne_84 ct_i_1 ?_
                refine v_goto (tgt := 89) C dX2_isOne_85 (by decide) ?_
                replace h := Option.some.inj h; subst h
                subst hQ
                exact v_zret C hr hlk (show narrow .boolean (.int 1) = .int 1 from rfl) dX2_isOne_89
              · replace h := ite_f g h
                refine v_iconst C dX2_isOne_88 ct_i_0 ?_
                replace h := Option.some.inj h; subst h
                subst hQ
                exact v_zret C hr hlk (show narrow .boolean (.int 0) = .int 0 from rfl) dX2_isOne_89
          · replace h := ite_f g5 h
            refine v_tableOut (tgt := 90) C dX2_isOne_1 (by have t0 := sw_ne (k := 0) g1; have t1 := sw_ne (k := 1) g2; have t2 := sw_ne (k := 2) g3; have t3 := sw_ne (k := 3) g4; have t4 := sw_ne (k := 4) g5; have u0 : (0 : Int32).toInt = 0 := (by decide); have u1 : (1 : Int32).toInt = 1 := (by decide); have u2 : (2 : Int32).toInt = 2 := (by decide); have u3 : (3 : Int32).toInt = 3 := (by decide); have u4 : (4 : Int32).toInt = 4 := (by decide); omega) (by decide) ?_
            refine v_aload_nR (j := 0) C dX2_isOne_90 rfl rfl ?_
            refine gf_X2_15 C k0 dX2_isOne_91 ?_
            refine v_iload_n (j := 1) C dX2_isOne_94 rfl rfl ?_
            refine v_icmp_ne (tgt := 102) C dX2_isOne_95 (by decide) (fun g => ?_) (fun g => ?_)
            · replace h := ite_t g h
              refine v_iconst C dX2_isOne_98 ct_i_1 ?_
              refine v_goto (tgt := 103) C dX2_isOne_99 (by decide) ?_
              replace h := Option.some.inj h; subst h
              subst hQ
              exact v_zret C hr hlk (show narrow .boolean (.int 1) = .int 1 from rfl) dX2_isOne_103
            · replace h := ite_f g h
              refine v_iconst C dX2_isOne_102 ct_i_0 ?_
              replace h := Option.some.inj h; subst h
              subst hQ
              exact v_zret C hr hlk (show narrow .boolean (.int 0) = .int 0 from rfl) dX2_isOne_103
def m_X2_powerBy (M : Mem) (x0 : Nat) (x1 : Int32) (x2 : Int32) : Option Int32 :=
  if (M x0 1) = 3 then (if x1 = 0 then (some (if (((M x0 2) * 2) - x2) < 0 then 0 else (((M x0 2) * 2) - x2))) else (some 0)) else (if (M x0 1) = 4 then (some (if ((M x0 2) * (2 - x1)) < 0 then 0 else ((M x0 2) * (2 - x1)))) else (if (M x0 1) = 5 then (some (if ((M x0 2) * (3 - x1)) < 0 then 0 else ((M x0 2) * (3 - x1)))) else ((m_X2_might M x0).bind fun r1 => some (if ((r1 * (2 - x1)) - x2) < 0 then 0 else ((r1 * (2 - x1)) - x2)))))
set_option maxHeartbeats 4000000 in
set_option maxRecDepth 100000 in
theorem c_X2_powerBy (l : Launch) (D : va_G) (cA : cAt) (B : Nat) (aK aV : Nat → Nat) (M : Mem) (x0 : Nat) (x1 : Int32) (x2 : Int32) (k0 : kd x0 = 2) (R : Int32) (h : m_X2_powerBy M x0 x1 x2 = some R) : CI l D cA B aK aV yX2_powerBy cX2_powerBy 3 .int 1 [.ref (B + x0), .int x1, .int x2] M R M := by
  refine CI_of (by decide +kernel) (Nat.le_of_ble_eq_true rfl) ?_
  intro p e s m args below meth c C hr hlk
  have C : Cx p (rmd 1) s m args c 0 0 D cA B aK aV cX2_powerBy 3 RX2 := C
  generalize hQ : MQ below _ args s 0 0 _ = Q
  refine v_eq (M' := M) (pc' := 0) (L' := [(0, .ref (B + x0)), (1, .int x1), (2, .int x2)]) (st' := []) ?_
  unfold m_X2_powerBy at h
  refine v_aload_nR (j := 0) C dX2_powerBy_0 rfl rfl ?_
  refine gf_X2_15 C k0 dX2_powerBy_1 ?_
  by_cases g2 : (M x0 1) = 3
  · replace h := ite_t g2 h
    refine v_tableIn (off := 54) (tgt := 58) C dX2_powerBy_4 (by rw [g2]; decide) (by rw [g2]; decide) (by rw [g2] <;> rfl) (by decide) ?_
    refine v_iload_n (j := 1) C dX2_powerBy_58 rfl rfl ?_
    refine v_if_ne (tgt := 77) C dX2_powerBy_59 (by decide) (fun g => ?_) (fun g => ?_)
    · replace h := ite_t g h
      refine v_aload_nR (j := 0) C dX2_powerBy_62 rfl rfl ?_
      refine gf_X2_18 C k0 dX2_powerBy_63 ?_
      refine v_iconst C dX2_powerBy_66 ct_i_2 ?_
      refine v_imul C dX2_powerBy_67 ?_
      refine v_pc (pc' := 68) rfl ?_
      refine v_iload_n (j := 2) C dX2_powerBy_68 rfl rfl ?_
      refine v_isub C dX2_powerBy_69 ?_
      refine v_iconst C dX2_powerBy_70 ct_i_0 ?_
      refine v_mmax C tw_629 tw_566 tw_118 tw_567 (Nat.le_of_ble_eq_true rfl) (Nat.le_of_ble_eq_true rfl) dX2_powerBy_71 ?_
      refine v_goto (tgt := 78) C dX2_powerBy_74 (by decide) ?_
      replace h := Option.some.inj h; subst h
      subst hQ
      exact v_iret C hr hlk dX2_powerBy_78
    · replace h := ite_f g h
      refine v_iconst C dX2_powerBy_77 ct_i_0 ?_
      replace h := Option.some.inj h; subst h
      subst hQ
      exact v_iret C hr hlk dX2_powerBy_78
  · replace h := ite_f g2 h
    by_cases g3 : (M x0 1) = 4
    · replace h := ite_t g3 h
      refine v_tableIn (off := 41) (tgt := 45) C dX2_powerBy_4 (by rw [g3]; decide) (by rw [g3]; decide) (by rw [g3] <;> rfl) (by decide) ?_
      refine v_aload_nR (j := 0) C dX2_powerBy_45 rfl rfl ?_
      refine gf_X2_18 C k0 dX2_powerBy_46 ?_
      refine v_iconst C dX2_powerBy_49 ct_i_2 ?_
      refine v_iload_n (j := 1) C dX2_powerBy_50 rfl rfl ?_
      refine v_isub C dX2_powerBy_51 ?_
      refine v_imul C dX2_powerBy_52 ?_
      refine v_pc (pc' := 53) rfl ?_
      refine v_iconst C dX2_powerBy_53 ct_i_0 ?_
      refine v_mmax C tw_629 tw_566 tw_118 tw_567 (Nat.le_of_ble_eq_true rfl) (Nat.le_of_ble_eq_true rfl) dX2_powerBy_54 ?_
      replace h := Option.some.inj h; subst h
      subst hQ
      exact v_iret C hr hlk dX2_powerBy_57
    · replace h := ite_f g3 h
      by_cases g4 : (M x0 1) = 5
      · replace h := ite_t g4 h
        refine v_tableIn (off := 28) (tgt := 32) C dX2_powerBy_4 (by rw [g4]; decide) (by rw [g4]; decide) (by rw [g4] <;> rfl) (by decide) ?_
        refine v_aload_nR (j := 0) C dX2_powerBy_32 rfl rfl ?_
        refine gf_X2_18 C k0 dX2_powerBy_33 ?_
        refine v_iconst C dX2_powerBy_36 ct_i_3 ?_
        refine v_iload_n (j := 1) C dX2_powerBy_37 rfl rfl ?_
        refine v_isub C dX2_powerBy_38 ?_
        refine v_imul C dX2_powerBy_39 ?_
        refine v_pc (pc' := 40) rfl ?_
        refine v_iconst C dX2_powerBy_40 ct_i_0 ?_
        refine v_mmax C tw_629 tw_566 tw_118 tw_567 (Nat.le_of_ble_eq_true rfl) (Nat.le_of_ble_eq_true rfl) dX2_powerBy_41 ?_
        replace h := Option.some.inj h; subst h
        subst hQ
        exact v_iret C hr hlk dX2_powerBy_44
      · replace h := ite_f g4 h
        refine v_tableOut (tgt := 79) C dX2_powerBy_4 (by have t0 := sw_ne (k := 3) g2; have t1 := sw_ne (k := 4) g3; have t2 := sw_ne (k := 5) g4; have u0 : (3 : Int32).toInt = 3 := (by decide); have u1 : (4 : Int32).toInt = 4 := (by decide); have u2 : (5 : Int32).toInt = 5 := (by decide); omega) (by decide) ?_
        refine v_aload_nR (j := 0) C dX2_powerBy_79 rfl rfl ?_
        replace h := bind_ex h; obtain ⟨r1, hr1, h⟩ := h
        refine cv_I C tw_633 tw_106 tw_630 tw_632 tw_40 pd_X2_might (Nat.le_of_ble_eq_true rfl) (Nat.le_of_ble_eq_true rfl) (q := x0) (kd_lt k0 (by decide)) (sh2 k0) rfl (As := []) (rest := []) rfl rfl (Nat.le_of_ble_eq_true rfl) (c_X2_might l D cA B aK aV M x0 k0 r1 hr1) dX2_powerBy_80 ?_
        refine v_iconst C dX2_powerBy_83 ct_i_2 ?_
        refine v_iload_n (j := 1) C dX2_powerBy_84 rfl rfl ?_
        refine v_isub C dX2_powerBy_85 ?_
        refine v_imul C dX2_powerBy_86 ?_
        refine v_pc (pc' := 87) rfl ?_
        refine v_iload_n (j := 2) C dX2_powerBy_87 rfl rfl ?_
        refine v_isub C dX2_powerBy_88 ?_
        refine v_iconst C dX2_powerBy_89 ct_i_0 ?_
        refine v_mmax C tw_629 tw_566 tw_118 tw_567 (Nat.le_of_ble_eq_true rfl) (Nat.le_of_ble_eq_true rfl) dX2_powerBy_90 ?_
        replace h := Option.some.inj h; subst h
        subst hQ
        exact v_iret C hr hlk dX2_powerBy_93
def m_X3_add (M : Mem) (x1 : Int32) : Option Mem :=
  if (M 196 1) < 0 then (some M) else (if 20 ≤ (M 196 1) then (some M) else (chk (inB (M 196 1) 20) (nm (mset M 197 (M 196 1).toNatClampNeg x1) fun M2 => nm (mset M2 196 1 ((M2 196 1) + 1)) fun M3 => some M3)))
set_option maxHeartbeats 4000000 in
set_option maxRecDepth 100000 in
theorem c_X3_add (l : Launch) (D : va_G) (cA : cAt) (B : Nat) (aK aV : Nat → Nat) (M : Mem) (x1 : Int32) (R : Mem) (h : m_X3_add M x1 = some R) : CV l D cA B aK aV yX3_add cX3_add 2 0 [.ref (B + 196), .int x1] M R := by
  refine CV_of (by decide +kernel) (Nat.le_of_ble_eq_true rfl) ?_
  intro p e s m args below meth c C hr hlk
  have C : Cx p (rmd 0) s m args c 0 0 D cA B aK aV cX3_add 2 RX3 := C
  generalize hQ : MQ below _ args s 0 0 _ = Q
  refine v_eq (M' := M) (pc' := 0) (L' := [(0, .ref (B + 196)), (1, .int x1)]) (st' := []) ?_
  unfold m_X3_add at h
  refine v_aload_nR (j := 0) C dX3_add_0 rfl rfl ?_
  refine gf_X3_15 C ks_196 dX3_add_1 ?_
  refine v_if_lt (tgt := 39) C dX3_add_4 (by decide) (fun g => ?_) (fun g => ?_)
  · replace h := ite_t g h
    replace h := Option.some.inj h; subst h
    subst hQ
    exact v_vret C hr hlk dX3_add_39
  · replace h := ite_f g h
    refine v_aload_nR (j := 0) C dX3_add_7 rfl rfl ?_
    refine gf_X3_15 C ks_196 dX3_add_8 ?_
    refine v_aload_nR (j := 0) C dX3_add_11 rfl rfl ?_
    refine v_pc (pc' := 12) rfl ?_
    refine gf_X3_9 C ks_196 dX3_add_12 ?_
    refine v_alen9 (v := 20) C ks_197 rfl dX3_add_15 ?_
    refine v_icmp_ge (tgt := 39) C dX3_add_16 (by decide) (fun g => ?_) (fun g => ?_)
    · replace h := ite_t g h
      replace h := Option.some.inj h; subst h
      subst hQ
      exact v_vret C hr hlk dX3_add_39
    · replace h := ite_f g h
      refine v_aload_nR (j := 0) C dX3_add_19 rfl rfl ?_
      refine gf_X3_9 C ks_196 dX3_add_20 ?_
      refine v_aload_nR (j := 0) C dX3_add_23 rfl rfl ?_
      refine gf_X3_15 C ks_196 dX3_add_24 ?_
      refine v_pc (pc' := 27) rfl ?_
      refine v_iload_n (j := 1) C dX3_add_27 rfl rfl ?_
      replace h := chk_some h; obtain ⟨g1, h⟩ := h
      replace h := nm_ex h; obtain ⟨M2, eM2, h⟩ := h
      refine v_iast C ks_197 (inB_vp g1) dX3_add_28 ?_
      refine v_mem eM2 ?_
      refine v_aload_nR (j := 0) C dX3_add_29 rfl rfl ?_
      refine v_dup C dX3_add_30 rfl ?_
      refine gf_X3_15 C ks_196 dX3_add_31 ?_
      refine v_iconst C dX3_add_34 ct_i_1 ?_
      refine v_iadd C dX3_add_35 ?_
      refine v_pc (pc' := 36) rfl ?_
      replace h := nm_ex h; obtain ⟨M3, eM3, h⟩ := h
      refine pf_X3_15 C ks_196 dX3_add_36 ?_
      refine v_mem eM3 ?_
      replace h := Option.some.inj h; subst h
      subst hQ
      exact v_vret C hr hlk dX3_add_39
