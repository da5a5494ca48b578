theorem sLen_small : ∀ i, i < 8 → sLen.getD i 0 < 2 ^ 31 := by decide +kernel
theorem sCh_all : ∀ i, i < 8 → ∀ j, j < 5 → j < sLen.getD i 0 → ((((sByt.getD i []).getD j 0) &&& 255).toUInt32 % 65536).toInt32 = (sByt.getD i []).getD j 0 ∧ narrow .char (.int ((sByt.getD i []).getD j 0)) = .int ((sByt.getD i []).getD j 0) := by decide +kernel
theorem sLen_5 : ∀ i, i < 8 → sLen.getD i 0 ≤ 5 := by decide +kernel
theorem sCh_k (i : Nat) (hi : i < 8) (k : Int32) (hk : vp_in k (sLen.getD i 0)) : k.toNatClampNeg < sLen.getD i 0 := by
  obtain ⟨j, hj, rfl⟩ := vp_in_of hk (sLen_small i hi)
  have h5 := sLen_5 i hi
  rw [nI_clamp (by omega)]
  exact hj
theorem sCh_char (i : Nat) (hi : i < 8) (k : Int32) (hk : vp_in k (sLen.getD i 0)) : ((((sByt.getD i []).getD k.toNatClampNeg 0) &&& 255).toUInt32 % 65536).toInt32 = sChI i k :=
  (sCh_all i hi _ (Nat.lt_of_lt_of_le (sCh_k i hi k hk) (sLen_5 i hi)) (sCh_k i hi k hk)).1
theorem sCh_nar (i : Nat) (hi : i < 8) (k : Int32) (hk : vp_in k (sLen.getD i 0)) : narrow .char (.int (sChI i k)) = .int (sChI i k) :=
  (sCh_all i hi _ (Nat.lt_of_lt_of_le (sCh_k i hi k hk) (sLen_5 i hi)) (sCh_k i hi k hk)).2
section VSTRG
variable {p : Program} {l : Launch} {e : Env} {R : Room} {s : State} {m : MethodId} {args : Array Value} {below : List Frame} {meth : Method} {c : Code} {kc ks : Nat} {D : va_G} {cA : cAt} {B : Nat} {aK aV : Nat → Nat} {nL : Nat} {Q : State → Prop} {M : Mem} {pc : Nat} {L : List (Nat × Value)} {st : List Value} {cc : ByteArray} {own : String}
theorem v_gets (C : Cx p R s m args c kc ks D cA B aK aV cc nL own) {Cn n d : String} {idx : Nat} {v : Value} (hZ : va_Z Cn n d v (fun q => B ≤ q) s s.heap) (hlink : Cond.fieldLink own idx Cn n d ∈ TG) (hdg : decode cc pc = .ok (.getstatic idx, 3)) (k : V p l e R s m args below meth c kc ks D cA B nL Q M (pc + 3) L (v :: st)) : V p l e R s m args below meth c kc ks D cA B nL Q M pc L st := fun H locs ls h1 h2 h3 => va_gets C.1 C.2.1 hZ h2 C.2.2.2.1 (C.2.2.2.2.1 _ hlink) (fun _ h => h) hdg (k H locs ls h1 h2 h3)
theorem v_sget (C : Cx p R s m args c kc ks D cA B aK aV cc nL own) {n d : String} {idx q : Nat} {v : Value} (hE : va_OF "java/lang/String" n d v q (fun q => B ≤ q) s s.heap) (hlink : Cond.fieldLink own idx "java/lang/String" n d ∈ TG) (hdg : decode cc pc = .ok (.getfield idx, 3)) (k : V p l e R s m args below meth c kc ks D cA B nL Q M (pc + 3) L (v :: st)) : V p l e R s m args below meth c kc ks D cA B nL Q M pc L (.ref q :: st) := fun H locs ls h1 h2 h3 => vk_getf C.1 C.2.1 hE h2 C.2.2.2.1 (C.2.2.2.2.1 _ hlink) (fun _ h => h) hdg (k H locs ls h1 h2 h3)
theorem v_tlen (C : Cx p R s m args c kc ks D cA B aK aV cc nL own) {t N : Nat} {ty : FieldType} {f : Nat → Value} (hT : va_T ty t N f (fun q => B ≤ q) s s.heap) (hdg : decode cc pc = .ok (.arraylength, 1)) (k : V p l e R s m args below meth c kc ks D cA B nL Q M (pc + 1) L (.int (Int32.ofNat N) :: st)) : V p l e R s m args below meth c kc ks D cA B nL Q M pc L (.ref t :: st) := fun H locs ls h1 h2 h3 => va_tlen C.1 C.2.1 hT h2 rfl hdg (k H locs ls h1 h2 h3)
theorem v_tb (C : Cx p R s m args c kc ks D cA B aK aV cc nL own) {t N : Nat} {f : Nat → Value} (hT : va_T .byte t N f (fun q => B ≤ q) s s.heap) {i : Int32} (hin : vp_in i N) {v : Value} (hv : f i.toNatClampNeg = v) (hdg : decode cc pc = .ok (.baload, 1)) (k : V p l e R s m args below meth c kc ks D cA B nL Q M (pc + 1) L (v :: st)) : V p l e R s m args below meth c kc ks D cA B nL Q M pc L (.int i :: .ref t :: st) := fun H locs ls h1 h2 h3 => va_tb C.1 C.2.1 hT h2 hin hv hdg (k H locs ls h1 h2 h3)
end VSTRG
set_option maxHeartbeats 4000000 in
set_option maxRecDepth 100000 in
theorem c_strcoder (l : Launch) (D : va_G) (cA : cAt) (B : Nat) (aK aV : Nat → Nat) (M : Mem) (i : Nat) (hi : i < 8) : CI l D cA B aK aV yJ0_coder_7d493 cJ0_coder_7d493 1 .byte 0 [.ref (aK i)] M 0 M := by
  refine CI_of (by decide +kernel) (Nat.le_of_ble_eq_true rfl) ?_
  intro p e s m args below meth c C hr hlk
  have C : Cx p (rmd 0) s m args c 0 0 D cA B aK aV cJ0_coder_7d493 1 RJ0 := C
  refine v_eq (M' := M) (pc' := 0) (L' := [(0, .ref (aK i))]) (st' := []) ?_
  refine v_gets C (C.2.2.2.2.2.1.2.2.2.2.1) tw_451 dJ0_coder_7d493_0 ?_
  refine v_if_eq (tgt := 13) C dJ0_coder_7d493_3 (by decide) (fun g => absurd g (by decide)) (fun g => ?_)
  refine v_aload_nR (j := 0) C dJ0_coder_7d493_6 rfl rfl ?_
  refine v_sget C (C.2.2.2.2.2.1.2.2.1.1 i hi).2.1 tw_1274 dJ0_coder_7d493_7 ?_
  refine v_goto (tgt := 14) C dJ0_coder_7d493_10 (by decide) ?_
  exact v_zret C hr hlk rfl dJ0_coder_7d493_14
set_option maxHeartbeats 4000000 in
set_option maxRecDepth 100000 in
theorem c_strlat (l : Launch) (D : va_G) (cA : cAt) (B : Nat) (aK aV : Nat → Nat) (M : Mem) (i : Nat) (hi : i < 8) : CI l D cA B aK aV yJ0_isLatin1_aae02 cJ0_isLatin1_aae02 1 .boolean 0 [.ref (aK i)] M 1 M := by
  refine CI_of (by decide +kernel) (Nat.le_of_ble_eq_true rfl) ?_
  intro p e s m args below meth c C hr hlk
  have C : Cx p (rmd 0) s m args c 0 0 D cA B aK aV cJ0_isLatin1_aae02 1 RJ0 := C
  refine v_eq (M' := M) (pc' := 0) (L' := [(0, .ref (aK i))]) (st' := []) ?_
  refine v_gets C (C.2.2.2.2.2.1.2.2.2.2.1) tw_451 dJ0_isLatin1_aae02_0 ?_
  refine v_if_eq (tgt := 17) C dJ0_isLatin1_aae02_3 (by decide) (fun g => absurd g (by decide)) (fun g => ?_)
  refine v_aload_nR (j := 0) C dJ0_isLatin1_aae02_6 rfl rfl ?_
  refine v_sget C (C.2.2.2.2.2.1.2.2.1.1 i hi).2.1 tw_1274 dJ0_isLatin1_aae02_7 ?_
  refine v_if_ne (tgt := 17) C dJ0_isLatin1_aae02_10 (by decide) (fun g => ?_) (fun g => absurd rfl g)
  refine v_iconst (v := 1) C dJ0_isLatin1_aae02_13 (by decide) ?_
  refine v_goto (tgt := 18) C dJ0_isLatin1_aae02_14 (by decide) ?_
  exact v_zret C hr hlk rfl dJ0_isLatin1_aae02_18
set_option maxHeartbeats 4000000 in
set_option maxRecDepth 100000 in
theorem c_strlen (l : Launch) (D : va_G) (cA : cAt) (B : Nat) (aK aV : Nat → Nat) (M : Mem) (i : Nat) (hi : i < 8) : CI l D cA B aK aV yJ0_length_8abf5 cJ0_length_8abf5 1 .int 1 [.ref (aK i)] M (sLenI i) M := by
  refine CI_of (by decide +kernel) (Nat.le_of_ble_eq_true rfl) ?_
  intro p e s m args below meth c C hr hlk
  have C : Cx p (rmd 1) s m args c 0 0 D cA B aK aV cJ0_length_8abf5 1 RJ0 := C
  refine v_eq (M' := M) (pc' := 0) (L' := [(0, .ref (aK i))]) (st' := []) ?_
  refine v_aload_nR (j := 0) C dJ0_length_8abf5_0 rfl rfl ?_
  refine v_sget C (C.2.2.2.2.2.1.2.2.1.1 i hi).2.2.1 tw_1273 dJ0_length_8abf5_1 ?_
  refine v_tlen C (C.2.2.2.2.2.1.2.2.1.1 i hi).2.2.2 dJ0_length_8abf5_4 ?_
  refine v_aload_nR (j := 0) C dJ0_length_8abf5_5 rfl rfl ?_
  refine cvS_I C tw_450 tw_114 tw_447 tw_448 tw_449 pd_J0_coder_7d493 (Nat.le_of_ble_eq_true rfl) (Nat.le_of_ble_eq_true rfl) hi (As := []) (rest := [.int (Int32.ofNat (sLen.getD i 0))]) rfl rfl (Nat.le_of_ble_eq_true rfl) (c_strcoder l D cA B aK aV M i hi) dJ0_length_8abf5_6 ?_
  refine v_ishr C dJ0_length_8abf5_9 ?_
  refine v_topI (y := sLenI i) (sb_shr0 _).symm ?_
  exact v_iret C hr hlk dJ0_length_8abf5_10
set_option maxHeartbeats 4000000 in
set_option maxRecDepth 100000 in
theorem c_precheck (l : Launch) (D : va_G) (cA : cAt) (B : Nat) (aK aV : Nat → Nat) (M : Mem) (k : Int32) (N : Nat) (f : Option Nat) (hN : N < 2 ^ 31) (hk : vp_in k N) : CI l D cA B aK aV yJ3_checkIndex_8e157 cJ3_checkIndex_8e157 3 .int 0 [.int k, .int (Int32.ofNat N), va_rf f] M k M := by
  refine CI_of (by decide +kernel) (by cases f <;> exact Nat.le_of_ble_eq_true rfl) ?_
  intro p e s m args below meth c C hr hlk
  have C : Cx p (rmd 0) s m args c 0 0 D cA B aK aV cJ3_checkIndex_8e157 3 RJ3 := C
  refine v_eq (M' := M) (pc' := 0) (L' := [(0, .int k), (1, .int (Int32.ofNat N)), (2, va_rf f)]) (st' := []) ?_
  obtain ⟨j, hj, rfl⟩ := vp_in_of hk hN
  refine v_iload_n (j := 0) C dJ3_checkIndex_8e157_0 rfl rfl ?_
  refine v_if_lt (tgt := 9) C dJ3_checkIndex_8e157_1 (by decide) (fun g => absurd g (nI_pos (by omega))) (fun g => ?_)
  refine v_iload_n (j := 0) C dJ3_checkIndex_8e157_4 rfl rfl ?_
  refine v_iload_n (j := 1) C dJ3_checkIndex_8e157_5 rfl rfl ?_
  refine v_icmp_lt (tgt := 16) C dJ3_checkIndex_8e157_6 (by decide) (fun g => ?_) (fun g => absurd (nI_lt hj hN) g)
  refine v_iload_n (j := 0) C dJ3_checkIndex_8e157_16 rfl rfl ?_
  exact v_iret C hr hlk dJ3_checkIndex_8e157_17
set_option maxHeartbeats 4000000 in
set_option maxRecDepth 100000 in
theorem c_strcheck (l : Launch) (D : va_G) (cA : cAt) (B : Nat) (aK aV : Nat → Nat) (M : Mem) (k : Int32) (N : Nat) (hN : N < 2 ^ 31) (hk : vp_in k N) : CV l D cA B aK aV yJ0_checkIndex_df160 cJ0_checkIndex_df160 2 1 [.int k, .int (Int32.ofNat N)] M M := by
  refine CV_of (by decide +kernel) (Nat.le_of_ble_eq_true rfl) ?_
  intro p e s m args below meth c C hr hlk
  have C : Cx p (rmd 1) s m args c 0 0 D cA B aK aV cJ0_checkIndex_df160 2 RJ0 := C
  refine v_eq (M' := M) (pc' := 0) (L' := [(0, .int k), (1, .int (Int32.ofNat N))]) (st' := []) ?_
  refine v_iload_n (j := 0) C dJ0_checkIndex_df160_0 rfl rfl ?_
  refine v_iload_n (j := 1) C dJ0_checkIndex_df160_1 rfl rfl ?_
  rcases C.2.2.2.2.2.1.2.2.2.2.2 with hz | ⟨t, hz⟩
  · refine v_gets C hz tw_467 dJ0_checkIndex_df160_2 ?_
    refine cs_I C tw_471 tw_116 tw_469 tw_470 pd_J3_checkIndex_8e157 (Nat.le_of_ble_eq_true rfl) (Nat.le_of_ble_eq_true rfl) (As := [.int k, .int (Int32.ofNat N), .null]) (rest := []) rfl rfl (Nat.le_of_ble_eq_true rfl) (c_precheck l D cA B aK aV M k N none hN hk) dJ0_checkIndex_df160_5 ?_
    refine v_pop C dJ0_checkIndex_df160_8 rfl ?_
    exact v_vret C hr hlk dJ0_checkIndex_df160_9
  · refine v_gets C hz tw_467 dJ0_checkIndex_df160_2 ?_
    refine cs_I C tw_471 tw_116 tw_469 tw_470 pd_J3_checkIndex_8e157 (Nat.le_of_ble_eq_true rfl) (Nat.le_of_ble_eq_true rfl) (As := [.int k, .int (Int32.ofNat N), .ref t]) (rest := []) rfl rfl (Nat.le_of_ble_eq_true rfl) (c_precheck l D cA B aK aV M k N (some t) hN hk) dJ0_checkIndex_df160_5 ?_
    refine v_pop C dJ0_checkIndex_df160_8 rfl ?_
    exact v_vret C hr hlk dJ0_checkIndex_df160_9
set_option maxHeartbeats 4000000 in
set_option maxRecDepth 100000 in
theorem c_latat (l : Launch) (D : va_G) (cA : cAt) (B : Nat) (aK aV : Nat → Nat) (M : Mem) (i : Nat) (hi : i < 8) (k : Int32) (hk : vp_in k (sLen.getD i 0)) : CI l D cA B aK aV yJ1_charAt_3b067 cJ1_charAt_3b067 2 .char 2 [.ref (aV i), .int k] M (sChI i k) M := by
  refine CI_of (by decide +kernel) (Nat.le_of_ble_eq_true rfl) ?_
  intro p e s m args below meth c C hr hlk
  have C : Cx p (rmd 2) s m args c 0 0 D cA B aK aV cJ1_charAt_3b067 2 RJ1 := C
  refine v_eq (M' := M) (pc' := 0) (L' := [(0, .ref (aV i)), (1, .int k)]) (st' := []) ?_
  have hN : sLen.getD i 0 < 2 ^ 31 := sLen_small i hi
  refine v_iload_n (j := 1) C dJ1_charAt_3b067_0 rfl rfl ?_
  refine v_aload_nR (j := 0) C dJ1_charAt_3b067_1 rfl rfl ?_
  refine v_tlen C (C.2.2.2.2.2.1.2.2.1.1 i hi).2.2.2 dJ1_charAt_3b067_2 ?_
  refine cs_V C tw_466 tw_114 tw_464 tw_465 pd_J0_checkIndex_df160 (Nat.le_of_ble_eq_true rfl) (Nat.le_of_ble_eq_true rfl) (As := [.int k, .int (Int32.ofNat (sLen.getD i 0))]) (rest := []) rfl rfl (Nat.le_of_ble_eq_true rfl) (c_strcheck l D cA B aK aV M k _ hN hk) dJ1_charAt_3b067_3 ?_
  refine v_aload_nR (j := 0) C dJ1_charAt_3b067_6 rfl rfl ?_
  refine v_iload_n (j := 1) C dJ1_charAt_3b067_7 rfl rfl ?_
  refine v_tb C (C.2.2.2.2.2.1.2.2.1.1 i hi).2.2.2 hk rfl dJ1_charAt_3b067_8 ?_
  refine v_sipush (v := 255) C dJ1_charAt_3b067_9 (by decide) ?_
  refine v_iand C dJ1_charAt_3b067_12 ?_
  refine v_i2c C dJ1_charAt_3b067_13 ?_
  refine v_topI (y := sChI i k) (sCh_char i hi k hk).symm ?_
  exact v_zret C hr hlk (sCh_nar i hi k hk) dJ1_charAt_3b067_14
set_option maxHeartbeats 4000000 in
set_option maxRecDepth 100000 in
theorem c_charAt (l : Launch) (D : va_G) (cA : cAt) (B : Nat) (aK aV : Nat → Nat) (M : Mem) (i : Nat) (hi : i < 8) (k : Int32) (hk : vp_in k (sLen.getD i 0)) : CI l D cA B aK aV yJ0_charAt_5068e cJ0_charAt_5068e 2 .char 3 [.ref (aK i), .int k] M (sChI i k) M := by
  refine CI_of (by decide +kernel) (Nat.le_of_ble_eq_true rfl) ?_
  intro p e s m args below meth c C hr hlk
  have C : Cx p (rmd 3) s m args c 0 0 D cA B aK aV cJ0_charAt_5068e 2 RJ0 := C
  refine v_eq (M' := M) (pc' := 0) (L' := [(0, .ref (aK i)), (1, .int k)]) (st' := []) ?_
  refine v_aload_nR (j := 0) C dJ0_charAt_5068e_0 rfl rfl ?_
  refine cvS_I C tw_460 tw_114 tw_457 tw_458 tw_459 pd_J0_isLatin1_aae02 (Nat.le_of_ble_eq_true rfl) (Nat.le_of_ble_eq_true rfl) hi (As := []) (rest := []) rfl rfl (Nat.le_of_ble_eq_true rfl) (c_strlat l D cA B aK aV M i hi) dJ0_charAt_5068e_1 ?_
  refine v_if_eq (tgt := 16) C dJ0_charAt_5068e_4 (by decide) (fun g => absurd g (by decide)) (fun g => ?_)
  refine v_aload_nR (j := 0) C dJ0_charAt_5068e_7 rfl rfl ?_
  refine v_sget C (C.2.2.2.2.2.1.2.2.1.1 i hi).2.2.1 tw_1273 dJ0_charAt_5068e_8 ?_
  refine v_iload_n (j := 1) C dJ0_charAt_5068e_11 rfl rfl ?_
  refine cs_I C tw_463 tw_115 tw_461 tw_462 pd_J1_charAt_3b067 (Nat.le_of_ble_eq_true rfl) (Nat.le_of_ble_eq_true rfl) (As := [.ref (aV i), .int k]) (rest := []) rfl rfl (Nat.le_of_ble_eq_true rfl) (c_latat l D cA B aK aV M i hi k hk) dJ0_charAt_5068e_12 ?_
  exact v_zret C hr hlk (sCh_nar i hi k hk) dJ0_charAt_5068e_15
