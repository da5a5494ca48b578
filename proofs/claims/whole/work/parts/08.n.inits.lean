/-! ## THE CONSTRUCTORS: their contracts -/
theorem iw_25 : (Cond.code ({ cls := "java/lang/Object", name := "<init>", desc := "()V" } : MethodName) object_method_1_code (1 : Nat) (Option.none : Option ClassFile.FieldType)) ∈ TG := tg_mem 127 (by decide +kernel) rfl
theorem iw_24 : (Cond.instanceMethod ({ cls := "java/lang/Object", name := "<init>", desc := "()V" } : MethodName)) ∈ TG := tg_mem 126 (by decide +kernel) rfl
theorem iw_130 : (Cond.methodLink "HotPennies$Acts" (3 : Nat) ({ cls := "java/lang/Object", name := "<init>", desc := "()V" } : MethodName)) ∈ TG := tg_mem 232 (by decide +kernel) rfl
theorem iw_160 : (Cond.methodLink "HotPennies$Asks" (3 : Nat) ({ cls := "java/lang/Object", name := "<init>", desc := "()V" } : MethodName)) ∈ TG := tg_mem 262 (by decide +kernel) rfl
theorem iw_72 : (Cond.methodLink "HotPennies$Child" (3 : Nat) ({ cls := "java/lang/Object", name := "<init>", desc := "()V" } : MethodName)) ∈ TG := tg_mem 174 (by decide +kernel) rfl
theorem iw_146 : (Cond.methodLink "HotPennies$Landing" (3 : Nat) ({ cls := "java/lang/Object", name := "<init>", desc := "()V" } : MethodName)) ∈ TG := tg_mem 248 (by decide +kernel) rfl
theorem iw_173 : (Cond.methodLink "HotPennies$Row" (3 : Nat) ({ cls := "java/lang/Object", name := "<init>", desc := "()V" } : MethodName)) ∈ TG := tg_mem 275 (by decide +kernel) rfl
theorem iw_65 : (Cond.methodLink "HotPennies$Square" (3 : Nat) ({ cls := "java/lang/Object", name := "<init>", desc := "()V" } : MethodName)) ∈ TG := tg_mem 167 (by decide +kernel) rfl
theorem iw_33 : (Cond.methodLink "HotPennies$Tape" (3 : Nat) ({ cls := "java/lang/Object", name := "<init>", desc := "()V" } : MethodName)) ∈ TG := tg_mem 135 (by decide +kernel) rfl
theorem iw_23 : (Cond.methodLink "HotPennies" (1 : Nat) ({ cls := "java/lang/Object", name := "<init>", desc := "()V" } : MethodName)) ∈ TG := tg_mem 125 (by decide +kernel) rfl
theorem iw_789 : (Cond.methodLink "HotPenniesModel" (1 : Nat) ({ cls := "java/lang/Object", name := "<init>", desc := "()V" } : MethodName)) ∈ TG := tg_mem 891 (by decide +kernel) rfl
theorem u_obj {p : Program} {l : Launch} {e : Env} {R : Room} {s : State} {m : MethodId} {args : Array Value} {below : List Frame} {meth : Method} {c : Code} {kc ks : Nat} {D : va_G} {cA : cAt} {B : Nat} {aK aV : Nat → Nat} {nL : Nat} {Q : State → Prop} {n : Nat} {E : Nat → va_E} {pc : Nat} {L : List (Nat × Value)} {st : List Value} {cc : ByteArray} {own : String} {q idx : Nat} (C : Cu p s m args c D cA B aK aV cc nL own) (hlink : Cond.methodLink own idx Lib.objectInit ∈ TG) (hfr : 1 ≤ R.frames) (hlo : 20 ≤ R.locals) (hW : (st.map fun v => v.category).sum ≤ 8) (hdg : decode cc pc = .ok (.invokespecial idx, 3)) (k : U p l e R s m args below meth c kc ks D B nL Q n E (pc + 3) L st) : U p l e R s m args below meth c kc ks D B nL Q n E pc L (.ref (B + q) :: st) := fun H locs ls h1 h2 h3 =>
  W.objInit C.1 C.2.1 C.2.2.2.1 (C.2.2.2.2.1 _ hlink) (C.2.2.2.2.1 _ iw_24) (C.2.2.2.2.1 _ iw_25) rfl (h3.1.trans C.2.2.1.symm) rfl hdg hfr (by have := lv_room (m := m) (pc := pc) (ls := ls) (rest := .ref (B + q) :: st) hW; omega) (k H locs ls h1 h2 h3)
theorem c_iX2 (l : Launch) (D : va_G) (cA : cAt) (B : Nat) (aK aV : Nat → Nat) (q n : Nat) (E : Nat → va_E) (x : Int32) (hq : q < n) (hE : E q = .inr (2, [.int 0, .int 0, .int 0, .int 0, .int 0])) : CU l D cA B aK aV yX2_init cX2_init 2 1 [.ref (B + q), .int x] n E n (eup E q (.inr (2, [.int x, .int 0, .int 0, .int 0, .int 0]))) 0 0 := by
  refine CU_of rfl (Nat.le_of_ble_eq_true rfl) fun p e s m args below meth c C hz hn hr hlk => ?_
  refine u_aload_n (j := 0) C dX2_init_0 rfl rfl ?_
  refine u_obj C iw_72 (Nat.le_of_ble_eq_true rfl) (Nat.le_of_ble_eq_true rfl) (Nat.le_of_ble_eq_true rfl) dX2_init_1 ?_
  refine u_aload_n (j := 0) C dX2_init_4 rfl rfl ?_
  refine u_iload_n (j := 1) C dX2_init_5 rfl rfl ?_
  refine u_putF C hq hE rfl inT2 tyX2 tyX2_ok nmX2 0 (by decide) tw_175 rfl (hn.trans rfl) rfl rfl rfl (by decide) dX2_init_6 ?_
  exact u_vret C hr hlk dX2_init_9
theorem iw_59 : (Cond.arrayClass ClassFile.FieldType.int) ∈ TG := tg_mem 161 (by decide +kernel) rfl
theorem ra_int {s : State} {a b : ClassId} (h1 : va_RA s a .int) (h2 : va_RA s b .int) : a = b := by
  have e1 : s.vm.findClass ("[" ++ FieldType.int.toString) = some a := h1
  have e2 : s.vm.findClass ("[" ++ FieldType.int.toString) = some b := h2
  exact Option.some.inj (e1.symm.trans e2)
theorem c_iX3 (l : Launch) (D : va_G) (cA : cAt) (B : Nat) (aK aV : Nat → Nat) (q : Nat) (E : Nat → va_E) (hE : E q = .inr (3, [.null, .int 0])) : CU l D cA B aK aV yX3_init cX3_init 1 1 [.ref (B + q)] (q + 1) E (q + 2) (eup (eup E (q + 1) (.inl (cA 0, 20, .inl (fun _ => 0)))) q (.inr (3, [.ref (B + (q + 1)), .int 0]))) 1 20 := by
  refine CU_of rfl (Nat.le_of_ble_eq_true rfl) fun p e s m args below meth c C hz hn hr hlk => ?_
  refine u_aload_n (j := 0) C dX3_init_0 rfl rfl ?_
  refine u_obj C iw_146 (Nat.le_of_ble_eq_true rfl) (Nat.le_of_ble_eq_true rfl) (Nat.le_of_ble_eq_true rfl) dX3_init_1 ?_
  refine u_aload_n (j := 0) C dX3_init_4 rfl rfl ?_
  refine u_bipush C dX3_init_5 (v := 20) (by decide +kernel) ?_
  refine u_newa (atype := .int) (ty := .int) (t0 := 0) (N' := 20) (a0 := (20, .inl (fun _ => 0))) C hz iw_59 rfl rfl (fun c' h1 h2 => ra_int h1 h2) (fun _ => rfl) (by decide) rfl (Nat.le_of_ble_eq_true rfl) (Nat.le_of_ble_eq_true rfl) (Nat.le_of_ble_eq_true rfl) dX3_init_7 ?_
  refine u_putF (q := q) C (by omega) ((eup_ne _ _ (by omega)).trans hE) rfl inT3 tyX3 tyX3_ok nmX3 0 (by decide) tw_249 rfl (hn.trans rfl) rfl rfl rfl (by simp only [List.length_cons, List.length_nil]; omega) dX3_init_9 ?_
  exact u_vret C hr hlk dX3_init_12
theorem c_iX1 (l : Launch) (D : va_G) (cA : cAt) (B : Nat) (aK aV : Nat → Nat) (q : Nat) (E : Nat → va_E) (hE : E q = .inr (1, [.null, .int 0])) : CU l D cA B aK aV yX1_init cX1_init 1 1 [.ref (B + q)] (q + 1) E (q + 2) (eup (eup E (q + 1) (.inl (cA 0, 16, .inl (fun _ => 0)))) q (.inr (1, [.ref (B + (q + 1)), .int 0]))) 1 16 := by
  refine CU_of rfl (Nat.le_of_ble_eq_true rfl) fun p e s m args below meth c C hz hn hr hlk => ?_
  refine u_aload_n (j := 0) C dX1_init_0 rfl rfl ?_
  refine u_obj C iw_160 (Nat.le_of_ble_eq_true rfl) (Nat.le_of_ble_eq_true rfl) (Nat.le_of_ble_eq_true rfl) dX1_init_1 ?_
  refine u_aload_n (j := 0) C dX1_init_4 rfl rfl ?_
  refine u_bipush C dX1_init_5 (v := 16) (by decide +kernel) ?_
  refine u_newa (atype := .int) (ty := .int) (t0 := 0) (N' := 16) (a0 := (16, .inl (fun _ => 0))) C hz iw_59 rfl rfl (fun c' h1 h2 => ra_int h1 h2) (fun _ => rfl) (by decide) rfl (Nat.le_of_ble_eq_true rfl) (Nat.le_of_ble_eq_true rfl) (Nat.le_of_ble_eq_true rfl) dX1_init_7 ?_
  refine u_putF (q := q) C (by omega) ((eup_ne _ _ (by omega)).trans hE) rfl inT1 tyX1 tyX1_ok nmX1 0 (by decide) tw_263 rfl (hn.trans rfl) rfl rfl rfl (by simp only [List.length_cons, List.length_nil]; omega) dX1_init_9 ?_
  exact u_vret C hr hlk dX1_init_12
theorem c_iX6 (l : Launch) (D : va_G) (cA : cAt) (B : Nat) (aK aV : Nat → Nat) (q : Nat) (E : Nat → va_E) (hE : E q = .inr (6, [.null, .int 0, .int 0, .int 0, .int 0, .int 0, .int 0])) : CU l D cA B aK aV yX6_init cX6_init 1 1 [.ref (B + q)] (q + 1) E (q + 2) (eup (eup E (q + 1) (.inl (cA 0, 300, .inl (fun _ => 0)))) q (.inr (6, [.ref (B + (q + 1)), .int 0, .int 0, .int 0, .int 0, .int 0, .int 0]))) 1 300 := by
  refine CU_of rfl (Nat.le_of_ble_eq_true rfl) fun p e s m args below meth c C hz hn hr hlk => ?_
  refine u_aload_n (j := 0) C dX6_init_0 rfl rfl ?_
  refine u_obj C iw_33 (Nat.le_of_ble_eq_true rfl) (Nat.le_of_ble_eq_true rfl) (Nat.le_of_ble_eq_true rfl) dX6_init_1 ?_
  refine u_aload_n (j := 0) C dX6_init_4 rfl rfl ?_
  refine u_sipush C dX6_init_5 (v := 300) (by decide +kernel) ?_
  refine u_newa (atype := .int) (ty := .int) (t0 := 0) (N' := 300) (a0 := (300, .inl (fun _ => 0))) C hz iw_59 rfl rfl (fun c' h1 h2 => ra_int h1 h2) (fun _ => rfl) (by decide) rfl (Nat.le_of_ble_eq_true rfl) (Nat.le_of_ble_eq_true rfl) (Nat.le_of_ble_eq_true rfl) dX6_init_8 ?_
  refine u_putF (q := q) C (by omega) ((eup_ne _ _ (by omega)).trans hE) rfl inT6 tyX6 tyX6_ok nmX6 0 (by decide) tw_136 rfl (hn.trans rfl) rfl rfl rfl (by simp only [List.length_cons, List.length_nil]; omega) dX6_init_10 ?_
  exact u_vret C hr hlk dX6_init_13
theorem c_iX4 (l : Launch) (D : va_G) (cA : cAt) (B : Nat) (aK aV : Nat → Nat) (q : Nat) (E : Nat → va_E) (hE : E q = .inr (4, [.null, .int 0, .int 0])) : CU l D cA B aK aV yX4_init cX4_init 1 1 [.ref (B + q)] (q + 1) E (q + 2) (eup (eup E (q + 1) (.inl (cA 0, 40, .inl (fun _ => 0)))) q (.inr (4, [.ref (B + (q + 1)), .int 0, .int (-1)]))) 1 40 := by
  refine CU_of rfl (Nat.le_of_ble_eq_true rfl) fun p e s m args below meth c C hz hn hr hlk => ?_
  refine u_aload_n (j := 0) C dX4_init_0 rfl rfl ?_
  refine u_obj C iw_173 (Nat.le_of_ble_eq_true rfl) (Nat.le_of_ble_eq_true rfl) (Nat.le_of_ble_eq_true rfl) dX4_init_1 ?_
  refine u_aload_n (j := 0) C dX4_init_4 rfl rfl ?_
  refine u_bipush C dX4_init_5 (v := 40) (by decide +kernel) ?_
  refine u_newa (atype := .int) (ty := .int) (t0 := 0) (N' := 40) (a0 := (40, .inl (fun _ => 0))) C hz iw_59 rfl rfl (fun c' h1 h2 => ra_int h1 h2) (fun _ => rfl) (by decide) rfl (Nat.le_of_ble_eq_true rfl) (Nat.le_of_ble_eq_true rfl) (Nat.le_of_ble_eq_true rfl) dX4_init_7 ?_
  refine u_putF (q := q) C (by omega) ((eup_ne _ _ (by omega)).trans hE) rfl inT4 tyX4 tyX4_ok nmX4 0 (by decide) tw_276 rfl (hn.trans rfl) rfl rfl rfl (by simp only [List.length_cons, List.length_nil]; omega) dX4_init_9 ?_
  refine u_aload_n (j := 0) C dX4_init_12 rfl rfl ?_
  refine u_iconst C dX4_init_13 (v := -1) (by decide +kernel) ?_
  refine u_put (q := q) C (by omega) (eup_self _ _ _) rfl inT4 tyX4 tyX4_ok nmX4 2 (by decide) tw_280 rfl rfl rfl (by simp only [List.length_cons, List.length_nil, List.length_set]; omega) dX4_init_14 ?_
  refine u_eq rfl (fun k hk => ?_) rfl rfl (u_vret C hr hlk dX4_init_17)
  by_cases e : k = q
  · subst e
    rw [eup_self, eup_self]
    rfl
  · rw [eup_ne _ _ e, eup_ne _ _ e, eup_ne _ _ e]
def kid5 (B q : Nat) (cA : cAt) (j : Nat) (E : Nat → va_E) : Nat → va_E := fun k => if k < q then E k else if k = q then .inr (5, [.ref (B + (q + 1)), .int 0, .int 0, .int 0, .int 0]) else if k = q + 1 then .inl (cA 3, 5, .inr (.inr (.inr (.inr (fun i => if i < j then some (B + (q + 2 + i)) else none))))) else .inr (2, [.int (nI (k - (q + 2))), .int 0, .int 0, .int 0, .int 0])
theorem kid5_q (B q : Nat) (cA : cAt) (j : Nat) (E : Nat → va_E) : kid5 B q cA j E q = .inr (5, [.ref (B + (q + 1)), .int 0, .int 0, .int 0, .int 0]) := by
  unfold kid5
  rw [if_neg (by omega), if_pos rfl]
theorem kid5_a (B q : Nat) (cA : cAt) (j : Nat) (E : Nat → va_E) : kid5 B q cA j E (q + 1) = .inl (cA 3, 5, .inr (.inr (.inr (.inr (fun i => if i < j then some (B + (q + 2 + i)) else none))))) := by
  unfold kid5
  rw [if_neg (by omega), if_neg (by omega), if_pos rfl]
theorem kid5_step (B q : Nat) (cA : cAt) {j : Nat} (hj : j < 5) (E : Nat → va_E) (k : Nat) (hk : k < q + 2 + (j + 1)) : eup (eup (eup (kid5 B q cA j E) (q + 2 + j) (.inr (2, [.int 0, .int 0, .int 0, .int 0, .int 0]))) (q + 2 + j) (.inr (2, [.int (nI j), .int 0, .int 0, .int 0, .int 0]))) (q + 1) (.inl (cA 3, 5, .inr (.inr (.inr (.inr (va_up (fun i => if i < j then some (B + (q + 2 + i)) else none) (nI j).toNatClampNeg (some (B + (q + 2 + j))))))))) k = kid5 B q cA (j + 1) E k := by
  rw [nI_clamp (by omega)]
  by_cases e1 : k = q + 1
  · subst e1
    rw [eup_self, kid5_a]
    have : va_up (fun i => if i < j then some (B + (q + 2 + i)) else none) j (some (B + (q + 2 + j))) = fun i => if i < j + 1 then some (B + (q + 2 + i)) else none := by
      funext i
      unfold va_up
      by_cases e : i = j
      · simp [e]
      · by_cases z : i < j
        · simp [e, z, show i < j + 1 by omega]
        · simp [e, z, show ¬ i < j + 1 by omega]
    rw [this]
  · rw [eup_ne _ _ e1]
    by_cases e2 : k = q + 2 + j
    · subst e2
      rw [eup_self]
      unfold kid5
      rw [if_neg (by omega), if_neg (by omega), if_neg (by omega), show q + 2 + j - (q + 2) = j by omega]
    · rw [eup_ne _ _ e2, eup_ne _ _ e2]
      unfold kid5
      rw [if_neg e1, if_neg e1]
theorem iw_66 : (Cond.classLink "HotPennies$Square" (9 : Nat) "HotPennies$Child") ∈ TG := tg_mem 168 (by decide +kernel) rfl
theorem iw_68 : (Cond.instantiable "HotPennies$Child" (5 : Nat)) ∈ TG := tg_mem 170 (by decide +kernel) rfl
theorem iw_69 : (Cond.methodLinkNest "HotPennies$Square" (17 : Nat) ({ cls := "HotPennies$Child", name := "<init>", desc := "(I)V" } : MethodName) "HotPennies") ∈ NW := nw_mem 69 (by decide +kernel) rfl
theorem iw_70 : (Cond.instanceMethod ({ cls := "HotPennies$Child", name := "<init>", desc := "(I)V" } : MethodName)) ∈ TG := tg_mem 172 (by decide +kernel) rfl
theorem iw_71 : (Cond.code ({ cls := "HotPennies$Child", name := "<init>", desc := "(I)V" } : MethodName) prog_4_method_1_code (2 : Nat) (Option.none : Option ClassFile.FieldType)) ∈ TG := tg_mem 173 (by decide +kernel) rfl
theorem iw_4 : (Cond.initialized "HotPennies$Child") ∈ TG := tg_mem 106 (by decide +kernel) rfl
theorem pdi2 : yX2_init.cls ≠ "java/lang/invoke/MethodHandle" ∧ yX2_init.cls ≠ "java/lang/invoke/VarHandle" ∧ (parseMethodDescriptor yX2_init.desc).map (fun d => d.parameters.length) = some 1 := by decide +kernel
theorem c_iX5 (l : Launch) (D : va_G) (cA : cAt) (B : Nat) (aK aV : Nat → Nat) (q : Nat) (E : Nat → va_E) (hE : E q = .inr (5, [.null, .int 0, .int 0, .int 0, .int 0])) : CU l D cA B aK aV yX5_init cX5_init 2 2 [.ref (B + q)] (q + 1) E (q + 7) (kid5 B q cA 5 E) 6 30 := by
  refine CU_of rfl (Nat.le_of_ble_eq_true rfl) fun p e s m args below meth c C hz hn hr hlk => ?_
  have lp : ∀ d j, j + d = 5 → U p l e (rmu 2 6 30) s m args below meth c (1 + j) (5 + 5 * j) D B 2 (MQ below (Qcu D B (q + 7) (kid5 B q cA 5 E)) args s 6 30 (fun q => B ≤ q)) (q + 2 + j) (kid5 B q cA j E) 14 [(1, .int (nI j)), (0, .ref (B + q))] [] := by
    intro d
    induction d with
    | zero =>
      intro j hj
      have e : j = 5 := by omega
      subst e
      refine u_iload_n (j := 0) C dX5_init_14 rfl rfl ?_
      refine u_aload_n (j := 1) C dX5_init_15 rfl rfl ?_
      refine u_get C (by omega) (kid5_q _ _ _ _ _) rfl inT5 0 (by decide) tw_203 rfl dX5_init_16 ?_
      refine u_alen C (by omega) (kid5_a _ _ _ _ _) rfl rfl dX5_init_19 ?_
      refine u_icmp_ge (tgt := 43) C dX5_init_20 (by decide) (fun g => ?_) (fun g => absurd (show (5 : Int32) ≤ nI 5 by decide) g)
      exact u_eq rfl (fun _ _ => rfl) rfl rfl (u_sub [] rfl (u_vret C hr hlk dX5_init_43))
    | succ d ih =>
      intro j hj
      have hj5 : j < 5 := by omega
      refine u_iload_n (j := 0) C dX5_init_14 rfl rfl ?_
      refine u_aload_n (j := 1) C dX5_init_15 rfl rfl ?_
      refine u_get C (by omega) (kid5_q _ _ _ _ _) rfl inT5 0 (by decide) tw_203 rfl dX5_init_16 ?_
      refine u_alen C (by omega) (kid5_a _ _ _ _ _) rfl rfl dX5_init_19 ?_
      refine u_icmp_ge (tgt := 43) C dX5_init_20 (by decide) (fun g => absurd g (nI_ge (a := j) (b := 5) hj5 (by omega))) (fun g => ?_)
      refine u_pc (pc' := 23) rfl ?_
      refine u_aload_n (j := 1) C dX5_init_23 rfl rfl ?_
      refine u_get C (by omega) (kid5_q _ _ _ _ _) rfl inT5 0 (by decide) tw_203 rfl dX5_init_24 ?_
      refine u_iload_n (j := 0) C dX5_init_27 rfl rfl ?_
      refine u_new (fs := [.int 0, .int 0, .int 0, .int 0, .int 0]) C (by omega) inT2 tyX2 tyX2_ok iw_66 iw_68 iw_4 (ci := 2) rfl (by decide +kernel) (by show 1 + j + 1 ≤ 6; omega) (by show 5 + 5 * j + 5 ≤ 30; omega) dX5_init_28 ?_
      refine u_dup C dX5_init_31 rfl ?_
      refine u_iload_n (j := 0) C dX5_init_32 rfl rfl ?_
      refine u_callN C (by omega) iw_71 iw_4 iw_69 rfl iw_70 pdi2 (Nat.le_of_ble_eq_true rfl) (Nat.le_of_ble_eq_true rfl) (As := [.int (nI j)]) rfl rfl (Nat.le_of_ble_eq_true rfl) (c_iX2 l D cA B aK aV (q + 2 + j) _ _ (nI j) (by omega) (eup_self _ _ _)) dX5_init_33 ⟨by show 1 + j + 1 + 0 ≤ 6; omega, by show 5 + 5 * j + 5 + 0 ≤ 30; omega⟩ (by omega) ?_
      refine u_astq (q := q + 1) (qk := q + 2 + j) C (by omega) (by omega) ((eup_ne _ _ (by omega)).trans ((eup_ne _ _ (by omega)).trans (kid5_a _ _ _ _ _))) rfl (eup_self _ _ _) rfl (vp_in_nI hj5 (by omega)) dX5_init_36 ?_
      refine u_iinc (j := 0) C dX5_init_37 rfl (v := nI (j + 1)) (nI_1 j) (by decide) rfl ?_
      refine u_goto (tgt := 14) C dX5_init_40 (by decide) ?_
      exact u_eq rfl (fun k hk => kid5_step B q cA hj5 E k hk) (by omega) (by omega) (ih (j + 1) (by omega))
  refine u_aload_n (j := 0) C dX5_init_0 rfl rfl ?_
  refine u_obj C iw_65 (Nat.le_of_ble_eq_true rfl) (Nat.le_of_ble_eq_true rfl) (Nat.le_of_ble_eq_true rfl) dX5_init_1 ?_
  refine u_aload_n (j := 0) C dX5_init_4 rfl rfl ?_
  refine u_iconst C dX5_init_5 (v := 5) (by decide +kernel) ?_
  refine u_newq (t0 := 3) (N' := 5) C hz iw_66 C.2.2.2.2.2.2.2.2.2 rfl (by decide) rfl (Nat.le_of_ble_eq_true rfl) (Nat.le_of_ble_eq_true rfl) (Nat.le_of_ble_eq_true rfl) dX5_init_6 ?_
  refine u_putF (q := q) C (by omega) ((eup_ne _ _ (by omega)).trans hE) rfl inT5 tyX5 tyX5_ok nmX5 0 (by decide) tw_203 rfl (hn.trans rfl) rfl rfl rfl (by simp only [List.length_cons, List.length_nil]; omega) dX5_init_9 ?_
  refine u_iconst C dX5_init_12 (v := 0) (by decide +kernel) ?_
  refine u_istore_n C dX5_init_13 rfl (by decide) rfl ?_
  refine u_eq rfl (fun k hk => ?_) rfl rfl (lp 5 0 rfl)
  by_cases e : k = q
  · subst e
    rw [eup_self, kid5_q]
    rfl
  · rw [eup_ne _ _ e]
    by_cases e1 : k = q + 1
    · subst e1
      rw [eup_self, kid5_a]
      rfl
    · rw [eup_ne _ _ e1]
      unfold kid5
      rw [if_pos (by omega)]
/-- the cell at k of a square's seven, r after its first -/
def sqc (B : Nat) (cA : cAt) (k r : Nat) : va_E := if r = 0 then .inr (5, [.ref (B + (k + 1)), .int 0, .int 0, .int 0, .int 0]) else if r = 1 then .inl (cA 3, 5, .inr (.inr (.inr (.inr (fun i => if i < 5 then some (B + (k + 1 + i)) else none))))) else .inr (2, [.int (nI (r - 2)), .int 0, .int 0, .int 0, .int 0])
theorem kid5_sqc (B q : Nat) (cA : cAt) (E : Nat → va_E) (r : Nat) : kid5 B q cA 5 E (q + r) = sqc B cA (q + r) r := by
  unfold sqc
  by_cases e0 : r = 0
  · subst e0
    rw [if_pos rfl]
    exact kid5_q B q cA 5 E
  · rw [if_neg e0]
    by_cases e1 : r = 1
    · subst e1
      rw [if_pos rfl, kid5_a]
    · rw [if_neg e1]
      unfold kid5
      rw [if_neg (by omega), if_neg (by omega), if_neg (by omega), show q + r - (q + 2) = r - 2 by omega]
theorem kid5_lt (B q : Nat) (cA : cAt) (E : Nat → va_E) {k : Nat} (h : k < q) : kid5 B q cA 5 E k = E k := by
  unfold kid5
  rw [if_pos h]
def actW (B : Nat) (cA : cAt) (j : Nat) (E : Nat → va_E) : Nat → va_E := fun k => if k < 26 then E k else if k = 26 then .inr (0, [.ref (B + 27), .int 0]) else if k = 27 then .inl (cA 2, 24, .inr (.inr (.inr (.inr (fun i => if i < j then some (B + (28 + 7 * i)) else none))))) else sqc B cA k ((k - 28) % 7)
theorem actW_26 (B : Nat) (cA : cAt) (j : Nat) (E : Nat → va_E) : actW B cA j E 26 = .inr (0, [.ref (B + 27), .int 0]) := rfl
theorem actW_27 (B : Nat) (cA : cAt) (j : Nat) (E : Nat → va_E) : actW B cA j E 27 = .inl (cA 2, 24, .inr (.inr (.inr (.inr (fun i => if i < j then some (B + (28 + 7 * i)) else none))))) := rfl
theorem actW_step (B : Nat) (cA : cAt) {j : Nat} (hj : j < 24) (E : Nat → va_E) (x : va_E) (k : Nat) (hk : k < 28 + 7 * j + 7) : eup (kid5 B (28 + 7 * j) cA 5 (eup (actW B cA j E) (28 + 7 * j) x)) 27 (.inl (cA 2, 24, .inr (.inr (.inr (.inr (va_up (fun i => if i < j then some (B + (28 + 7 * i)) else none) (nI j).toNatClampNeg (some (B + (28 + 7 * j))))))))) k = actW B cA (j + 1) E k := by
  rw [nI_clamp (by omega)]
  by_cases e1 : k = 27
  · subst e1
    rw [eup_self, actW_27]
    have : va_up (fun i => if i < j then some (B + (28 + 7 * i)) else none) j (some (B + (28 + 7 * j))) = fun i => if i < j + 1 then some (B + (28 + 7 * i)) else none := by
      funext i
      unfold va_up
      by_cases e : i = j
      · simp [e]
      · by_cases z : i < j
        · simp [e, z, show i < j + 1 by omega]
        · simp [e, z, show ¬ i < j + 1 by omega]
    rw [this]
  · rw [eup_ne _ _ e1]
    by_cases e2 : k < 28 + 7 * j
    · rw [kid5_lt _ _ _ _ e2, eup_ne _ _ (by omega)]
      unfold actW
      rw [if_neg e1, if_neg e1]
    · obtain ⟨r, rfl⟩ : ∃ r, k = 28 + 7 * j + r := ⟨k - (28 + 7 * j), by omega⟩
      rw [kid5_sqc]
      unfold actW
      rw [if_neg (by omega), if_neg (by omega), if_neg (by omega), show (28 + 7 * j + r - 28) % 7 = r by omega]
theorem iw_131 : (Cond.classLink "HotPennies$Acts" (9 : Nat) "HotPennies$Square") ∈ TG := tg_mem 233 (by decide +kernel) rfl
theorem iw_61 : (Cond.instantiable "HotPennies$Square" (5 : Nat)) ∈ TG := tg_mem 163 (by decide +kernel) rfl
theorem iw_132 : (Cond.methodLinkNest "HotPennies$Acts" (17 : Nat) ({ cls := "HotPennies$Square", name := "<init>", desc := "()V" } : MethodName) "HotPennies") ∈ NW := nw_mem 132 (by decide +kernel) rfl
theorem iw_63 : (Cond.instanceMethod ({ cls := "HotPennies$Square", name := "<init>", desc := "()V" } : MethodName)) ∈ TG := tg_mem 165 (by decide +kernel) rfl
theorem iw_64 : (Cond.code ({ cls := "HotPennies$Square", name := "<init>", desc := "()V" } : MethodName) prog_7_method_1_code (2 : Nat) (Option.none : Option ClassFile.FieldType)) ∈ TG := tg_mem 166 (by decide +kernel) rfl
theorem iw_3 : (Cond.initialized "HotPennies$Square") ∈ TG := tg_mem 105 (by decide +kernel) rfl
theorem pdi5 : yX5_init.cls ≠ "java/lang/invoke/MethodHandle" ∧ yX5_init.cls ≠ "java/lang/invoke/VarHandle" ∧ (parseMethodDescriptor yX5_init.desc).map (fun d => d.parameters.length) = some 0 := by decide +kernel
theorem c_iX0 (l : Launch) (D : va_G) (cA : cAt) (B : Nat) (aK aV : Nat → Nat) (E : Nat → va_E) (hE : E 26 = .inr (0, [.null, .int 0])) : CU l D cA B aK aV yX0_init cX0_init 2 3 [.ref (B + 26)] 27 E 196 (actW B cA 24 E) 169 864 := by
  refine CU_of rfl (Nat.le_of_ble_eq_true rfl) fun p e s m args below meth c C hz hn hr hlk => ?_
  have lp : ∀ d j, j + d = 24 → U p l e (rmu 3 169 864) s m args below meth c (1 + 7 * j) (24 + 35 * j) D B 2 (MQ below (Qcu D B 196 (actW B cA 24 E)) args s 169 864 (fun q => B ≤ q)) (28 + 7 * j) (actW B cA j E) 15 [(1, .int (nI j)), (0, .ref (B + 26))] [] := by
    intro d
    induction d with
    | zero =>
      intro j hj
      have e : j = 24 := by omega
      subst e
      refine u_iload_n (j := 0) C dX0_init_15 rfl rfl ?_
      refine u_aload_n (j := 1) C dX0_init_16 rfl rfl ?_
      refine u_get C (by omega) (actW_26 _ _ _ _) rfl inT0 0 (by decide) tw_235 rfl dX0_init_17 ?_
      refine u_alen C (by omega) (actW_27 _ _ _ _) rfl rfl dX0_init_20 ?_
      refine u_icmp_ge (tgt := 43) C dX0_init_21 (by decide) (fun g => ?_) (fun g => absurd (show (24 : Int32) ≤ nI 24 by decide) g)
      exact u_eq rfl (fun _ _ => rfl) rfl rfl (u_sub [] rfl (u_vret C hr hlk dX0_init_43))
    | succ d ih =>
      intro j hj
      have hj5 : j < 24 := by omega
      refine u_iload_n (j := 0) C dX0_init_15 rfl rfl ?_
      refine u_aload_n (j := 1) C dX0_init_16 rfl rfl ?_
      refine u_get C (by omega) (actW_26 _ _ _ _) rfl inT0 0 (by decide) tw_235 rfl dX0_init_17 ?_
      refine u_alen C (by omega) (actW_27 _ _ _ _) rfl rfl dX0_init_20 ?_
      refine u_icmp_ge (tgt := 43) C dX0_init_21 (by decide) (fun g => absurd g (nI_ge (a := j) (b := 24) hj5 (by omega))) (fun g => ?_)
      refine u_pc (pc' := 24) rfl ?_
      refine u_aload_n (j := 1) C dX0_init_24 rfl rfl ?_
      refine u_get C (by omega) (actW_26 _ _ _ _) rfl inT0 0 (by decide) tw_235 rfl dX0_init_25 ?_
      refine u_iload_n (j := 0) C dX0_init_28 rfl rfl ?_
      refine u_new (fs := [.null, .int 0, .int 0, .int 0, .int 0]) C (by omega) inT5 tyX5 tyX5_ok iw_131 iw_61 iw_3 (ci := 5) rfl (by decide +kernel) (by show 1 + 7 * j + 1 ≤ 169; omega) (by show 24 + 35 * j + 5 ≤ 864; omega) dX0_init_29 ?_
      refine u_dup C dX0_init_32 rfl ?_
      refine u_callN C (by omega) iw_64 iw_3 iw_132 rfl iw_63 pdi5 (Nat.le_of_ble_eq_true rfl) (Nat.le_of_ble_eq_true rfl) (As := []) rfl rfl (Nat.le_of_ble_eq_true rfl) (c_iX5 l D cA B aK aV (28 + 7 * j) _ (eup_self _ _ _)) dX0_init_33 ⟨by show 1 + 7 * j + 1 + 6 ≤ 169; omega, by show 24 + 35 * j + 5 + 30 ≤ 864; omega⟩ (by omega) ?_
      refine u_astq (q := 27) (qk := 28 + 7 * j) C (by omega) (by omega) ((kid5_lt _ _ _ _ (by omega)).trans ((eup_ne _ _ (by omega)).trans (actW_27 _ _ _ _))) rfl (kid5_q _ _ _ _ _) rfl (vp_in_nI hj5 (by omega)) dX0_init_36 ?_
      refine u_iinc (j := 0) C dX0_init_37 rfl (v := nI (j + 1)) (nI_1 j) (by decide) rfl ?_
      refine u_goto (tgt := 15) C dX0_init_40 (by decide) ?_
      exact u_eq (by omega) (fun k hk => actW_step B cA hj5 E _ k hk) (by omega) (by omega) (ih (j + 1) (by omega))
  refine u_aload_n (j := 0) C dX0_init_0 rfl rfl ?_
  refine u_obj C iw_130 (Nat.le_of_ble_eq_true rfl) (Nat.le_of_ble_eq_true rfl) (Nat.le_of_ble_eq_true rfl) dX0_init_1 ?_
  refine u_aload_n (j := 0) C dX0_init_4 rfl rfl ?_
  refine u_bipush C dX0_init_5 (v := 24) (by decide +kernel) ?_
  refine u_newq (t0 := 2) (N' := 24) C hz iw_131 C.2.2.2.2.2.2.2.2.1 rfl (by decide) rfl (Nat.le_of_ble_eq_true rfl) (Nat.le_of_ble_eq_true rfl) (Nat.le_of_ble_eq_true rfl) dX0_init_7 ?_
  refine u_putF (q := 26) C (by omega) ((eup_ne _ _ (by omega)).trans hE) rfl inT0 tyX0 tyX0_ok nmX0 0 (by decide) tw_235 rfl (hn.trans rfl) rfl rfl rfl (by simp only [List.length_cons, List.length_nil]; omega) dX0_init_10 ?_
  refine u_iconst C dX0_init_13 (v := 0) (by decide +kernel) ?_
  refine u_istore_n C dX0_init_14 rfl (by decide) rfl ?_
  refine u_eq rfl (fun k hk => ?_) rfl rfl (lp 24 0 rfl)
  by_cases e : k = 26
  · subst e
    rw [eup_self, actW_26]
    rfl
  · rw [eup_ne _ _ e]
    by_cases e1 : k = 27
    · subst e1
      rw [eup_self, actW_27]
      rfl
    · rw [eup_ne _ _ e1]
      unfold actW
      rw [if_pos (by omega)]
theorem iw_869 : (Cond.arrayClass ClassFile.FieldType.boolean) ∈ TG := tg_mem 971 (by decide +kernel) rfl
theorem ra_bool {s : State} {a b : ClassId} (h1 : va_RA s a .boolean) (h2 : va_RA s b .boolean) : a = b := by
  have e1 : s.vm.findClass ("[" ++ FieldType.boolean.toString) = some a := h1
  have e2 : s.vm.findClass ("[" ++ FieldType.boolean.toString) = some b := h2
  exact Option.some.inj (e1.symm.trans e2)
def mdW (B : Nat) (cA : cAt) (j : Nat) (E : Nat → va_E) : Nat → va_E := fun k => if k < 234 then E k else if k = 234 then .inr (8, [.int 0, .ref (B + 235), .ref (B + 236), .ref (B + 237), .ref (B + 238), .int 0, .int 0, .ref (B + 239), .ref (B + 240), .ref (B + 241), .int 0, .ref (B + 242), .ref (B + 243), .ref (B + 244), .int 0, .int 0, .int 0, .int 0, .int 0, .int 0, .ref (B + 245), .int 0, .ref (B + 246), .ref (B + 247), .int 0, .ref (B + 248)]) else if k = 235 then .inl (cA 0, 8, .inl (fun i => if i < j then -1 else 0)) else if k = 243 then .inl (cA 4, 2, .inl (fun _ => 0)) else .inl (cA 0, alen k, .inl (fun _ => 0))
theorem mdW_234 (B : Nat) (cA : cAt) (j : Nat) (E : Nat → va_E) : mdW B cA j E 234 = .inr (8, [.int 0, .ref (B + 235), .ref (B + 236), .ref (B + 237), .ref (B + 238), .int 0, .int 0, .ref (B + 239), .ref (B + 240), .ref (B + 241), .int 0, .ref (B + 242), .ref (B + 243), .ref (B + 244), .int 0, .int 0, .int 0, .int 0, .int 0, .int 0, .ref (B + 245), .int 0, .ref (B + 246), .ref (B + 247), .int 0, .ref (B + 248)]) := rfl
theorem mdW_235 (B : Nat) (cA : cAt) (j : Nat) (E : Nat → va_E) : mdW B cA j E 235 = .inl (cA 0, 8, .inl (fun i => if i < j then -1 else 0)) := rfl
theorem mdW_step (B : Nat) (cA : cAt) {j : Nat} (hj : j < 8) (E : Nat → va_E) (k : Nat) : eup (mdW B cA j E) 235 (.inl (cA 0, 8, .inl (upd (fun i => if i < j then -1 else 0) (nI j).toNatClampNeg (-1)))) k = mdW B cA (j + 1) E k := by
  rw [nI_clamp (by omega)]
  by_cases e1 : k = 235
  · subst e1
    rw [eup_self, mdW_235]
    have : upd (fun i => if i < j then (-1 : Int32) else 0) j (-1) = fun i => if i < j + 1 then -1 else 0 := by
      funext i
      rw [upd_at]
      by_cases e : i = j
      · simp [e]
      · by_cases z : i < j
        · simp [e, z, show i < j + 1 by omega]
        · simp [e, z, show ¬ i < j + 1 by omega]
    rw [this]
  · rw [eup_ne _ _ e1]
    unfold mdW
    rw [if_neg e1, if_neg e1]
theorem c_iX8 (l : Launch) (D : va_G) (cA : cAt) (B : Nat) (aK aV : Nat → Nat) (E : Nat → va_E) (hE : E 234 = .inr (8, [.int 0, .null, .null, .null, .null, .int 0, .int 0, .null, .null, .null, .int 0, .null, .null, .null, .int 0, .int 0, .int 0, .int 0, .int 0, .int 0, .null, .int 0, .null, .null, .int 0, .null])) : CU l D cA B aK aV yX8_init cX8_init 2 1 [.ref (B + 234)] 235 E 249 (mdW B cA 8 E) 14 1830 := by
  refine CU_of rfl (Nat.le_of_ble_eq_true rfl) fun p e s m args below meth c C hz hn hr hlk => ?_
  have lp : ∀ d j, j + d = 8 → U p l e (rmu 1 14 1830) s m args below meth c 14 1830 D B 2 (MQ below (Qcu D B 249 (mdW B cA 8 E)) args s 14 1830 (fun q => B ≤ q)) 249 (mdW B cA j E) 119 [(1, .int (nI j)), (0, .ref (B + 234))] [] := by
    intro d
    induction d with
    | zero =>
      intro j hj
      have e : j = 8 := by omega
      subst e
      refine u_iload_n (j := 0) C dX8_init_119 rfl rfl ?_
      refine u_bipush C dX8_init_120 (v := 8) (by decide +kernel) ?_
      refine u_icmp_ge (tgt := 138) C dX8_init_122 (by decide) (fun g => ?_) (fun g => absurd (show (8 : Int32) ≤ nI 8 by decide) g)
      exact u_sub [] rfl (u_vret C hr hlk dX8_init_138)
    | succ d ih =>
      intro j hj
      have hj5 : j < 8 := by omega
      refine u_iload_n (j := 0) C dX8_init_119 rfl rfl ?_
      refine u_bipush C dX8_init_120 (v := 8) (by decide +kernel) ?_
      refine u_icmp_ge (tgt := 138) C dX8_init_122 (by decide) (fun g => absurd g (nI_ge (a := j) (b := 8) hj5 (by omega))) (fun g => ?_)
      refine u_pc (pc' := 125) rfl ?_
      refine u_aload_n (j := 1) C dX8_init_125 rfl rfl ?_
      refine u_get C (by omega) (mdW_234 _ _ _ _) rfl inT8 1 (by decide) tw_893 rfl dX8_init_126 ?_
      refine u_iload_n (j := 0) C dX8_init_129 rfl rfl ?_
      refine u_iconst C dX8_init_130 (v := -1) (by decide +kernel) ?_
      refine u_iast (q := 235) C (by omega) (mdW_235 _ _ _ _) (vp_in_nI hj5 (by omega)) dX8_init_131 ?_
      refine u_iinc (j := 0) C dX8_init_132 rfl (v := nI (j + 1)) (nI_1 j) (by decide) rfl ?_
      refine u_goto (tgt := 119) C dX8_init_135 (by decide) ?_
      exact u_eq rfl (fun k hk => mdW_step B cA hj5 E k) rfl rfl (ih (j + 1) (by omega))
  refine u_aload_n (j := 0) C dX8_init_0 rfl rfl ?_
  refine u_obj C iw_789 (Nat.le_of_ble_eq_true rfl) (Nat.le_of_ble_eq_true rfl) (Nat.le_of_ble_eq_true rfl) dX8_init_1 ?_
  refine u_aload_n (j := 0) C dX8_init_4 rfl rfl ?_
  refine u_bipush C dX8_init_5 (v := 8) (by decide +kernel) ?_
  refine u_newa (atype := .int) (ty := .int) (t0 := 0) (N' := 8) (a0 := (8, .inl (fun _ => 0))) C (by omega) iw_59 rfl rfl (fun c' h1 h2 => ra_int h1 h2) (fun _ => rfl) (by decide) rfl (Nat.le_of_ble_eq_true rfl) (Nat.le_of_ble_eq_true rfl) (Nat.le_of_ble_eq_true rfl) dX8_init_7 ?_
  refine u_putF (q := 234) C (by omega) ((eup_ne _ _ (by decide)).trans (hE)) rfl inT8 tyX8 tyX8_ok nmX8 1 (by decide) tw_893 rfl (hn.trans rfl) rfl rfl rfl (by simp only [List.length_cons, List.length_nil, List.length_set]; omega) dX8_init_9 ?_
  refine u_aload_n (j := 0) C dX8_init_12 rfl rfl ?_
  refine u_bipush C dX8_init_13 (v := 8) (by decide +kernel) ?_
  refine u_newa (atype := .int) (ty := .int) (t0 := 0) (N' := 8) (a0 := (8, .inl (fun _ => 0))) C (by omega) iw_59 rfl rfl (fun c' h1 h2 => ra_int h1 h2) (fun _ => rfl) (by decide) rfl (Nat.le_of_ble_eq_true rfl) (Nat.le_of_ble_eq_true rfl) (Nat.le_of_ble_eq_true rfl) dX8_init_15 ?_
  refine u_putF (q := 234) C (by omega) ((eup_ne _ _ (by decide)).trans (eup_self _ _ _)) rfl inT8 tyX8 tyX8_ok nmX8 2 (by decide) tw_894 rfl (hn.trans rfl) rfl rfl rfl (by simp only [List.length_cons, List.length_nil, List.length_set]; omega) dX8_init_17 ?_
  refine u_aload_n (j := 0) C dX8_init_20 rfl rfl ?_
  refine u_sipush C dX8_init_21 (v := 320) (by decide +kernel) ?_
  refine u_newa (atype := .int) (ty := .int) (t0 := 0) (N' := 320) (a0 := (320, .inl (fun _ => 0))) C (by omega) iw_59 rfl rfl (fun c' h1 h2 => ra_int h1 h2) (fun _ => rfl) (by decide) rfl (Nat.le_of_ble_eq_true rfl) (Nat.le_of_ble_eq_true rfl) (Nat.le_of_ble_eq_true rfl) dX8_init_24 ?_
  refine u_putF (q := 234) C (by omega) ((eup_ne _ _ (by decide)).trans (eup_self _ _ _)) rfl inT8 tyX8 tyX8_ok nmX8 3 (by decide) tw_895 rfl (hn.trans rfl) rfl rfl rfl (by simp only [List.length_cons, List.length_nil, List.length_set]; omega) dX8_init_26 ?_
  refine u_aload_n (j := 0) C dX8_init_29 rfl rfl ?_
  refine u_sipush C dX8_init_30 (v := 300) (by decide +kernel) ?_
  refine u_newa (atype := .int) (ty := .int) (t0 := 0) (N' := 300) (a0 := (300, .inl (fun _ => 0))) C (by omega) iw_59 rfl rfl (fun c' h1 h2 => ra_int h1 h2) (fun _ => rfl) (by decide) rfl (Nat.le_of_ble_eq_true rfl) (Nat.le_of_ble_eq_true rfl) (Nat.le_of_ble_eq_true rfl) dX8_init_33 ?_
  refine u_putF (q := 234) C (by omega) ((eup_ne _ _ (by decide)).trans (eup_self _ _ _)) rfl inT8 tyX8 tyX8_ok nmX8 4 (by decide) tw_896 rfl (hn.trans rfl) rfl rfl rfl (by simp only [List.length_cons, List.length_nil, List.length_set]; omega) dX8_init_35 ?_
  refine u_aload_n (j := 0) C dX8_init_38 rfl rfl ?_
  refine u_bipush C dX8_init_39 (v := 39) (by decide +kernel) ?_
  refine u_newa (atype := .int) (ty := .int) (t0 := 0) (N' := 39) (a0 := (39, .inl (fun _ => 0))) C (by omega) iw_59 rfl rfl (fun c' h1 h2 => ra_int h1 h2) (fun _ => rfl) (by decide) rfl (Nat.le_of_ble_eq_true rfl) (Nat.le_of_ble_eq_true rfl) (Nat.le_of_ble_eq_true rfl) dX8_init_41 ?_
  refine u_putF (q := 234) C (by omega) ((eup_ne _ _ (by decide)).trans (eup_self _ _ _)) rfl inT8 tyX8 tyX8_ok nmX8 7 (by decide) tw_899 rfl (hn.trans rfl) rfl rfl rfl (by simp only [List.length_cons, List.length_nil, List.length_set]; omega) dX8_init_43 ?_
  refine u_aload_n (j := 0) C dX8_init_46 rfl rfl ?_
  refine u_bipush C dX8_init_47 (v := 39) (by decide +kernel) ?_
  refine u_newa (atype := .int) (ty := .int) (t0 := 0) (N' := 39) (a0 := (39, .inl (fun _ => 0))) C (by omega) iw_59 rfl rfl (fun c' h1 h2 => ra_int h1 h2) (fun _ => rfl) (by decide) rfl (Nat.le_of_ble_eq_true rfl) (Nat.le_of_ble_eq_true rfl) (Nat.le_of_ble_eq_true rfl) dX8_init_49 ?_
  refine u_putF (q := 234) C (by omega) ((eup_ne _ _ (by decide)).trans (eup_self _ _ _)) rfl inT8 tyX8 tyX8_ok nmX8 8 (by decide) tw_900 rfl (hn.trans rfl) rfl rfl rfl (by simp only [List.length_cons, List.length_nil, List.length_set]; omega) dX8_init_51 ?_
  refine u_aload_n (j := 0) C dX8_init_54 rfl rfl ?_
  refine u_sipush C dX8_init_55 (v := 936) (by decide +kernel) ?_
  refine u_newa (atype := .int) (ty := .int) (t0 := 0) (N' := 936) (a0 := (936, .inl (fun _ => 0))) C (by omega) iw_59 rfl rfl (fun c' h1 h2 => ra_int h1 h2) (fun _ => rfl) (by decide) rfl (Nat.le_of_ble_eq_true rfl) (Nat.le_of_ble_eq_true rfl) (Nat.le_of_ble_eq_true rfl) dX8_init_58 ?_
  refine u_putF (q := 234) C (by omega) ((eup_ne _ _ (by decide)).trans (eup_self _ _ _)) rfl inT8 tyX8 tyX8_ok nmX8 9 (by decide) tw_901 rfl (hn.trans rfl) rfl rfl rfl (by simp only [List.length_cons, List.length_nil, List.length_set]; omega) dX8_init_60 ?_
  refine u_aload_n (j := 0) C dX8_init_63 rfl rfl ?_
  refine u_bipush C dX8_init_64 (v := 78) (by decide +kernel) ?_
  refine u_newa (atype := .int) (ty := .int) (t0 := 0) (N' := 78) (a0 := (78, .inl (fun _ => 0))) C (by omega) iw_59 rfl rfl (fun c' h1 h2 => ra_int h1 h2) (fun _ => rfl) (by decide) rfl (Nat.le_of_ble_eq_true rfl) (Nat.le_of_ble_eq_true rfl) (Nat.le_of_ble_eq_true rfl) dX8_init_66 ?_
  refine u_putF (q := 234) C (by omega) ((eup_ne _ _ (by decide)).trans (eup_self _ _ _)) rfl inT8 tyX8 tyX8_ok nmX8 11 (by decide) tw_903 rfl (hn.trans rfl) rfl rfl rfl (by simp only [List.length_cons, List.length_nil, List.length_set]; omega) dX8_init_68 ?_
  refine u_aload_n (j := 0) C dX8_init_71 rfl rfl ?_
  refine u_iconst C dX8_init_72 (v := 2) (by decide +kernel) ?_
  refine u_newa (atype := .boolean) (ty := .boolean) (t0 := 4) (N' := 2) (a0 := (2, .inl (fun _ => 0))) C (by omega) iw_869 rfl rfl (fun c' h1 h2 => ra_bool h1 h2) (fun _ => rfl) (by decide) rfl (Nat.le_of_ble_eq_true rfl) (Nat.le_of_ble_eq_true rfl) (Nat.le_of_ble_eq_true rfl) dX8_init_73 ?_
  refine u_putF (q := 234) C (by omega) ((eup_ne _ _ (by decide)).trans (eup_self _ _ _)) rfl inT8 tyX8 tyX8_ok nmX8 12 (by decide) tw_904 rfl (hn.trans rfl) rfl rfl rfl (by simp only [List.length_cons, List.length_nil, List.length_set]; omega) dX8_init_75 ?_
  refine u_aload_n (j := 0) C dX8_init_78 rfl rfl ?_
  refine u_bipush C dX8_init_79 (v := 16) (by decide +kernel) ?_
  refine u_newa (atype := .int) (ty := .int) (t0 := 0) (N' := 16) (a0 := (16, .inl (fun _ => 0))) C (by omega) iw_59 rfl rfl (fun c' h1 h2 => ra_int h1 h2) (fun _ => rfl) (by decide) rfl (Nat.le_of_ble_eq_true rfl) (Nat.le_of_ble_eq_true rfl) (Nat.le_of_ble_eq_true rfl) dX8_init_81 ?_
  refine u_putF (q := 234) C (by omega) ((eup_ne _ _ (by decide)).trans (eup_self _ _ _)) rfl inT8 tyX8 tyX8_ok nmX8 13 (by decide) tw_905 rfl (hn.trans rfl) rfl rfl rfl (by simp only [List.length_cons, List.length_nil, List.length_set]; omega) dX8_init_83 ?_
  refine u_aload_n (j := 0) C dX8_init_86 rfl rfl ?_
  refine u_iconst C dX8_init_87 (v := 5) (by decide +kernel) ?_
  refine u_newa (atype := .int) (ty := .int) (t0 := 0) (N' := 5) (a0 := (5, .inl (fun _ => 0))) C (by omega) iw_59 rfl rfl (fun c' h1 h2 => ra_int h1 h2) (fun _ => rfl) (by decide) rfl (Nat.le_of_ble_eq_true rfl) (Nat.le_of_ble_eq_true rfl) (Nat.le_of_ble_eq_true rfl) dX8_init_88 ?_
  refine u_putF (q := 234) C (by omega) ((eup_ne _ _ (by decide)).trans (eup_self _ _ _)) rfl inT8 tyX8 tyX8_ok nmX8 20 (by decide) tw_912 rfl (hn.trans rfl) rfl rfl rfl (by simp only [List.length_cons, List.length_nil, List.length_set]; omega) dX8_init_90 ?_
  refine u_aload_n (j := 0) C dX8_init_93 rfl rfl ?_
  refine u_bipush C dX8_init_94 (v := 30) (by decide +kernel) ?_
  refine u_newa (atype := .int) (ty := .int) (t0 := 0) (N' := 30) (a0 := (30, .inl (fun _ => 0))) C (by omega) iw_59 rfl rfl (fun c' h1 h2 => ra_int h1 h2) (fun _ => rfl) (by decide) rfl (Nat.le_of_ble_eq_true rfl) (Nat.le_of_ble_eq_true rfl) (Nat.le_of_ble_eq_true rfl) dX8_init_96 ?_
  refine u_putF (q := 234) C (by omega) ((eup_ne _ _ (by decide)).trans (eup_self _ _ _)) rfl inT8 tyX8 tyX8_ok nmX8 22 (by decide) tw_914 rfl (hn.trans rfl) rfl rfl rfl (by simp only [List.length_cons, List.length_nil, List.length_set]; omega) dX8_init_98 ?_
  refine u_aload_n (j := 0) C dX8_init_101 rfl rfl ?_
  refine u_bipush C dX8_init_102 (v := 19) (by decide +kernel) ?_
  refine u_newa (atype := .int) (ty := .int) (t0 := 0) (N' := 19) (a0 := (19, .inl (fun _ => 0))) C (by omega) iw_59 rfl rfl (fun c' h1 h2 => ra_int h1 h2) (fun _ => rfl) (by decide) rfl (Nat.le_of_ble_eq_true rfl) (Nat.le_of_ble_eq_true rfl) (Nat.le_of_ble_eq_true rfl) dX8_init_104 ?_
  refine u_putF (q := 234) C (by omega) ((eup_ne _ _ (by decide)).trans (eup_self _ _ _)) rfl inT8 tyX8 tyX8_ok nmX8 23 (by decide) tw_915 rfl (hn.trans rfl) rfl rfl rfl (by simp only [List.length_cons, List.length_nil, List.length_set]; omega) dX8_init_106 ?_
  refine u_aload_n (j := 0) C dX8_init_109 rfl rfl ?_
  refine u_bipush C dX8_init_110 (v := 30) (by decide +kernel) ?_
  refine u_newa (atype := .int) (ty := .int) (t0 := 0) (N' := 30) (a0 := (30, .inl (fun _ => 0))) C (by omega) iw_59 rfl rfl (fun c' h1 h2 => ra_int h1 h2) (fun _ => rfl) (by decide) rfl (Nat.le_of_ble_eq_true rfl) (Nat.le_of_ble_eq_true rfl) (Nat.le_of_ble_eq_true rfl) dX8_init_112 ?_
  refine u_putF (q := 234) C (by omega) ((eup_ne _ _ (by decide)).trans (eup_self _ _ _)) rfl inT8 tyX8 tyX8_ok nmX8 25 (by decide) tw_917 rfl (hn.trans rfl) rfl rfl rfl (by simp only [List.length_cons, List.length_nil, List.length_set]; omega) dX8_init_114 ?_
  refine u_iconst C dX8_init_117 (v := 0) (by decide +kernel) ?_
  refine u_istore_n C dX8_init_118 rfl (by decide) rfl ?_
  refine u_eq rfl (fun k hk => ?_) rfl rfl (lp 8 0 rfl)
  by_cases e : k < 234
  · have e1 : mdW B cA 0 E k = E k := if_pos e
    rw [e1]
    rw [eup_ne _ _ (by omega), eup_ne _ _ (by omega), eup_ne _ _ (by omega), eup_ne _ _ (by omega), eup_ne _ _ (by omega), eup_ne _ _ (by omega), eup_ne _ _ (by omega), eup_ne _ _ (by omega), eup_ne _ _ (by omega), eup_ne _ _ (by omega), eup_ne _ _ (by omega), eup_ne _ _ (by omega), eup_ne _ _ (by omega), eup_ne _ _ (by omega), eup_ne _ _ (by omega), eup_ne _ _ (by omega), eup_ne _ _ (by omega), eup_ne _ _ (by omega), eup_ne _ _ (by omega), eup_ne _ _ (by omega), eup_ne _ _ (by omega), eup_ne _ _ (by omega), eup_ne _ _ (by omega), eup_ne _ _ (by omega), eup_ne _ _ (by omega), eup_ne _ _ (by omega), eup_ne _ _ (by omega), eup_ne _ _ (by omega)]
  · obtain ⟨j, rfl⟩ : ∃ j, k = 234 + j := ⟨k - 234, by omega⟩
    have hj : j = 0 ∨ j = 1 ∨ j = 2 ∨ j = 3 ∨ j = 4 ∨ j = 5 ∨ j = 6 ∨ j = 7 ∨ j = 8 ∨ j = 9 ∨ j = 10 ∨ j = 11 ∨ j = 12 ∨ j = 13 ∨ j = 14 := by omega
    rcases hj with rfl | rfl | rfl | rfl | rfl | rfl | rfl | rfl | rfl | rfl | rfl | rfl | rfl | rfl | rfl <;> rfl
def Enul : Nat → va_E := fun _ => .inr (2, [])
def hpW (B : Nat) (cA : cAt) (i j : Nat) : Nat → va_E := fun k => if k = 0 then .inr (7, [.ref (B + 1), .ref (B + 2), .ref (B + 4), .ref (B + 11), .ref (B + 18), .ref (B + 25), .ref (B + 26), .ref (B + 196), .ref (B + 198), .ref (B + 199), .ref (B + 200), .ref (B + 201), .ref (B + 202), .int 0, .int 0]) else if k = 1 then .inl (cA 1, 8, .inr (.inr (.inr (.inr (fun a => if a < i then some (B + (204 + 2 * a)) else none))))) else if k = 2 then .inr (6, [.ref (B + 3), .int 0, .int 0, .int 0, .int 0, .int 0, .int 0]) else if k = 3 then .inl (cA 0, 300, .inl (fun _ => 0)) else if k < 11 then sqc B cA k (k - 4) else if k < 18 then sqc B cA k (k - 11) else if k < 25 then sqc B cA k (k - 18) else if k = 25 then .inl (cA 2, 2, .inr (.inr (.inr (.inr (fun a => if a < j then some (B + (220 + 7 * a)) else none))))) else if k < 196 then actW B cA 24 Enul k else if k = 196 then .inr (3, [.ref (B + 197), .int 0]) else if k = 197 then .inl (cA 0, 20, .inl (fun _ => 0)) else if k < 201 then .inl (cA 0, 30, .inl (fun _ => 0)) else if k = 201 then .inl (cA 0, 3, .inl (fun _ => 0)) else if k = 202 then .inr (1, [.ref (B + 203), .int 0]) else if k = 203 then .inl (cA 0, 16, .inl (fun _ => 0)) else if k < 220 then (if (k - 204) % 2 = 0 then .inr (4, [.ref (B + (k + 1)), .int 0, .int (-1)]) else .inl (cA 0, 40, .inl (fun _ => 0))) else sqc B cA k ((k - 220) % 7)
theorem hpW_0 (B : Nat) (cA : cAt) (i j : Nat) : hpW B cA i j 0 = .inr (7, [.ref (B + 1), .ref (B + 2), .ref (B + 4), .ref (B + 11), .ref (B + 18), .ref (B + 25), .ref (B + 26), .ref (B + 196), .ref (B + 198), .ref (B + 199), .ref (B + 200), .ref (B + 201), .ref (B + 202), .int 0, .int 0]) := rfl
theorem hpW_1 (B : Nat) (cA : cAt) (i j : Nat) : hpW B cA i j 1 = .inl (cA 1, 8, .inr (.inr (.inr (.inr (fun a => if a < i then some (B + (204 + 2 * a)) else none))))) := rfl
theorem hpW_25 (B : Nat) (cA : cAt) (i j : Nat) : hpW B cA i j 25 = .inl (cA 2, 2, .inr (.inr (.inr (.inr (fun a => if a < j then some (B + (220 + 7 * a)) else none))))) := rfl
theorem up_some (f : Nat → Nat) (i : Nat) : va_up (fun a => if a < i then some (f a) else none) i (some (f i)) = fun a => if a < i + 1 then some (f a) else none := by
  funext a
  unfold va_up
  by_cases e : a = i
  · simp [e]
  · by_cases z : a < i
    · simp [e, z, show a < i + 1 by omega]
    · simp [e, z, show ¬ a < i + 1 by omega]
theorem hpW_row (B : Nat) (cA : cAt) {i : Nat} (hi : i < 8) (x : va_E) (k : Nat) (hk : k < 204 + 2 * i + 2) : eup (eup (eup (eup (hpW B cA i 0) (204 + 2 * i) x) (204 + 2 * i + 1) (.inl (cA 0, 40, .inl (fun _ => 0)))) (204 + 2 * i) (.inr (4, [.ref (B + (204 + 2 * i + 1)), .int 0, .int (-1)]))) 1 (.inl (cA 1, 8, .inr (.inr (.inr (.inr (va_up (fun a => if a < i then some (B + (204 + 2 * a)) else none) (nI i).toNatClampNeg (some (B + (204 + 2 * i))))))))) k = hpW B cA (i + 1) 0 k := by
  rw [nI_clamp (by omega), up_some (fun a => B + (204 + 2 * a)) i]
  by_cases e1 : k = 1
  · subst e1
    rw [eup_self, hpW_1]
  · rw [eup_ne _ _ e1]
    by_cases e2 : k = 204 + 2 * i
    · subst e2
      rw [eup_self]
      unfold hpW
      rw [if_neg (by omega), if_neg (by omega), if_neg (by omega), if_neg (by omega), if_neg (by omega), if_neg (by omega), if_neg (by omega), if_neg (by omega), if_neg (by omega), if_neg (by omega), if_neg (by omega), if_neg (by omega), if_neg (by omega), if_neg (by omega), if_neg (by omega), if_pos (by omega), if_pos (by omega)]
    · rw [eup_ne _ _ e2]
      by_cases e3 : k = 204 + 2 * i + 1
      · subst e3
        rw [eup_self]
        unfold hpW
        rw [if_neg (by omega), if_neg (by omega), if_neg (by omega), if_neg (by omega), if_neg (by omega), if_neg (by omega), if_neg (by omega), if_neg (by omega), if_neg (by omega), if_neg (by omega), if_neg (by omega), if_neg (by omega), if_neg (by omega), if_neg (by omega), if_neg (by omega), if_pos (by omega), if_neg (by omega)]
      · rw [eup_ne _ _ e3, eup_ne _ _ e2]
        unfold hpW
        rw [if_neg e1, if_neg e1]
theorem hpW_img (B : Nat) (cA : cAt) {j : Nat} (hj : j < 2) (x : va_E) (k : Nat) (hk : k < 220 + 7 * j + 7) : eup (kid5 B (220 + 7 * j) cA 5 (eup (hpW B cA 8 j) (220 + 7 * j) x)) 25 (.inl (cA 2, 2, .inr (.inr (.inr (.inr (va_up (fun a => if a < j then some (B + (220 + 7 * a)) else none) (nI j).toNatClampNeg (some (B + (220 + 7 * j))))))))) k = hpW B cA 8 (j + 1) k := by
  rw [nI_clamp (by omega), up_some (fun a => B + (220 + 7 * a)) j]
  by_cases e1 : k = 25
  · subst e1
    rw [eup_self, hpW_25]
  · rw [eup_ne _ _ e1]
    by_cases e2 : k < 220 + 7 * j
    · rw [kid5_lt _ _ _ _ e2, eup_ne _ _ (by omega)]
      unfold hpW
      rw [if_neg e1, if_neg e1]
    · obtain ⟨r, rfl⟩ : ∃ r, k = 220 + 7 * j + r := ⟨k - (220 + 7 * j), by omega⟩
      rw [kid5_sqc]
      unfold hpW
      rw [if_neg (by omega), if_neg (by omega), if_neg (by omega), if_neg (by omega), if_neg (by omega), if_neg (by omega), if_neg (by omega), if_neg (by omega), if_neg (by omega), if_neg (by omega), if_neg (by omega), if_neg (by omega), if_neg (by omega), if_neg (by omega), if_neg (by omega), if_neg (by omega), show (220 + 7 * j + r - 220) % 7 = r by omega]
theorem pdi0 : yX0_init.cls ≠ "java/lang/invoke/MethodHandle" ∧ yX0_init.cls ≠ "java/lang/invoke/VarHandle" ∧ (parseMethodDescriptor yX0_init.desc).map (fun d => d.parameters.length) = some 0 := by decide +kernel
theorem pdi1 : yX1_init.cls ≠ "java/lang/invoke/MethodHandle" ∧ yX1_init.cls ≠ "java/lang/invoke/VarHandle" ∧ (parseMethodDescriptor yX1_init.desc).map (fun d => d.parameters.length) = some 0 := by decide +kernel
theorem pdi3 : yX3_init.cls ≠ "java/lang/invoke/MethodHandle" ∧ yX3_init.cls ≠ "java/lang/invoke/VarHandle" ∧ (parseMethodDescriptor yX3_init.desc).map (fun d => d.parameters.length) = some 0 := by decide +kernel
theorem pdi4 : yX4_init.cls ≠ "java/lang/invoke/MethodHandle" ∧ yX4_init.cls ≠ "java/lang/invoke/VarHandle" ∧ (parseMethodDescriptor yX4_init.desc).map (fun d => d.parameters.length) = some 0 := by decide +kernel
theorem pdi6 : yX6_init.cls ≠ "java/lang/invoke/MethodHandle" ∧ yX6_init.cls ≠ "java/lang/invoke/VarHandle" ∧ (parseMethodDescriptor yX6_init.desc).map (fun d => d.parameters.length) = some 0 := by decide +kernel
theorem actW_lt (B : Nat) (cA : cAt) (j : Nat) (E : Nat → va_E) {k : Nat} (h : k < 26) : actW B cA j E k = E k := if_pos h
theorem actW_ge (B : Nat) (cA : cAt) (j : Nat) (E E' : Nat → va_E) {k : Nat} (h : 26 ≤ k) : actW B cA j E k = actW B cA j E' k := by
  have h2 : ¬ k < 26 := by omega
  unfold actW
  rw [if_neg h2, if_neg h2]
theorem iw_26 : (Cond.classLink "HotPennies" (9 : Nat) "HotPennies$Row") ∈ TG := tg_mem 128 (by decide +kernel) rfl
theorem iw_28 : (Cond.classLink "HotPennies" (15 : Nat) "HotPennies$Tape") ∈ TG := tg_mem 130 (by decide +kernel) rfl
theorem iw_29 : (Cond.instantiable "HotPennies$Tape" (7 : Nat)) ∈ TG := tg_mem 131 (by decide +kernel) rfl
theorem iw_2 : (Cond.initialized "HotPennies$Tape") ∈ TG := tg_mem 104 (by decide +kernel) rfl
theorem iw_32 : (Cond.code ({ cls := "HotPennies$Tape", name := "<init>", desc := "()V" } : MethodName) prog_8_method_1_code (1 : Nat) (Option.none : Option ClassFile.FieldType)) ∈ TG := tg_mem 134 (by decide +kernel) rfl
theorem iw_30 : (Cond.methodLinkNest "HotPennies" (17 : Nat) ({ cls := "HotPennies$Tape", name := "<init>", desc := "()V" } : MethodName) "HotPennies") ∈ NW := nw_mem 30 (by decide +kernel) rfl
theorem iw_31 : (Cond.instanceMethod ({ cls := "HotPennies$Tape", name := "<init>", desc := "()V" } : MethodName)) ∈ TG := tg_mem 133 (by decide +kernel) rfl
theorem iw_60 : (Cond.classLink "HotPennies" (22 : Nat) "HotPennies$Square") ∈ TG := tg_mem 162 (by decide +kernel) rfl
theorem iw_62 : (Cond.methodLinkNest "HotPennies" (24 : Nat) ({ cls := "HotPennies$Square", name := "<init>", desc := "()V" } : MethodName) "HotPennies") ∈ NW := nw_mem 62 (by decide +kernel) rfl
theorem iw_125 : (Cond.classLink "HotPennies" (39 : Nat) "HotPennies$Acts") ∈ TG := tg_mem 227 (by decide +kernel) rfl
theorem iw_126 : (Cond.instantiable "HotPennies$Acts" (2 : Nat)) ∈ TG := tg_mem 228 (by decide +kernel) rfl
theorem iw_5 : (Cond.initialized "HotPennies$Acts") ∈ TG := tg_mem 107 (by decide +kernel) rfl
theorem iw_129 : (Cond.code ({ cls := "HotPennies$Acts", name := "<init>", desc := "()V" } : MethodName) prog_2_method_1_code (2 : Nat) (Option.none : Option ClassFile.FieldType)) ∈ TG := tg_mem 231 (by decide +kernel) rfl
theorem iw_127 : (Cond.methodLinkNest "HotPennies" (41 : Nat) ({ cls := "HotPennies$Acts", name := "<init>", desc := "()V" } : MethodName) "HotPennies") ∈ NW := nw_mem 127 (by decide +kernel) rfl
theorem iw_128 : (Cond.instanceMethod ({ cls := "HotPennies$Acts", name := "<init>", desc := "()V" } : MethodName)) ∈ TG := tg_mem 230 (by decide +kernel) rfl
theorem iw_141 : (Cond.classLink "HotPennies" (46 : Nat) "HotPennies$Landing") ∈ TG := tg_mem 243 (by decide +kernel) rfl
theorem iw_142 : (Cond.instantiable "HotPennies$Landing" (2 : Nat)) ∈ TG := tg_mem 244 (by decide +kernel) rfl
theorem iw_6 : (Cond.initialized "HotPennies$Landing") ∈ TG := tg_mem 108 (by decide +kernel) rfl
theorem iw_145 : (Cond.code ({ cls := "HotPennies$Landing", name := "<init>", desc := "()V" } : MethodName) prog_5_method_1_code (1 : Nat) (Option.none : Option ClassFile.FieldType)) ∈ TG := tg_mem 247 (by decide +kernel) rfl
theorem iw_143 : (Cond.methodLinkNest "HotPennies" (48 : Nat) ({ cls := "HotPennies$Landing", name := "<init>", desc := "()V" } : MethodName) "HotPennies") ∈ NW := nw_mem 143 (by decide +kernel) rfl
theorem iw_144 : (Cond.instanceMethod ({ cls := "HotPennies$Landing", name := "<init>", desc := "()V" } : MethodName)) ∈ TG := tg_mem 246 (by decide +kernel) rfl
theorem iw_155 : (Cond.classLink "HotPennies" (66 : Nat) "HotPennies$Asks") ∈ TG := tg_mem 257 (by decide +kernel) rfl
theorem iw_156 : (Cond.instantiable "HotPennies$Asks" (2 : Nat)) ∈ TG := tg_mem 258 (by decide +kernel) rfl
theorem iw_7 : (Cond.initialized "HotPennies$Asks") ∈ TG := tg_mem 109 (by decide +kernel) rfl
theorem iw_159 : (Cond.code ({ cls := "HotPennies$Asks", name := "<init>", desc := "()V" } : MethodName) prog_3_method_1_code (1 : Nat) (Option.none : Option ClassFile.FieldType)) ∈ TG := tg_mem 261 (by decide +kernel) rfl
theorem iw_157 : (Cond.methodLinkNest "HotPennies" (68 : Nat) ({ cls := "HotPennies$Asks", name := "<init>", desc := "()V" } : MethodName) "HotPennies") ∈ NW := nw_mem 157 (by decide +kernel) rfl
theorem iw_158 : (Cond.instanceMethod ({ cls := "HotPennies$Asks", name := "<init>", desc := "()V" } : MethodName)) ∈ TG := tg_mem 260 (by decide +kernel) rfl
theorem iw_8 : (Cond.initialized "HotPennies$Row") ∈ TG := tg_mem 110 (by decide +kernel) rfl
theorem iw_169 : (Cond.instantiable "HotPennies$Row" (3 : Nat)) ∈ TG := tg_mem 271 (by decide +kernel) rfl
theorem iw_172 : (Cond.code ({ cls := "HotPennies$Row", name := "<init>", desc := "()V" } : MethodName) prog_6_method_1_code (1 : Nat) (Option.none : Option ClassFile.FieldType)) ∈ TG := tg_mem 274 (by decide +kernel) rfl
theorem iw_170 : (Cond.methodLinkNest "HotPennies" (73 : Nat) ({ cls := "HotPennies$Row", name := "<init>", desc := "()V" } : MethodName) "HotPennies") ∈ NW := nw_mem 170 (by decide +kernel) rfl
theorem iw_171 : (Cond.instanceMethod ({ cls := "HotPennies$Row", name := "<init>", desc := "()V" } : MethodName)) ∈ TG := tg_mem 273 (by decide +kernel) rfl
theorem c_iX7 (l : Launch) (D : va_G) (cA : cAt) (B : Nat) (aK aV : Nat → Nat) (E : Nat → va_E) (hE : E 0 = .inr (7, [.null, .null, .null, .null, .null, .null, .null, .null, .null, .null, .null, .null, .null, .int 0, .int 0])) : CU l D cA B aK aV yX7_init cX7_init 2 4 [.ref (B + 0)] 1 E 234 (hpW B cA 8 2) 233 1835 := by
  refine CU_of rfl (Nat.le_of_ble_eq_true rfl) fun p e s m args below meth c C hz hn hr hlk => ?_
  have lp2 : ∀ d j, j + d = 2 → U p l e (rmu 4 233 1835) s m args below meth c (219 + 7 * j) (1765 + 35 * j) D B 2 (MQ below (Qcu D B 234 (hpW B cA 8 2)) args s 233 1835 (fun q => B ≤ q)) (220 + 7 * j) (hpW B cA 8 j) 161 [(1, .int (nI j)), (0, .ref (B + 0))] [] := by
    intro d
    induction d with
    | zero =>
      intro j hj
      have e : j = 2 := by omega
      subst e
      refine u_iload_n (j := 0) C dX7_init_161 rfl rfl ?_
      refine u_aload_n (j := 1) C dX7_init_162 rfl rfl ?_
      refine u_get C (by omega) (hpW_0 _ _ _ _) rfl inT7 5 (by decide) tw_294 rfl dX7_init_163 ?_
      refine u_alen C (by omega) (hpW_25 _ _ _ _) rfl rfl dX7_init_166 ?_
      refine u_icmp_ge (tgt := 189) C dX7_init_167 (by decide) (fun g => ?_) (fun g => absurd (show (2 : Int32) ≤ nI 2 by decide) g)
      exact u_eq rfl (fun _ _ => rfl) rfl rfl (u_sub [] rfl (u_vret C hr hlk dX7_init_189))
    | succ d ih =>
      intro j hj
      have hj5 : j < 2 := by omega
      refine u_iload_n (j := 0) C dX7_init_161 rfl rfl ?_
      refine u_aload_n (j := 1) C dX7_init_162 rfl rfl ?_
      refine u_get C (by omega) (hpW_0 _ _ _ _) rfl inT7 5 (by decide) tw_294 rfl dX7_init_163 ?_
      refine u_alen C (by omega) (hpW_25 _ _ _ _) rfl rfl dX7_init_166 ?_
      refine u_icmp_ge (tgt := 189) C dX7_init_167 (by decide) (fun g => absurd g (nI_ge (a := j) (b := 2) hj5 (by omega))) (fun g => ?_)
      refine u_pc (pc' := 170) rfl ?_
      refine u_aload_n (j := 1) C dX7_init_170 rfl rfl ?_
      refine u_get C (by omega) (hpW_0 _ _ _ _) rfl inT7 5 (by decide) tw_294 rfl dX7_init_171 ?_
      refine u_iload_n (j := 0) C dX7_init_174 rfl rfl ?_
      refine u_new (fs := [.null, .int 0, .int 0, .int 0, .int 0]) C (by omega) inT5 tyX5 tyX5_ok iw_60 iw_61 iw_3 (ci := 5) rfl (by decide +kernel) (by show 219 + 7 * j + 1 ≤ 233; omega) (by show 1765 + 35 * j + 5 ≤ 1835; omega) dX7_init_175 ?_
      refine u_dup C dX7_init_178 rfl ?_
      refine u_callN C (by omega) iw_64 iw_3 iw_62 rfl iw_63 pdi5 (Nat.le_of_ble_eq_true rfl) (Nat.le_of_ble_eq_true rfl) (As := []) rfl rfl (Nat.le_of_ble_eq_true rfl) (c_iX5 l D cA B aK aV (220 + 7 * j) _ (eup_self _ _ _)) dX7_init_179 ⟨by show 219 + 7 * j + 1 + 6 ≤ 233; omega, by show 1765 + 35 * j + 5 + 30 ≤ 1835; omega⟩ (by omega) ?_
      refine u_astq (q := 25) (qk := 220 + 7 * j) C (by omega) (by omega) ((kid5_lt _ _ _ _ (by omega)).trans ((eup_ne _ _ (by omega)).trans (hpW_25 _ _ _ _))) rfl (kid5_q _ _ _ _ _) rfl (vp_in_nI hj5 (by omega)) dX7_init_182 ?_
      refine u_iinc (j := 0) C dX7_init_183 rfl (v := nI (j + 1)) (nI_1 j) (by decide) rfl ?_
      refine u_goto (tgt := 161) C dX7_init_186 (by decide) ?_
      exact u_eq (by omega) (fun k hk => hpW_img B cA hj5 _ k hk) (by omega) (by omega) (ih (j + 1) (by omega))
  have lp : ∀ d j, j + d = 8 → U p l e (rmu 4 233 1835) s m args below meth c (203 + 2 * j) (1421 + 43 * j) D B 2 (MQ below (Qcu D B 234 (hpW B cA 8 2)) args s 233 1835 (fun q => B ≤ q)) (204 + 2 * j) (hpW B cA j 0) 131 [(1, .int (nI j)), (0, .ref (B + 0))] [] := by
    intro d
    induction d with
    | zero =>
      intro j hj
      have e : j = 8 := by omega
      subst e
      refine u_iload_n (j := 0) C dX7_init_131 rfl rfl ?_
      refine u_aload_n (j := 1) C dX7_init_132 rfl rfl ?_
      refine u_get C (by omega) (hpW_0 _ _ _ _) rfl inT7 0 (by decide) tw_289 rfl dX7_init_133 ?_
      refine u_alen C (by omega) (hpW_1 _ _ _ _) rfl rfl dX7_init_136 ?_
      refine u_icmp_ge (tgt := 159) C dX7_init_137 (by decide) (fun g => ?_) (fun g => absurd (show (8 : Int32) ≤ nI 8 by decide) g)
      refine u_iconst C dX7_init_159 (v := 0) (by decide +kernel) ?_
      refine u_istore_n C dX7_init_160 rfl (by decide) rfl ?_
      exact u_eq rfl (fun _ _ => rfl) rfl rfl (lp2 2 0 rfl)
    | succ d ih =>
      intro j hj
      have hj5 : j < 8 := by omega
      refine u_iload_n (j := 0) C dX7_init_131 rfl rfl ?_
      refine u_aload_n (j := 1) C dX7_init_132 rfl rfl ?_
      refine u_get C (by omega) (hpW_0 _ _ _ _) rfl inT7 0 (by decide) tw_289 rfl dX7_init_133 ?_
      refine u_alen C (by omega) (hpW_1 _ _ _ _) rfl rfl dX7_init_136 ?_
      refine u_icmp_ge (tgt := 159) C dX7_init_137 (by decide) (fun g => absurd g (nI_ge (a := j) (b := 8) hj5 (by omega))) (fun g => ?_)
      refine u_pc (pc' := 140) rfl ?_
      refine u_aload_n (j := 1) C dX7_init_140 rfl rfl ?_
      refine u_get C (by omega) (hpW_0 _ _ _ _) rfl inT7 0 (by decide) tw_289 rfl dX7_init_141 ?_
      refine u_iload_n (j := 0) C dX7_init_144 rfl rfl ?_
      refine u_new (fs := [.null, .int 0, .int 0]) C (by omega) inT4 tyX4 tyX4_ok iw_26 iw_169 iw_8 (ci := 4) rfl (by decide +kernel) (by show 203 + 2 * j + 1 ≤ 233; omega) (by show 1421 + 43 * j + 3 ≤ 1835; omega) dX7_init_145 ?_
      refine u_dup C dX7_init_148 rfl ?_
      refine u_callN C (by omega) iw_172 iw_8 iw_170 rfl iw_171 pdi4 (Nat.le_of_ble_eq_true rfl) (Nat.le_of_ble_eq_true rfl) (As := []) rfl rfl (Nat.le_of_ble_eq_true rfl) (c_iX4 l D cA B aK aV (204 + 2 * j) _ (eup_self _ _ _)) dX7_init_149 ⟨by show 203 + 2 * j + 1 + 1 ≤ 233; omega, by show 1421 + 43 * j + 3 + 40 ≤ 1835; omega⟩ (by omega) ?_
      refine u_astq (q := 1) (qk := 204 + 2 * j) C (by omega) (by omega) ((eup_ne _ _ (by omega)).trans ((eup_ne _ _ (by omega)).trans ((eup_ne _ _ (by omega)).trans (hpW_1 _ _ _ _)))) rfl (eup_self _ _ _) rfl (vp_in_nI hj5 (by omega)) dX7_init_152 ?_
      refine u_iinc (j := 0) C dX7_init_153 rfl (v := nI (j + 1)) (nI_1 j) (by decide) rfl ?_
      refine u_goto (tgt := 131) C dX7_init_156 (by decide) ?_
      exact u_eq (by omega) (fun k hk => hpW_row B cA hj5 _ k hk) (by omega) (by omega) (ih (j + 1) (by omega))
  refine u_aload_n (j := 0) C dX7_init_0 rfl rfl ?_
  refine u_obj C iw_23 (Nat.le_of_ble_eq_true rfl) (Nat.le_of_ble_eq_true rfl) (Nat.le_of_ble_eq_true rfl) dX7_init_1 ?_
  refine u_aload_n (j := 0) C dX7_init_4 rfl rfl ?_
  refine u_bipush C dX7_init_5 (v := 8) (by decide +kernel) ?_
  refine u_newq (t0 := 1) (N' := 8) C (by omega) iw_26 C.2.2.2.2.2.2.2.1 rfl (by decide) rfl (Nat.le_of_ble_eq_true rfl) (Nat.le_of_ble_eq_true rfl) (Nat.le_of_ble_eq_true rfl) dX7_init_7 ?_
  refine u_putF (q := 0) C (by omega) ((eup_ne _ _ (by decide)).trans (hE)) rfl inT7 tyX7 tyX7_ok nmX7 0 (by decide) tw_289 rfl (hn.trans rfl) rfl rfl rfl (by simp only [List.length_cons, List.length_nil, List.length_set]; omega) dX7_init_10 ?_
  refine u_aload_n (j := 0) C dX7_init_13 rfl rfl ?_
  refine u_new (fs := [.null, .int 0, .int 0, .int 0, .int 0, .int 0, .int 0]) C (by omega) inT6 tyX6 tyX6_ok iw_28 iw_29 iw_2 (ci := 6) rfl (by decide +kernel) (Nat.le_of_ble_eq_true rfl) (Nat.le_of_ble_eq_true rfl) dX7_init_14 ?_
  refine u_dup C dX7_init_17 rfl ?_
  refine u_callN C (by omega) iw_32 iw_2 iw_30 rfl iw_31 pdi6 (Nat.le_of_ble_eq_true rfl) (Nat.le_of_ble_eq_true rfl) (As := []) rfl rfl (Nat.le_of_ble_eq_true rfl) (c_iX6 l D cA B aK aV 2 _ (eup_self _ _ _)) dX7_init_18 ⟨Nat.le_of_ble_eq_true rfl, Nat.le_of_ble_eq_true rfl⟩ (by omega) ?_
  refine u_putF (q := 0) C (by omega) ((eup_ne _ _ (by decide)).trans ((eup_ne _ _ (by decide)).trans ((eup_ne _ _ (by decide)).trans (eup_self _ _ _)))) rfl inT7 tyX7 tyX7_ok nmX7 1 (by decide) tw_290 rfl (hn.trans rfl) rfl rfl rfl (by simp only [List.length_cons, List.length_nil, List.length_set]; omega) dX7_init_21 ?_
  refine u_aload_n (j := 0) C dX7_init_24 rfl rfl ?_
  refine u_new (fs := [.null, .int 0, .int 0, .int 0, .int 0]) C (by omega) inT5 tyX5 tyX5_ok iw_60 iw_61 iw_3 (ci := 5) rfl (by decide +kernel) (Nat.le_of_ble_eq_true rfl) (Nat.le_of_ble_eq_true rfl) dX7_init_25 ?_
  refine u_dup C dX7_init_28 rfl ?_
  refine u_callN C (by omega) iw_64 iw_3 iw_62 rfl iw_63 pdi5 (Nat.le_of_ble_eq_true rfl) (Nat.le_of_ble_eq_true rfl) (As := []) rfl rfl (Nat.le_of_ble_eq_true rfl) (c_iX5 l D cA B aK aV 4 _ (eup_self _ _ _)) dX7_init_29 ⟨Nat.le_of_ble_eq_true rfl, Nat.le_of_ble_eq_true rfl⟩ (by omega) ?_
  refine u_putF (q := 0) C (by omega) ((kid5_lt _ _ _ _ (by decide)).trans ((eup_ne _ _ (by decide)).trans (eup_self _ _ _))) rfl inT7 tyX7 tyX7_ok nmX7 2 (by decide) tw_291 rfl (hn.trans rfl) rfl rfl rfl (by simp only [List.length_cons, List.length_nil, List.length_set]; omega) dX7_init_32 ?_
  refine u_aload_n (j := 0) C dX7_init_35 rfl rfl ?_
  refine u_new (fs := [.null, .int 0, .int 0, .int 0, .int 0]) C (by omega) inT5 tyX5 tyX5_ok iw_60 iw_61 iw_3 (ci := 5) rfl (by decide +kernel) (Nat.le_of_ble_eq_true rfl) (Nat.le_of_ble_eq_true rfl) dX7_init_36 ?_
  refine u_dup C dX7_init_39 rfl ?_
  refine u_callN C (by omega) iw_64 iw_3 iw_62 rfl iw_63 pdi5 (Nat.le_of_ble_eq_true rfl) (Nat.le_of_ble_eq_true rfl) (As := []) rfl rfl (Nat.le_of_ble_eq_true rfl) (c_iX5 l D cA B aK aV 11 _ (eup_self _ _ _)) dX7_init_40 ⟨Nat.le_of_ble_eq_true rfl, Nat.le_of_ble_eq_true rfl⟩ (by omega) ?_
  refine u_putF (q := 0) C (by omega) ((kid5_lt _ _ _ _ (by decide)).trans ((eup_ne _ _ (by decide)).trans (eup_self _ _ _))) rfl inT7 tyX7 tyX7_ok nmX7 3 (by decide) tw_292 rfl (hn.trans rfl) rfl rfl rfl (by simp only [List.length_cons, List.length_nil, List.length_set]; omega) dX7_init_43 ?_
  refine u_aload_n (j := 0) C dX7_init_46 rfl rfl ?_
  refine u_new (fs := [.null, .int 0, .int 0, .int 0, .int 0]) C (by omega) inT5 tyX5 tyX5_ok iw_60 iw_61 iw_3 (ci := 5) rfl (by decide +kernel) (Nat.le_of_ble_eq_true rfl) (Nat.le_of_ble_eq_true rfl) dX7_init_47 ?_
  refine u_dup C dX7_init_50 rfl ?_
  refine u_callN C (by omega) iw_64 iw_3 iw_62 rfl iw_63 pdi5 (Nat.le_of_ble_eq_true rfl) (Nat.le_of_ble_eq_true rfl) (As := []) rfl rfl (Nat.le_of_ble_eq_true rfl) (c_iX5 l D cA B aK aV 18 _ (eup_self _ _ _)) dX7_init_51 ⟨Nat.le_of_ble_eq_true rfl, Nat.le_of_ble_eq_true rfl⟩ (by omega) ?_
  refine u_putF (q := 0) C (by omega) ((kid5_lt _ _ _ _ (by decide)).trans ((eup_ne _ _ (by decide)).trans (eup_self _ _ _))) rfl inT7 tyX7 tyX7_ok nmX7 4 (by decide) tw_293 rfl (hn.trans rfl) rfl rfl rfl (by simp only [List.length_cons, List.length_nil, List.length_set]; omega) dX7_init_54 ?_
  refine u_aload_n (j := 0) C dX7_init_57 rfl rfl ?_
  refine u_iconst C dX7_init_58 (v := 2) (by decide +kernel) ?_
  refine u_newq (t0 := 2) (N' := 2) C (by omega) iw_60 C.2.2.2.2.2.2.2.2.1 rfl (by decide) rfl (Nat.le_of_ble_eq_true rfl) (Nat.le_of_ble_eq_true rfl) (Nat.le_of_ble_eq_true rfl) dX7_init_59 ?_
  refine u_putF (q := 0) C (by omega) ((eup_ne _ _ (by decide)).trans (eup_self _ _ _)) rfl inT7 tyX7 tyX7_ok nmX7 5 (by decide) tw_294 rfl (hn.trans rfl) rfl rfl rfl (by simp only [List.length_cons, List.length_nil, List.length_set]; omega) dX7_init_62 ?_
  refine u_aload_n (j := 0) C dX7_init_65 rfl rfl ?_
  refine u_new (fs := [.null, .int 0]) C (by omega) inT0 tyX0 tyX0_ok iw_125 iw_126 iw_5 (ci := 0) rfl (by decide +kernel) (Nat.le_of_ble_eq_true rfl) (Nat.le_of_ble_eq_true rfl) dX7_init_66 ?_
  refine u_dup C dX7_init_69 rfl ?_
  refine u_callN C (by omega) iw_129 iw_5 iw_127 rfl iw_128 pdi0 (Nat.le_of_ble_eq_true rfl) (Nat.le_of_ble_eq_true rfl) (As := []) rfl rfl (Nat.le_of_ble_eq_true rfl) (c_iX0 l D cA B aK aV _ (eup_self _ _ _)) dX7_init_70 ⟨Nat.le_of_ble_eq_true rfl, Nat.le_of_ble_eq_true rfl⟩ (by omega) ?_
  refine u_putF (q := 0) C (by omega) ((actW_lt _ _ _ _ (by decide)).trans ((eup_ne _ _ (by decide)).trans (eup_self _ _ _))) rfl inT7 tyX7 tyX7_ok nmX7 6 (by decide) tw_295 rfl (hn.trans rfl) rfl rfl rfl (by simp only [List.length_cons, List.length_nil, List.length_set]; omega) dX7_init_73 ?_
  refine u_aload_n (j := 0) C dX7_init_76 rfl rfl ?_
  refine u_new (fs := [.null, .int 0]) C (by omega) inT3 tyX3 tyX3_ok iw_141 iw_142 iw_6 (ci := 3) rfl (by decide +kernel) (Nat.le_of_ble_eq_true rfl) (Nat.le_of_ble_eq_true rfl) dX7_init_77 ?_
  refine u_dup C dX7_init_80 rfl ?_
  refine u_callN C (by omega) iw_145 iw_6 iw_143 rfl iw_144 pdi3 (Nat.le_of_ble_eq_true rfl) (Nat.le_of_ble_eq_true rfl) (As := []) rfl rfl (Nat.le_of_ble_eq_true rfl) (c_iX3 l D cA B aK aV 196 _ (eup_self _ _ _)) dX7_init_81 ⟨Nat.le_of_ble_eq_true rfl, Nat.le_of_ble_eq_true rfl⟩ (by omega) ?_
  refine u_putF (q := 0) C (by omega) ((eup_ne _ _ (by decide)).trans ((eup_ne _ _ (by decide)).trans ((eup_ne _ _ (by decide)).trans (eup_self _ _ _)))) rfl inT7 tyX7 tyX7_ok nmX7 7 (by decide) tw_296 rfl (hn.trans rfl) rfl rfl rfl (by simp only [List.length_cons, List.length_nil, List.length_set]; omega) dX7_init_84 ?_
  refine u_aload_n (j := 0) C dX7_init_87 rfl rfl ?_
  refine u_bipush C dX7_init_88 (v := 30) (by decide +kernel) ?_
  refine u_newa (atype := .int) (ty := .int) (t0 := 0) (N' := 30) (a0 := (30, .inl (fun _ => 0))) C (by omega) iw_59 rfl rfl (fun c' h1 h2 => ra_int h1 h2) (fun _ => rfl) (by decide) rfl (Nat.le_of_ble_eq_true rfl) (Nat.le_of_ble_eq_true rfl) (Nat.le_of_ble_eq_true rfl) dX7_init_90 ?_
  refine u_putF (q := 0) C (by omega) ((eup_ne _ _ (by decide)).trans (eup_self _ _ _)) rfl inT7 tyX7 tyX7_ok nmX7 8 (by decide) tw_297 rfl (hn.trans rfl) rfl rfl rfl (by simp only [List.length_cons, List.length_nil, List.length_set]; omega) dX7_init_92 ?_
  refine u_aload_n (j := 0) C dX7_init_95 rfl rfl ?_
  refine u_bipush C dX7_init_96 (v := 30) (by decide +kernel) ?_
  refine u_newa (atype := .int) (ty := .int) (t0 := 0) (N' := 30) (a0 := (30, .inl (fun _ => 0))) C (by omega) iw_59 rfl rfl (fun c' h1 h2 => ra_int h1 h2) (fun _ => rfl) (by decide) rfl (Nat.le_of_ble_eq_true rfl) (Nat.le_of_ble_eq_true rfl) (Nat.le_of_ble_eq_true rfl) dX7_init_98 ?_
  refine u_putF (q := 0) C (by omega) ((eup_ne _ _ (by decide)).trans (eup_self _ _ _)) rfl inT7 tyX7 tyX7_ok nmX7 9 (by decide) tw_298 rfl (hn.trans rfl) rfl rfl rfl (by simp only [List.length_cons, List.length_nil, List.length_set]; omega) dX7_init_100 ?_
  refine u_aload_n (j := 0) C dX7_init_103 rfl rfl ?_
  refine u_bipush C dX7_init_104 (v := 30) (by decide +kernel) ?_
  refine u_newa (atype := .int) (ty := .int) (t0 := 0) (N' := 30) (a0 := (30, .inl (fun _ => 0))) C (by omega) iw_59 rfl rfl (fun c' h1 h2 => ra_int h1 h2) (fun _ => rfl) (by decide) rfl (Nat.le_of_ble_eq_true rfl) (Nat.le_of_ble_eq_true rfl) (Nat.le_of_ble_eq_true rfl) dX7_init_106 ?_
  refine u_putF (q := 0) C (by omega) ((eup_ne _ _ (by decide)).trans (eup_self _ _ _)) rfl inT7 tyX7 tyX7_ok nmX7 10 (by decide) tw_299 rfl (hn.trans rfl) rfl rfl rfl (by simp only [List.length_cons, List.length_nil, List.length_set]; omega) dX7_init_108 ?_
  refine u_aload_n (j := 0) C dX7_init_111 rfl rfl ?_
  refine u_iconst C dX7_init_112 (v := 3) (by decide +kernel) ?_
  refine u_newa (atype := .int) (ty := .int) (t0 := 0) (N' := 3) (a0 := (3, .inl (fun _ => 0))) C (by omega) iw_59 rfl rfl (fun c' h1 h2 => ra_int h1 h2) (fun _ => rfl) (by decide) rfl (Nat.le_of_ble_eq_true rfl) (Nat.le_of_ble_eq_true rfl) (Nat.le_of_ble_eq_true rfl) dX7_init_113 ?_
  refine u_putF (q := 0) C (by omega) ((eup_ne _ _ (by decide)).trans (eup_self _ _ _)) rfl inT7 tyX7 tyX7_ok nmX7 11 (by decide) tw_300 rfl (hn.trans rfl) rfl rfl rfl (by simp only [List.length_cons, List.length_nil, List.length_set]; omega) dX7_init_115 ?_
  refine u_aload_n (j := 0) C dX7_init_118 rfl rfl ?_
  refine u_new (fs := [.null, .int 0]) C (by omega) inT1 tyX1 tyX1_ok iw_155 iw_156 iw_7 (ci := 1) rfl (by decide +kernel) (Nat.le_of_ble_eq_true rfl) (Nat.le_of_ble_eq_true rfl) dX7_init_119 ?_
  refine u_dup C dX7_init_122 rfl ?_
  refine u_callN C (by omega) iw_159 iw_7 iw_157 rfl iw_158 pdi1 (Nat.le_of_ble_eq_true rfl) (Nat.le_of_ble_eq_true rfl) (As := []) rfl rfl (Nat.le_of_ble_eq_true rfl) (c_iX1 l D cA B aK aV 202 _ (eup_self _ _ _)) dX7_init_123 ⟨Nat.le_of_ble_eq_true rfl, Nat.le_of_ble_eq_true rfl⟩ (by omega) ?_
  refine u_putF (q := 0) C (by omega) ((eup_ne _ _ (by decide)).trans ((eup_ne _ _ (by decide)).trans ((eup_ne _ _ (by decide)).trans (eup_self _ _ _)))) rfl inT7 tyX7 tyX7_ok nmX7 12 (by decide) tw_301 rfl (hn.trans rfl) rfl rfl rfl (by simp only [List.length_cons, List.length_nil, List.length_set]; omega) dX7_init_126 ?_
  refine u_iconst C dX7_init_129 (v := 0) (by decide +kernel) ?_
  refine u_istore_n C dX7_init_130 rfl (by decide) rfl ?_
  refine u_eq rfl (fun k hk => ?_) rfl rfl (lp 8 0 rfl)
  by_cases e : k < 26
  · have hj : k = 0 ∨ k = 1 ∨ k = 2 ∨ k = 3 ∨ k = 4 ∨ k = 5 ∨ k = 6 ∨ k = 7 ∨ k = 8 ∨ k = 9 ∨ k = 10 ∨ k = 11 ∨ k = 12 ∨ k = 13 ∨ k = 14 ∨ k = 15 ∨ k = 16 ∨ k = 17 ∨ k = 18 ∨ k = 19 ∨ k = 20 ∨ k = 21 ∨ k = 22 ∨ k = 23 ∨ k = 24 ∨ k = 25 := by omega
    rcases hj with rfl | rfl | rfl | rfl | rfl | rfl | rfl | rfl | rfl | rfl | rfl | rfl | rfl | rfl | rfl | rfl | rfl | rfl | rfl | rfl | rfl | rfl | rfl | rfl | rfl | rfl <;> rfl
  · by_cases e2 : k < 196
    · rw [eup_ne _ _ (by omega), eup_ne _ _ (by omega), eup_ne _ _ (by omega), eup_ne _ _ (by omega), eup_ne _ _ (by omega), eup_ne _ _ (by omega), eup_ne _ _ (by omega), eup_ne _ _ (by omega), eup_ne _ _ (by omega), eup_ne _ _ (by omega), eup_ne _ _ (by omega), eup_ne _ _ (by omega), eup_ne _ _ (by omega), eup_ne _ _ (by omega), eup_ne _ _ (by omega), eup_ne _ _ (by omega), eup_ne _ _ (by omega)]
      unfold hpW
      rw [if_neg (by omega), if_neg (by omega), if_neg (by omega), if_neg (by omega), if_neg (by omega), if_neg (by omega), if_neg (by omega), if_neg (by omega), if_pos e2]
      exact actW_ge _ _ _ _ _ (by omega)
    · obtain ⟨j, rfl⟩ : ∃ j, k = 196 + j := ⟨k - 196, by omega⟩
      have hj : j = 0 ∨ j = 1 ∨ j = 2 ∨ j = 3 ∨ j = 4 ∨ j = 5 ∨ j = 6 ∨ j = 7 := by omega
      rcases hj with rfl | rfl | rfl | rfl | rfl | rfl | rfl | rfl <;> rfl
