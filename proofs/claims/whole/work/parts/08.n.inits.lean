/-! ## THE CONSTRUCTORS: their contracts -/
theorem iw_25 : (Cond.code ({ cls := "java/lang/Object", name := "<init>", desc := "()V" } : MethodName) object_method_1_code (1 : Nat) (Option.none : Option ClassFile.FieldType)) ∈ TG := tg_mem 127 (by decide +kernel) rfl
theorem iw_24 : (Cond.instanceMethod ({ cls := "java/lang/Object", name := "<init>", desc := "()V" } : MethodName)) ∈ TG := tg_mem 126 (by decide +kernel) rfl
theorem iw_130 : (Cond.methodLink "HotPennies$Acts" (3 : Nat) ({ cls := "java/lang/Object", name := "<init>", desc := "()V" } : MethodName)) ∈ TG := tg_mem 232 (by decide +kernel) rfl
theorem iw_160 : (Cond.methodLink "HotPennies$Asks" (3 : Nat) ({ cls := "java/lang/Object", name := "<init>", desc := "()V" } : MethodName)) ∈ TG := tg_mem 262 (by decide +kernel) rfl
theorem iw_72 : (Cond.methodLink "HotPennies$Child" (3 : Nat) ({ cls := "java/lang/Object", name := "<init>", desc := "()V" } : MethodName)) ∈ TG := tg_mem 174 (by decide +kernel) rfl
theorem iw_146 : (Cond.methodLink "HotPennies$Landing" (3 : Nat) ({ cls := "java/lang/Object", name := "<init>", desc := "()V" } : MethodName)) ∈ TG := tg_mem 248 (by decide +kernel) rfl
theorem iw_173 : (Cond.methodLink "HotPennies$Row" (3 : Nat) ({ cls := "java/lang/Object", name := "<init>", desc := "()V" } : MethodName)) ∈ TG := tg_mem 275 (by decide +kernel) rfl
theorem iw_65 : (Cond.methodLink "HotPennies$Square" (3 : Nat) ({ cls := "java/lang/Object", name := "<init>", desc := "()V" } : MethodName)) ∈ TG := tg_mem 167 (by decide +kernel) rfl
theorem iw_33 : (Cond.methodLink "HotPennies$Tape" (3 : Nat) ({ cls := "java/lang/Object", name := "<init>", desc := "()V" } : MethodName)) ∈ TG := tg_mem 135 (by decide +kernel) rfl
theorem iw_23 : (Cond.methodLink "HotPennies" (1 : Nat) ({ cls := "java/lang/Object", name := "<init>", desc := "()V" } : MethodName)) ∈ TG := tg_mem 125 (by decide +kernel) rfl
theorem iw_789 : (Cond.methodLink "HotPenniesModel" (1 : Nat) ({ cls := "java/lang/Object", name := "<init>", desc := "()V" } : MethodName)) ∈ TG := tg_mem 891 (by decide +kernel) rfl
theorem u_obj {p : Program} {l : Launch} {e : Env} {R : Room} {s : State} {m : MethodId} {args : Array Value} {below : List Frame} {meth : Method} {c : Code} {kc ks : Nat} {D : va_G} {cA : cAt} {B : Nat} {aK aV : Nat → Nat} {nL : Nat} {Q : State → Prop} {n : Nat} {E : Nat → va_E} {pc : Nat} {L : List (Nat × Value)} {st : List Value} {cc : ByteArray} {own : String} {q idx : Nat} (C : Cu p s m args c D cA B aK aV cc nL own) (hlink : Cond.methodLink own idx Lib.objectInit ∈ TG) (hfr : 1 ≤ R.frames) (hlo : 20 ≤ R.locals) (hW : (st.map fun v => v.category).sum ≤ 8) (hdg : decode cc pc = .ok (.invokespecial idx, 3)) (k : U p l e R s m args below meth c kc ks D B nL Q n E (pc + 3) L st) : U p l e R s m args below meth c kc ks D B nL Q n E pc L (.ref (B + q) :: st) := fun H locs ls h1 h2 h3 =>
  W.objInit C.1 C.2.1 C.2.2.2.1 (C.2.2.2.2.1 _ hlink) (C.2.2.2.2.1 _ iw_24) (C.2.2.2.2.1 _ iw_25) rfl (h3.1.trans C.2.2.1.symm) rfl hdg hfr (by have := lv_room (m := m) (pc := pc) (ls := ls) (rest := .ref (B + q) :: st) hW; omega) (k H locs ls h1 h2 h3)
theorem c_iX2 (l : Launch) (D : va_G) (cA : cAt) (B : Nat) (aK aV : Nat → Nat) (q n : Nat) (E : Nat → va_E) (x : Int32) (hq : q < n) (hE : E q = .inr (2, [.int 0, .int 0, .int 0, .int 0, .int 0])) : CU l D cA B aK aV yX2_init cX2_init 2 1 [.ref (B + q), .int x] n E n (eup E q (.inr (2, [.int x, .int 0, .int 0, .int 0, .int 0]))) 0 0 := by
  refine CU_of rfl (Nat.le_of_ble_eq_true rfl) fun p e s m args below meth c C hz hn hr hlk => ?_
  refine u_aload_n (j := 0) C dX2_init_0 rfl rfl ?_
  refine u_obj C iw_72 (Nat.le_of_ble_eq_true rfl) (Nat.le_of_ble_eq_true rfl) (Nat.le_of_ble_eq_true rfl) dX2_init_1 ?_
  refine u_aload_n (j := 0) C dX2_init_4 rfl rfl ?_
  refine u_iload_n (j := 1) C dX2_init_5 rfl rfl ?_
  refine u_putF C hq hE rfl inT2 tyX2 tyX2_ok nmX2 0 (by decide) tw_175 rfl (hn.trans rfl) rfl rfl rfl (by decide) dX2_init_6 ?_
  exact u_vret C hr hlk dX2_init_9
