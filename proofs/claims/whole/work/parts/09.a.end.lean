theorem wl_c7 : (Cond.classLink "HotPenniesLaw" (7 : Nat) "HotPennies") ∈ TG := tg_mem 120 (by decide +kernel) rfl
theorem wl_c8 : (Cond.classLink "HotPenniesLaw" (10 : Nat) "HotPenniesModel") ∈ TG := tg_mem 886 (by decide +kernel) rfl
theorem wl_in7 : (Cond.instantiable "HotPennies" (15 : Nat)) ∈ TG := tg_mem 121 (by decide +kernel) rfl
theorem wl_ini7 : (Cond.initialized "HotPennies") ∈ TG := tg_mem 103 (by decide +kernel) rfl
theorem wl_m7 : (Cond.methodLink "HotPenniesLaw" (9 : Nat) ({ cls := "HotPennies", name := "<init>", desc := "()V" } : MethodName)) ∈ TG := tg_mem 122 (by decide +kernel) rfl
theorem wl_im7 : (Cond.instanceMethod ({ cls := "HotPennies", name := "<init>", desc := "()V" } : MethodName)) ∈ TG := tg_mem 123 (by decide +kernel) rfl
theorem wl_co7 : (Cond.code ({ cls := "HotPennies", name := "<init>", desc := "()V" } : MethodName) prog_1_method_1_code (2 : Nat) (Option.none : Option ClassFile.FieldType)) ∈ TG := tg_mem 124 (by decide +kernel) rfl
theorem pdi7 : yX7_init.cls ≠ "java/lang/invoke/MethodHandle" ∧ yX7_init.cls ≠ "java/lang/invoke/VarHandle" ∧ (parseMethodDescriptor yX7_init.desc).map (fun d => d.parameters.length) = some 0 := by decide +kernel
theorem wl_in8 : (Cond.instantiable "HotPenniesModel" (26 : Nat)) ∈ TG := tg_mem 887 (by decide +kernel) rfl
theorem wl_ini8 : (Cond.initialized "HotPenniesModel") ∈ TG := tg_mem 111 (by decide +kernel) rfl
theorem wl_m8 : (Cond.methodLink "HotPenniesLaw" (12 : Nat) ({ cls := "HotPenniesModel", name := "<init>", desc := "()V" } : MethodName)) ∈ TG := tg_mem 888 (by decide +kernel) rfl
theorem wl_im8 : (Cond.instanceMethod ({ cls := "HotPenniesModel", name := "<init>", desc := "()V" } : MethodName)) ∈ TG := tg_mem 889 (by decide +kernel) rfl
theorem wl_co8 : (Cond.code ({ cls := "HotPenniesModel", name := "<init>", desc := "()V" } : MethodName) prog_10_method_1_code (2 : Nat) (Option.none : Option ClassFile.FieldType)) ∈ TG := tg_mem 890 (by decide +kernel) rfl
theorem pdi8 : yX8_init.cls ≠ "java/lang/invoke/MethodHandle" ∧ yX8_init.cls ≠ "java/lang/invoke/VarHandle" ∧ (parseMethodDescriptor yX8_init.desc).map (fun d => d.parameters.length) = some 0 := by decide +kernel
theorem mdW_hp (B : Nat) (cA : cAt) (x : va_E) (k : Nat) (hk : k < 249) : mdW B cA 8 (eup (hpW B cA 8 2) 234 x) k = mdW B cA 8 (hpW B cA 8 2) k := by
  unfold mdW
  by_cases h : k < 234
  · rw [if_pos h, if_pos h, eup_ne _ _ (by omega)]
  · rw [if_neg h, if_neg h]
/-- THE LAW, from its entry -/
theorem whole_start {p : Program} {e : Env} {s : State} {m : MethodId} {below : List Frame} {meth : Method} {c : Code} (l : Launch) (hflags : l.flags = flags0) {b L : Nat} {xs : Nat → Int32} (hL : L ≤ 3072) (C0 : lw_At p s m meth c b L xs) : W p l e room_1 s m #[Value.ref b] below meth c s.heap [] 0 0 (lw_Z below #[Value.ref b] s) (entryFrame m ([Value.ref b] : List Value).toArray 4) := by
  obtain ⟨hx, hb, hr, hml, hown, hts, hX, hbl, hlocks, hgv⟩ := id C0
  obtain ⟨D, cA, aK, aV, hK, hO⟩ := st_all hts hgv
  have hT : ∀ w ∈ TG, w.before #[Value.ref b] s = true := fun w h => hts w (List.mem_filter.mp h).1
  have C : Cu p s m #[Value.ref b] c D cA s.heap.size aK aV cL_law 4 RL := ⟨hx, hb, hml, hown, hT, hK, Nat.le_refl _, hO⟩
  have CC : Cx p room_1 s m #[Value.ref b] c 600000 7302250 D cA s.heap.size aK aV cL_law 4 RL := ⟨hx, hb, hml, hown, hT, hK, Nat.le_of_ble_eq_true rfl, Nat.le_of_ble_eq_true rfl⟩
  have key : U p l e room_1 s m #[Value.ref b] below meth c 0 0 D s.heap.size 4 (lw_Z below #[Value.ref b] s) 0 Enul 0 [(0, .ref b)] [] := by
    refine u_new (fs := [.null, .null, .null, .null, .null, .null, .null, .null, .null, .null, .null, .null, .null, .int 0, .int 0]) C rfl inT7 tyX7 tyX7_ok wl_c7 wl_in7 wl_ini7 (ci := 7) rfl (by decide +kernel) (Nat.le_of_ble_eq_true rfl) (Nat.le_of_ble_eq_true rfl) dL_law_0 ?_
    refine u_dup C dL_law_3 rfl ?_
    refine u_call C (by omega) wl_co7 wl_ini7 wl_m7 rfl wl_im7 pdi7 (Nat.le_of_ble_eq_true rfl) (Nat.le_of_ble_eq_true rfl) (As := []) rfl rfl (Nat.le_of_ble_eq_true rfl) (c_iX7 l D cA s.heap.size aK aV _ (eup_self _ _ _)) dL_law_4 ⟨Nat.le_of_ble_eq_true rfl, Nat.le_of_ble_eq_true rfl⟩ (by omega) ?_
    refine u_astore_n C dL_law_7 rfl (by decide) rfl ?_
    refine u_new (fs := [.int 0, .null, .null, .null, .null, .int 0, .int 0, .null, .null, .null, .int 0, .null, .null, .null, .int 0, .int 0, .int 0, .int 0, .int 0, .int 0, .null, .int 0, .null, .null, .int 0, .null]) C (by omega) inT8 tyX8 tyX8_ok wl_c8 wl_in8 wl_ini8 (ci := 8) rfl (by decide +kernel) (Nat.le_of_ble_eq_true rfl) (Nat.le_of_ble_eq_true rfl) dL_law_8 ?_
    refine u_dup C dL_law_11 rfl ?_
    refine u_call C (by omega) wl_co8 wl_ini8 wl_m8 rfl wl_im8 pdi8 (Nat.le_of_ble_eq_true rfl) (Nat.le_of_ble_eq_true rfl) (As := []) rfl rfl (Nat.le_of_ble_eq_true rfl) (c_iX8 l D cA s.heap.size aK aV _ (eup_self _ _ _)) dL_law_12 ⟨Nat.le_of_ble_eq_true rfl, Nat.le_of_ble_eq_true rfl⟩ (by omega) ?_
    refine u_astore_n C dL_law_15 rfl (by decide) rfl ?_
    refine u_iconst C dL_law_16 (v := 0) (by decide +kernel) ?_
    refine u_istore_n C dL_law_17 rfl (by decide) rfl ?_
    intro H locs ls h1 h2 h3
    rw [GL_congr (fun k hk => mdW_hp s.heap.size cA _ k hk)] at h1
    refine W.widen (k := 600000) (n := 7302250) (Nat.le_of_ble_eq_true rfl) (Nat.le_of_ble_eq_true rfl) ?_
    exact c_law CC ⟨hr, rfl⟩ hlocks hX ⟨hbl, hbl⟩ M0 1 rfl (law_ok inv_M0 hL) H locs ls (fin_P h1) h2 (lv_sub h3 [3, 2, 1, 0] rfl)
  have hl := lv_entry ([.ref b]) (n := 4) (Nat.le_of_ble_eq_true rfl)
  rw [lg_entry_eq]
  exact key s.heap [] _ (fun k q h => absurd (GL_inv h).1 (Nat.not_lt_zero k)) va_S.rf hl
-- what follows is the skeleton's own text
set_option maxHeartbeats 4000000 in
theorem lw_walk (l : Launch) (hflags : l.flags = flags0) (b : Addr) (xs : List Int32) : MetFree l x (headSpec (Jvm.Cond.code x code maxLocals ret :: tables_1) room_1) (lw_P b xs) (fun _ _ _ _ _ => True) lw_Q := by
  refine MetFree.of_bodyS (code := code) (maxLocals := maxLocals) (ret := ret) (by decide) ?_ ?_
  · intro args s m h hn
    obtain ⟨meth, c, h1, h2, h3, h4, h5, h6, -, -⟩ := Cond.code_spec hn (atoms_spec (ws := Jvm.Cond.code x code maxLocals ret :: tables_1) h _ List.mem_cons_self)
    exact ⟨meth, c, h1, h2, h3, h4, h5, h6⟩
  · intro p e s m args below meth c s₁ B hml0 hP _
    obtain ⟨rfl, hx, hbd, hgv⟩ := hP
    obtain ⟨scr, harrAt, hlist, hof, hsmall⟩ := hx
    obtain ⟨hcb, hkn, -, -⟩ := State.arrayAt?_spec harrAt
    have hown : s.vm.findClass R_law = some m.cls := findClass_of_methodNamed B.named
    have hts0 : ∀ c ∈ (Jvm.Cond.code x code maxLocals ret :: tables_1), c.before #[Value.ref b] s = true := atoms_spec (ws := Jvm.Cond.code x code maxLocals ret :: tables_1) B.pre
    have hts : ∀ w ∈ lw_tbl, w.before #[Value.ref b] s = true := k2_hts_sels lw_privs (fun w hw => hts0 w (List.mem_cons_of_mem _ hw)) lw_privs_ok
    have hml : c.maxLocals = 4 := B.maxLocals_eq (hts0 _ List.mem_cons_self)
    have X₀ : Stand p l e room_1 s m #[Value.ref b] below meth c s₁ [] 0 0 := Stand.of_body B
    have hh0 : s₁.heap = s.heap := by rw [B.state]; rfl
    have hsz : scr.slots.size = xs.length := by rw [← Array.length_toList, hlist, List.length_map]
    have hval : ∀ j : Nat, j < xs.length → scr.slots[j]? = some (.int (xs.getD j 0)) := fun j hj => by
      rw [← Array.getElem?_toList, hlist]
      simp [hj]
    have hbl : b < s.heap.size := (Array.getElem?_eq_some_iff.mp hcb).1
    have hX : va_X b xs.length (fun j => xs.getD j 0) s s.heap := ⟨scr, hcb, hof, hkn, hsz, hval⟩
    have K : W p l e room_1 s m #[Value.ref b] below meth c s₁.heap [] 0 0 (lw_Z below #[Value.ref b] s) (entryFrame m ([Value.ref b] : List Value).toArray 4) := by
      rw [hh0]
      exact whole_start l hflags hbd ⟨B.exec, B.bytes, B.returns, hml, hown, hts, hX, hbl, B.notSynchronized, hgv⟩
    obtain ⟨t, a1, o, b1, b2, b3⟩ := K s₁ rfl X₀
    exact ⟨t, o, a1, b1, b2, b3⟩
theorem lw_pre_spec {args : Array Value} {s : State} (h : (Jvm.Cond.and given_1 narrow_1).before args s = true) (hr : rest_1_c.before args s = true) : ∃ (b : Addr) (xs : List Int32), lw_P b xs args s := by
  have hs := flat_of_before _ h
  have hq := flat_of_before _ hr
  have hc : (Cond.count 1).before args s = true := hs _ (by decide +kernel)
  have harr : (Cond.arrayOf (.arg 0) .int).before args s = true := hs _ (by decide +kernel)
  have hle : (Cond.le (.length (.arg 0)) (.int 3072)).before args s = true := hs _ (by decide +kernel)
  have hlen : (Cond.isInt (.length (.arg 0))).before args s = true := hq _ (by decide +kernel)
  have hall : (Cond.all (.arg 0) (.isInt (.elem (.arg 0) (.index 0)))).before args s = true := hq _ (by decide +kernel)
  obtain ⟨b, xs, hb, hx⟩ := State.ints_of_pre rfl harr hlen hall
  have hsm : xs.length < 2 ^ 31 := hx.choose_spec.2.2.2
  have hev : (Term.length (.arg 0)).eval args s none [] s = some (.int xs.length.toInt32) := hx.length_eval hb
  have hv := Cond.le_ints hev (show (Term.int 3072).eval args s none [] s = some (.int 3072) from rfl)
  have hd : xs.length.toInt32 ≤ 3072 := by
    simpa [Cond.before, Cond.holds, hv] using hle
  have hN : xs.length ≤ 3072 := (Int32.ofNat_le_ofNat hsm (by decide)).mp (show Int32.ofNat xs.length ≤ Int32.ofNat 3072 from hd)
  exact ⟨b, xs, Cond.one_arg hc (show args[0]? = some (.ref b) from hb), hx, hN, h⟩
theorem lw_comes (l : Launch) (hflags : l.flags = flags0) : Comes l x (Jvm.Cond.code x code maxLocals ret :: tables_1) room_1 (fun tb e args s => Calls_1 tb e args s ∧ rest_1 tb e args s ∧ Pre_1 tb e args s)
    (fun _ _ args s o t => lw_Q args s o t) := by
  intro p e ha hc hk s m args below hf hfit hheap happ hpre
  obtain ⟨b, xs, hP⟩ := lw_pre_spec hpre.2.2 hpre.2.1
  obtain ⟨k, o, h1, h2, h3, hQ⟩ := lw_walk l hflags b xs p e ha hc hk s m args below hf ((Spec.applies_iff_loose hf).mp happ).1 hP trivial
  exact ⟨k, o, h1, h2, h3, hQ⟩
theorem lw_frame {s t : State} {o : Outcome} {args : Array Value} (h : Framed s o t [] 600000 7302250) :
    Framed s o t (fieldLocs frame_1_writes args s ++ arrayLocs frame_1_arrays args s ++ staticLocs frame_1_statics s) 600000 7302250 := h
theorem lw_limb (L : Cond) (hL : ∀ (args : Array Value) (s t : State), L.after args s (.returned (some (.int 1))) t = true) :
    ArmFor flags0 classFile x code maxLocals ret World_1 tables_1 room_1 Calls_1 rest_1 Pre_1
      (fun tb e a s o t => postC L tb e a s o t ∧ Framed s o t (fieldLocs frame_1_writes a s ++ arrayLocs frame_1_arrays a s ++ staticLocs frame_1_statics s) 600000 7302250) := by
  intro l hflags _ _ p e ha hc hk s m args below hf hfit hheap happ hpre
  obtain ⟨k, o, h1, h2, h3, rfl, hF⟩ := lw_comes l hflags p e ha hc hk s m args below hf hfit hheap happ hpre
  exact ⟨k, _, h1, h2, h3, hL args s _, lw_frame hF⟩
theorem i_vc : Claimed_1_1 ∧ Claimed_1_2 := ⟨lw_limb limb_1_1 (fun args s t => by simp [limb_1_1, Cond.after, Cond.holds, Cond.value]), lw_limb limb_1_2 (fun args s t => Cond.after_iff.mpr (by
  first | (rw [show limb_1_2 = Cond.eq .result (.int 1) from rfl, Cond.eq_ints (x := 1) (y := 1) rfl rfl]; simp; done) | (simp [limb_1_2, Cond.value, Term.eval]; done)))⟩
