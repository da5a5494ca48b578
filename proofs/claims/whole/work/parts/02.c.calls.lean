section VCALLS
variable {p : Program} {l : Launch} {e : Env} {R : Room} {s : State} {m : MethodId} {args : Array Value} {below : List Frame} {meth : Method} {c : Code} {kc ks : Nat} {D : va_G} {cA : cAt} {B : Nat} {aK aV : Nat → Nat} {nL : Nat} {Q : State → Prop} {M M' : Mem} {pc : Nat} {L : List (Nat × Value)} {st : List Value} {cc : ByteArray} {own : String}
theorem cv_I (C : Cx p R s m args c kc ks D cA B aK aV cc nL own) {y : MethodName} {bytes : ByteArray} {maxL d2 n idx : Nat} {ret : FieldType} (hcode : Cond.code y bytes maxL (some ret) ∈ TG) (hini : Cond.initialized y.cls ∈ TG) (hlink : Cond.methodLink own idx y ∈ TG) (hinst : Cond.instanceMethod y ∈ TG) (hsel : Cond.selects y.cls y y ∈ TG) (hpd : y.cls ≠ "java/lang/invoke/MethodHandle" ∧ y.cls ≠ "java/lang/invoke/VarHandle" ∧ (parseMethodDescriptor y.desc).map (fun d => d.parameters.length) = some n) (hfr : d2 + 1 ≤ R.frames) (hlo : 8 + (maxL + 11) + 40 * d2 ≤ R.locals) {q ci : Nat} {fs : List Value} {T : u_T} {N : Nat} (hq : q < 249) (hsh : sh B cA q (M q) = .inr (ci, fs)) (hcl : vwCl[ci]? = some (y.cls, T, N)) {As rest : List Value} (hn : As.length = n) (hst : st = As.reverse ++ .ref (B + q) :: rest) (hW : (rest.map fun v => v.category).sum ≤ 8) {r : Int32} (hC : CI l D cA B aK aV y bytes maxL ret d2 (.ref (B + q) :: As) M r M') (hdg : decode cc pc = .ok (.invokevirtual idx, 3)) (k : V p l e R s m args below meth c kc ks D cA B nL Q M' (pc + 3) L (.int r :: rest)) : V p l e R s m args below meth c kc ks D cA B nL Q M pc L st := by
  intro H locs ls h1 h2 h3
  subst hst
  refine va_calli (va_runV (As := As) (rest := rest) ⟨C.1, C.2.1, C.2.2.1, C.2.2.2.1, C.2.2.2.2.1⟩ hC ⟨callB_of n C.2.2.2.2.1 (good_wsf hcode) rfl rfl rfl (C.2.2.2.2.1 _ hini) (C.2.2.2.2.1 _ hlink) hpd ⟨hfr, hlo⟩, C.2.2.2.2.1 _ hinst, C.2.2.2.2.1 _ hsel⟩ ⟨Pcw.blind, va_recv C.2.2.2.2.2.1.1 h1 hcl (by rw [WL_get hq, hsh]), fun U hU hWU => ⟨rfl, by rw [hU]; exact h1, C.2.2.2.2.2.1.moved hWU (by rw [hU]; exact h2)⟩⟩ rfl hn h3.1 rfl (lv_room hW) hdg ⟨C.2.2.2.2.2.2.1, C.2.2.2.2.2.2.2⟩) h2 (fun q _ h => h) (fun q h => h) (fun r1 u t H1 locs1 ht hvm hw hB hz hk hS => ?_)
  subst hw
  rw [ht] at hB
  exact k H1 locs1 ls hB hS h3
theorem cv_L (C : Cx p R s m args c kc ks D cA B aK aV cc nL own) {y : MethodName} {bytes : ByteArray} {maxL d2 n idx : Nat} {ret : FieldType} (hcode : Cond.code y bytes maxL (some ret) ∈ TG) (hini : Cond.initialized y.cls ∈ TG) (hlink : Cond.methodLink own idx y ∈ TG) (hinst : Cond.instanceMethod y ∈ TG) (hsel : Cond.selects y.cls y y ∈ TG) (hpd : y.cls ≠ "java/lang/invoke/MethodHandle" ∧ y.cls ≠ "java/lang/invoke/VarHandle" ∧ (parseMethodDescriptor y.desc).map (fun d => d.parameters.length) = some n) (hfr : d2 + 1 ≤ R.frames) (hlo : 8 + (maxL + 11) + 40 * d2 ≤ R.locals) {q ci : Nat} {fs : List Value} {T : u_T} {N : Nat} (hq : q < 249) (hsh : sh B cA q (M q) = .inr (ci, fs)) (hcl : vwCl[ci]? = some (y.cls, T, N)) {As rest : List Value} (hn : As.length = n) (hst : st = As.reverse ++ .ref (B + q) :: rest) (hW : (rest.map fun v => v.category).sum ≤ 8) {r : Int64} (hC : CL l D cA B aK aV y bytes maxL ret d2 (.ref (B + q) :: As) M r M') (hdg : decode cc pc = .ok (.invokevirtual idx, 3)) (k : V p l e R s m args below meth c kc ks D cA B nL Q M' (pc + 3) L (.long r :: rest)) : V p l e R s m args below meth c kc ks D cA B nL Q M pc L st := by
  intro H locs ls h1 h2 h3
  subst hst
  refine va_calll (va_runV (As := As) (rest := rest) ⟨C.1, C.2.1, C.2.2.1, C.2.2.2.1, C.2.2.2.2.1⟩ hC ⟨callB_of n C.2.2.2.2.1 (good_wsf hcode) rfl rfl rfl (C.2.2.2.2.1 _ hini) (C.2.2.2.2.1 _ hlink) hpd ⟨hfr, hlo⟩, C.2.2.2.2.1 _ hinst, C.2.2.2.2.1 _ hsel⟩ ⟨Pcw.blind, va_recv C.2.2.2.2.2.1.1 h1 hcl (by rw [WL_get hq, hsh]), fun U hU hWU => ⟨rfl, by rw [hU]; exact h1, C.2.2.2.2.2.1.moved hWU (by rw [hU]; exact h2)⟩⟩ rfl hn h3.1 rfl (lv_room hW) hdg ⟨C.2.2.2.2.2.2.1, C.2.2.2.2.2.2.2⟩) h2 (fun q _ h => h) (fun q h => h) (fun r1 u t H1 locs1 ht hvm hw hB hz hk hS => ?_)
  subst hw
  rw [ht] at hB
  exact k H1 locs1 ls hB hS h3
theorem cv_V (C : Cx p R s m args c kc ks D cA B aK aV cc nL own) {y : MethodName} {bytes : ByteArray} {maxL d2 n idx : Nat} (hcode : Cond.code y bytes maxL none ∈ TG) (hini : Cond.initialized y.cls ∈ TG) (hlink : Cond.methodLink own idx y ∈ TG) (hinst : Cond.instanceMethod y ∈ TG) (hsel : Cond.selects y.cls y y ∈ TG) (hpd : y.cls ≠ "java/lang/invoke/MethodHandle" ∧ y.cls ≠ "java/lang/invoke/VarHandle" ∧ (parseMethodDescriptor y.desc).map (fun d => d.parameters.length) = some n) (hfr : d2 + 1 ≤ R.frames) (hlo : 8 + (maxL + 11) + 40 * d2 ≤ R.locals) {q ci : Nat} {fs : List Value} {T : u_T} {N : Nat} (hq : q < 249) (hsh : sh B cA q (M q) = .inr (ci, fs)) (hcl : vwCl[ci]? = some (y.cls, T, N)) {As rest : List Value} (hn : As.length = n) (hst : st = As.reverse ++ .ref (B + q) :: rest) (hW : (rest.map fun v => v.category).sum ≤ 8)  (hC : CV l D cA B aK aV y bytes maxL d2 (.ref (B + q) :: As) M M') (hdg : decode cc pc = .ok (.invokevirtual idx, 3)) (k : V p l e R s m args below meth c kc ks D cA B nL Q M' (pc + 3) L (rest)) : V p l e R s m args below meth c kc ks D cA B nL Q M pc L st := by
  intro H locs ls h1 h2 h3
  subst hst
  refine va_callv (va_runV (As := As) (rest := rest) ⟨C.1, C.2.1, C.2.2.1, C.2.2.2.1, C.2.2.2.2.1⟩ hC ⟨callB_of n C.2.2.2.2.1 (good_wsf hcode) rfl rfl rfl (C.2.2.2.2.1 _ hini) (C.2.2.2.2.1 _ hlink) hpd ⟨hfr, hlo⟩, C.2.2.2.2.1 _ hinst, C.2.2.2.2.1 _ hsel⟩ ⟨Pcw.blind, va_recv C.2.2.2.2.2.1.1 h1 hcl (by rw [WL_get hq, hsh]), fun U hU hWU => ⟨rfl, by rw [hU]; exact h1, C.2.2.2.2.2.1.moved hWU (by rw [hU]; exact h2)⟩⟩ rfl hn h3.1 rfl (lv_room hW) hdg ⟨C.2.2.2.2.2.2.1, C.2.2.2.2.2.2.2⟩) h2 (fun q _ h => h) (fun q h => h) (fun u t H1 locs1 ht hvm hw hB hz hk hS => ?_)
  clear hw
  rw [ht] at hB
  exact k H1 locs1 ls hB hS h3
theorem cv_Q (C : Cx p R s m args c kc ks D cA B aK aV cc nL own) {y : MethodName} {bytes : ByteArray} {maxL d2 n idx : Nat} {ret : FieldType} (hcode : Cond.code y bytes maxL (some ret) ∈ TG) (hini : Cond.initialized y.cls ∈ TG) (hlink : Cond.methodLink own idx y ∈ TG) (hinst : Cond.instanceMethod y ∈ TG) (hsel : Cond.selects y.cls y y ∈ TG) (hpd : y.cls ≠ "java/lang/invoke/MethodHandle" ∧ y.cls ≠ "java/lang/invoke/VarHandle" ∧ (parseMethodDescriptor y.desc).map (fun d => d.parameters.length) = some n) (hfr : d2 + 1 ≤ R.frames) (hlo : 8 + (maxL + 11) + 40 * d2 ≤ R.locals) {q ci : Nat} {fs : List Value} {T : u_T} {N : Nat} (hq : q < 249) (hsh : sh B cA q (M q) = .inr (ci, fs)) (hcl : vwCl[ci]? = some (y.cls, T, N)) {As rest : List Value} (hn : As.length = n) (hst : st = As.reverse ++ .ref (B + q) :: rest) (hW : (rest.map fun v => v.category).sum ≤ 8) {r : Option Nat} (hC : CQ l D cA B aK aV y bytes maxL ret d2 (.ref (B + q) :: As) M r M') (hdg : decode cc pc = .ok (.invokevirtual idx, 3)) (k : V p l e R s m args below meth c kc ks D cA B nL Q M' (pc + 3) L (rv B r :: rest)) : V p l e R s m args below meth c kc ks D cA B nL Q M pc L st := by
  intro H locs ls h1 h2 h3
  subst hst
  refine va_callq (va_runV (As := As) (rest := rest) ⟨C.1, C.2.1, C.2.2.1, C.2.2.2.1, C.2.2.2.2.1⟩ hC ⟨callB_of n C.2.2.2.2.1 (good_wsf hcode) rfl rfl rfl (C.2.2.2.2.1 _ hini) (C.2.2.2.2.1 _ hlink) hpd ⟨hfr, hlo⟩, C.2.2.2.2.1 _ hinst, C.2.2.2.2.1 _ hsel⟩ ⟨Pcw.blind, va_recv C.2.2.2.2.2.1.1 h1 hcl (by rw [WL_get hq, hsh]), fun U hU hWU => ⟨rfl, by rw [hU]; exact h1, C.2.2.2.2.2.1.moved hWU (by rw [hU]; exact h2)⟩⟩ rfl hn h3.1 rfl (lv_room hW) hdg ⟨C.2.2.2.2.2.2.1, C.2.2.2.2.2.2.2⟩) h2 (fun q _ h => h) (fun q h => h) (fun r1 u t H1 locs1 ht hvm hw hB hz hk hS => ?_)
  subst hw
  rw [ht] at hB
  exact k H1 locs1 ls hB hS h3
theorem cvN_I (C : Cx p R s m args c kc ks D cA B aK aV cc nL own) {y : MethodName} {bytes : ByteArray} {maxL d2 n idx : Nat} {ret : FieldType} {host : String} (hcode : Cond.code y bytes maxL (some ret) ∈ TG) (hini : Cond.initialized y.cls ∈ TG) (hlink : Cond.methodLinkNest own idx y host ∈ NW) (hinst : Cond.instanceMethod y ∈ TG) (hsel : Cond.selects y.cls y y ∈ TG) (hpd : y.cls ≠ "java/lang/invoke/MethodHandle" ∧ y.cls ≠ "java/lang/invoke/VarHandle" ∧ (parseMethodDescriptor y.desc).map (fun d => d.parameters.length) = some n) (hfr : d2 + 1 ≤ R.frames) (hlo : 8 + (maxL + 11) + 40 * d2 ≤ R.locals) {q ci : Nat} {fs : List Value} {T : u_T} {N : Nat} (hq : q < 249) (hsh : sh B cA q (M q) = .inr (ci, fs)) (hcl : vwCl[ci]? = some (y.cls, T, N)) {As rest : List Value} (hn : As.length = n) (hst : st = As.reverse ++ .ref (B + q) :: rest) (hW : (rest.map fun v => v.category).sum ≤ 8) {r : Int32} (hC : CI l D cA B aK aV y bytes maxL ret d2 (.ref (B + q) :: As) M r M') (hdg : decode cc pc = .ok (.invokevirtual idx, 3)) (k : V p l e R s m args below meth c kc ks D cA B nL Q M' (pc + 3) L (.int r :: rest)) : V p l e R s m args below meth c kc ks D cA B nL Q M pc L st := by
  intro H locs ls h1 h2 h3
  subst hst
  refine va_calli (va_runVN (As := As) (rest := rest) ⟨C.1, C.2.1, C.2.2.1, C.2.2.2.1, C.2.2.2.2.1⟩ hC ⟨va_cnB n C.2.2.2.2.1 (good_wsf hcode) rfl rfl rfl (C.2.2.2.2.2.1.2.1 _ hlink) (C.2.2.2.2.1 _ hini) hpd ⟨hfr, hlo⟩, C.2.2.2.2.1 _ hinst, C.2.2.2.2.1 _ hsel⟩ ⟨Pcw.blind, va_recv C.2.2.2.2.2.1.1 h1 hcl (by rw [WL_get hq, hsh]), fun U hU hWU => ⟨rfl, by rw [hU]; exact h1, C.2.2.2.2.2.1.moved hWU (by rw [hU]; exact h2)⟩⟩ rfl hn h3.1 rfl (lv_room hW) hdg ⟨C.2.2.2.2.2.2.1, C.2.2.2.2.2.2.2⟩) h2 (fun q _ h => h) (fun q h => h) (fun r1 u t H1 locs1 ht hvm hw hB hz hk hS => ?_)
  subst hw
  rw [ht] at hB
  exact k H1 locs1 ls hB hS h3
theorem cvN_L (C : Cx p R s m args c kc ks D cA B aK aV cc nL own) {y : MethodName} {bytes : ByteArray} {maxL d2 n idx : Nat} {ret : FieldType} {host : String} (hcode : Cond.code y bytes maxL (some ret) ∈ TG) (hini : Cond.initialized y.cls ∈ TG) (hlink : Cond.methodLinkNest own idx y host ∈ NW) (hinst : Cond.instanceMethod y ∈ TG) (hsel : Cond.selects y.cls y y ∈ TG) (hpd : y.cls ≠ "java/lang/invoke/MethodHandle" ∧ y.cls ≠ "java/lang/invoke/VarHandle" ∧ (parseMethodDescriptor y.desc).map (fun d => d.parameters.length) = some n) (hfr : d2 + 1 ≤ R.frames) (hlo : 8 + (maxL + 11) + 40 * d2 ≤ R.locals) {q ci : Nat} {fs : List Value} {T : u_T} {N : Nat} (hq : q < 249) (hsh : sh B cA q (M q) = .inr (ci, fs)) (hcl : vwCl[ci]? = some (y.cls, T, N)) {As rest : List Value} (hn : As.length = n) (hst : st = As.reverse ++ .ref (B + q) :: rest) (hW : (rest.map fun v => v.category).sum ≤ 8) {r : Int64} (hC : CL l D cA B aK aV y bytes maxL ret d2 (.ref (B + q) :: As) M r M') (hdg : decode cc pc = .ok (.invokevirtual idx, 3)) (k : V p l e R s m args below meth c kc ks D cA B nL Q M' (pc + 3) L (.long r :: rest)) : V p l e R s m args below meth c kc ks D cA B nL Q M pc L st := by
  intro H locs ls h1 h2 h3
  subst hst
  refine va_calll (va_runVN (As := As) (rest := rest) ⟨C.1, C.2.1, C.2.2.1, C.2.2.2.1, C.2.2.2.2.1⟩ hC ⟨va_cnB n C.2.2.2.2.1 (good_wsf hcode) rfl rfl rfl (C.2.2.2.2.2.1.2.1 _ hlink) (C.2.2.2.2.1 _ hini) hpd ⟨hfr, hlo⟩, C.2.2.2.2.1 _ hinst, C.2.2.2.2.1 _ hsel⟩ ⟨Pcw.blind, va_recv C.2.2.2.2.2.1.1 h1 hcl (by rw [WL_get hq, hsh]), fun U hU hWU => ⟨rfl, by rw [hU]; exact h1, C.2.2.2.2.2.1.moved hWU (by rw [hU]; exact h2)⟩⟩ rfl hn h3.1 rfl (lv_room hW) hdg ⟨C.2.2.2.2.2.2.1, C.2.2.2.2.2.2.2⟩) h2 (fun q _ h => h) (fun q h => h) (fun r1 u t H1 locs1 ht hvm hw hB hz hk hS => ?_)
  subst hw
  rw [ht] at hB
  exact k H1 locs1 ls hB hS h3
theorem cvN_V (C : Cx p R s m args c kc ks D cA B aK aV cc nL own) {y : MethodName} {bytes : ByteArray} {maxL d2 n idx : Nat} {host : String} (hcode : Cond.code y bytes maxL none ∈ TG) (hini : Cond.initialized y.cls ∈ TG) (hlink : Cond.methodLinkNest own idx y host ∈ NW) (hinst : Cond.instanceMethod y ∈ TG) (hsel : Cond.selects y.cls y y ∈ TG) (hpd : y.cls ≠ "java/lang/invoke/MethodHandle" ∧ y.cls ≠ "java/lang/invoke/VarHandle" ∧ (parseMethodDescriptor y.desc).map (fun d => d.parameters.length) = some n) (hfr : d2 + 1 ≤ R.frames) (hlo : 8 + (maxL + 11) + 40 * d2 ≤ R.locals) {q ci : Nat} {fs : List Value} {T : u_T} {N : Nat} (hq : q < 249) (hsh : sh B cA q (M q) = .inr (ci, fs)) (hcl : vwCl[ci]? = some (y.cls, T, N)) {As rest : List Value} (hn : As.length = n) (hst : st = As.reverse ++ .ref (B + q) :: rest) (hW : (rest.map fun v => v.category).sum ≤ 8)  (hC : CV l D cA B aK aV y bytes maxL d2 (.ref (B + q) :: As) M M') (hdg : decode cc pc = .ok (.invokevirtual idx, 3)) (k : V p l e R s m args below meth c kc ks D cA B nL Q M' (pc + 3) L (rest)) : V p l e R s m args below meth c kc ks D cA B nL Q M pc L st := by
  intro H locs ls h1 h2 h3
  subst hst
  refine va_callv (va_runVN (As := As) (rest := rest) ⟨C.1, C.2.1, C.2.2.1, C.2.2.2.1, C.2.2.2.2.1⟩ hC ⟨va_cnB n C.2.2.2.2.1 (good_wsf hcode) rfl rfl rfl (C.2.2.2.2.2.1.2.1 _ hlink) (C.2.2.2.2.1 _ hini) hpd ⟨hfr, hlo⟩, C.2.2.2.2.1 _ hinst, C.2.2.2.2.1 _ hsel⟩ ⟨Pcw.blind, va_recv C.2.2.2.2.2.1.1 h1 hcl (by rw [WL_get hq, hsh]), fun U hU hWU => ⟨rfl, by rw [hU]; exact h1, C.2.2.2.2.2.1.moved hWU (by rw [hU]; exact h2)⟩⟩ rfl hn h3.1 rfl (lv_room hW) hdg ⟨C.2.2.2.2.2.2.1, C.2.2.2.2.2.2.2⟩) h2 (fun q _ h => h) (fun q h => h) (fun u t H1 locs1 ht hvm hw hB hz hk hS => ?_)
  clear hw
  rw [ht] at hB
  exact k H1 locs1 ls hB hS h3
theorem cvN_Q (C : Cx p R s m args c kc ks D cA B aK aV cc nL own) {y : MethodName} {bytes : ByteArray} {maxL d2 n idx : Nat} {ret : FieldType} {host : String} (hcode : Cond.code y bytes maxL (some ret) ∈ TG) (hini : Cond.initialized y.cls ∈ TG) (hlink : Cond.methodLinkNest own idx y host ∈ NW) (hinst : Cond.instanceMethod y ∈ TG) (hsel : Cond.selects y.cls y y ∈ TG) (hpd : y.cls ≠ "java/lang/invoke/MethodHandle" ∧ y.cls ≠ "java/lang/invoke/VarHandle" ∧ (parseMethodDescriptor y.desc).map (fun d => d.parameters.length) = some n) (hfr : d2 + 1 ≤ R.frames) (hlo : 8 + (maxL + 11) + 40 * d2 ≤ R.locals) {q ci : Nat} {fs : List Value} {T : u_T} {N : Nat} (hq : q < 249) (hsh : sh B cA q (M q) = .inr (ci, fs)) (hcl : vwCl[ci]? = some (y.cls, T, N)) {As rest : List Value} (hn : As.length = n) (hst : st = As.reverse ++ .ref (B + q) :: rest) (hW : (rest.map fun v => v.category).sum ≤ 8) {r : Option Nat} (hC : CQ l D cA B aK aV y bytes maxL ret d2 (.ref (B + q) :: As) M r M') (hdg : decode cc pc = .ok (.invokevirtual idx, 3)) (k : V p l e R s m args below meth c kc ks D cA B nL Q M' (pc + 3) L (rv B r :: rest)) : V p l e R s m args below meth c kc ks D cA B nL Q M pc L st := by
  intro H locs ls h1 h2 h3
  subst hst
  refine va_callq (va_runVN (As := As) (rest := rest) ⟨C.1, C.2.1, C.2.2.1, C.2.2.2.1, C.2.2.2.2.1⟩ hC ⟨va_cnB n C.2.2.2.2.1 (good_wsf hcode) rfl rfl rfl (C.2.2.2.2.2.1.2.1 _ hlink) (C.2.2.2.2.1 _ hini) hpd ⟨hfr, hlo⟩, C.2.2.2.2.1 _ hinst, C.2.2.2.2.1 _ hsel⟩ ⟨Pcw.blind, va_recv C.2.2.2.2.2.1.1 h1 hcl (by rw [WL_get hq, hsh]), fun U hU hWU => ⟨rfl, by rw [hU]; exact h1, C.2.2.2.2.2.1.moved hWU (by rw [hU]; exact h2)⟩⟩ rfl hn h3.1 rfl (lv_room hW) hdg ⟨C.2.2.2.2.2.2.1, C.2.2.2.2.2.2.2⟩) h2 (fun q _ h => h) (fun q h => h) (fun r1 u t H1 locs1 ht hvm hw hB hz hk hS => ?_)
  subst hw
  rw [ht] at hB
  exact k H1 locs1 ls hB hS h3
theorem cs_I (C : Cx p R s m args c kc ks D cA B aK aV cc nL own) {y : MethodName} {bytes : ByteArray} {maxL d2 n idx : Nat} {ret : FieldType} (hcode : Cond.code y bytes maxL (some ret) ∈ TG) (hini : Cond.initialized y.cls ∈ TG) (hlink : Cond.methodLink own idx y ∈ TG) (hstat : Cond.static y ∈ TG) (hpd : y.cls ≠ "java/lang/invoke/MethodHandle" ∧ y.cls ≠ "java/lang/invoke/VarHandle" ∧ (parseMethodDescriptor y.desc).map (fun d => d.parameters.length) = some n) (hfr : d2 + 1 ≤ R.frames) (hlo : 8 + (maxL + 11) + 40 * d2 ≤ R.locals) {As rest : List Value} (hn : As.length = n) (hst : st = As.reverse ++ rest) (hW : (rest.map fun v => v.category).sum ≤ 8) {r : Int32} (hC : CI l D cA B aK aV y bytes maxL ret d2 As M r M') (hdg : decode cc pc = .ok (.invokestatic idx, 3)) (k : V p l e R s m args below meth c kc ks D cA B nL Q M' (pc + 3) L (.int r :: rest)) : V p l e R s m args below meth c kc ks D cA B nL Q M pc L st := by
  intro H locs ls h1 h2 h3
  subst hst
  refine va_calli (va_runS (As := As) (rest := rest) ⟨C.1, C.2.1, C.2.2.1, C.2.2.2.1, C.2.2.2.2.1⟩ hC ⟨callB_of n C.2.2.2.2.1 (good_wsf hcode) rfl rfl rfl (C.2.2.2.2.1 _ hini) (C.2.2.2.2.1 _ hlink) hpd ⟨hfr, hlo⟩, C.2.2.2.2.1 _ hstat⟩ ⟨Pcw.blind, fun U hU hWU => ⟨rfl, by rw [hU]; exact h1, C.2.2.2.2.2.1.moved hWU (by rw [hU]; exact h2)⟩⟩ rfl hn h3.1 rfl (lv_room hW) hdg ⟨C.2.2.2.2.2.2.1, C.2.2.2.2.2.2.2⟩) h2 (fun q _ h => h) (fun q h => h) (fun r1 u t H1 locs1 ht hvm hw hB hz hk hS => ?_)
  subst hw
  rw [ht] at hB
  exact k H1 locs1 ls hB hS h3
theorem cs_L (C : Cx p R s m args c kc ks D cA B aK aV cc nL own) {y : MethodName} {bytes : ByteArray} {maxL d2 n idx : Nat} {ret : FieldType} (hcode : Cond.code y bytes maxL (some ret) ∈ TG) (hini : Cond.initialized y.cls ∈ TG) (hlink : Cond.methodLink own idx y ∈ TG) (hstat : Cond.static y ∈ TG) (hpd : y.cls ≠ "java/lang/invoke/MethodHandle" ∧ y.cls ≠ "java/lang/invoke/VarHandle" ∧ (parseMethodDescriptor y.desc).map (fun d => d.parameters.length) = some n) (hfr : d2 + 1 ≤ R.frames) (hlo : 8 + (maxL + 11) + 40 * d2 ≤ R.locals) {As rest : List Value} (hn : As.length = n) (hst : st = As.reverse ++ rest) (hW : (rest.map fun v => v.category).sum ≤ 8) {r : Int64} (hC : CL l D cA B aK aV y bytes maxL ret d2 As M r M') (hdg : decode cc pc = .ok (.invokestatic idx, 3)) (k : V p l e R s m args below meth c kc ks D cA B nL Q M' (pc + 3) L (.long r :: rest)) : V p l e R s m args below meth c kc ks D cA B nL Q M pc L st := by
  intro H locs ls h1 h2 h3
  subst hst
  refine va_calll (va_runS (As := As) (rest := rest) ⟨C.1, C.2.1, C.2.2.1, C.2.2.2.1, C.2.2.2.2.1⟩ hC ⟨callB_of n C.2.2.2.2.1 (good_wsf hcode) rfl rfl rfl (C.2.2.2.2.1 _ hini) (C.2.2.2.2.1 _ hlink) hpd ⟨hfr, hlo⟩, C.2.2.2.2.1 _ hstat⟩ ⟨Pcw.blind, fun U hU hWU => ⟨rfl, by rw [hU]; exact h1, C.2.2.2.2.2.1.moved hWU (by rw [hU]; exact h2)⟩⟩ rfl hn h3.1 rfl (lv_room hW) hdg ⟨C.2.2.2.2.2.2.1, C.2.2.2.2.2.2.2⟩) h2 (fun q _ h => h) (fun q h => h) (fun r1 u t H1 locs1 ht hvm hw hB hz hk hS => ?_)
  subst hw
  rw [ht] at hB
  exact k H1 locs1 ls hB hS h3
theorem cs_V (C : Cx p R s m args c kc ks D cA B aK aV cc nL own) {y : MethodName} {bytes : ByteArray} {maxL d2 n idx : Nat} (hcode : Cond.code y bytes maxL none ∈ TG) (hini : Cond.initialized y.cls ∈ TG) (hlink : Cond.methodLink own idx y ∈ TG) (hstat : Cond.static y ∈ TG) (hpd : y.cls ≠ "java/lang/invoke/MethodHandle" ∧ y.cls ≠ "java/lang/invoke/VarHandle" ∧ (parseMethodDescriptor y.desc).map (fun d => d.parameters.length) = some n) (hfr : d2 + 1 ≤ R.frames) (hlo : 8 + (maxL + 11) + 40 * d2 ≤ R.locals) {As rest : List Value} (hn : As.length = n) (hst : st = As.reverse ++ rest) (hW : (rest.map fun v => v.category).sum ≤ 8)  (hC : CV l D cA B aK aV y bytes maxL d2 As M M') (hdg : decode cc pc = .ok (.invokestatic idx, 3)) (k : V p l e R s m args below meth c kc ks D cA B nL Q M' (pc + 3) L (rest)) : V p l e R s m args below meth c kc ks D cA B nL Q M pc L st := by
  intro H locs ls h1 h2 h3
  subst hst
  refine va_callv (va_runS (As := As) (rest := rest) ⟨C.1, C.2.1, C.2.2.1, C.2.2.2.1, C.2.2.2.2.1⟩ hC ⟨callB_of n C.2.2.2.2.1 (good_wsf hcode) rfl rfl rfl (C.2.2.2.2.1 _ hini) (C.2.2.2.2.1 _ hlink) hpd ⟨hfr, hlo⟩, C.2.2.2.2.1 _ hstat⟩ ⟨Pcw.blind, fun U hU hWU => ⟨rfl, by rw [hU]; exact h1, C.2.2.2.2.2.1.moved hWU (by rw [hU]; exact h2)⟩⟩ rfl hn h3.1 rfl (lv_room hW) hdg ⟨C.2.2.2.2.2.2.1, C.2.2.2.2.2.2.2⟩) h2 (fun q _ h => h) (fun q h => h) (fun u t H1 locs1 ht hvm hw hB hz hk hS => ?_)
  clear hw
  rw [ht] at hB
  exact k H1 locs1 ls hB hS h3
theorem cs_Q (C : Cx p R s m args c kc ks D cA B aK aV cc nL own) {y : MethodName} {bytes : ByteArray} {maxL d2 n idx : Nat} {ret : FieldType} (hcode : Cond.code y bytes maxL (some ret) ∈ TG) (hini : Cond.initialized y.cls ∈ TG) (hlink : Cond.methodLink own idx y ∈ TG) (hstat : Cond.static y ∈ TG) (hpd : y.cls ≠ "java/lang/invoke/MethodHandle" ∧ y.cls ≠ "java/lang/invoke/VarHandle" ∧ (parseMethodDescriptor y.desc).map (fun d => d.parameters.length) = some n) (hfr : d2 + 1 ≤ R.frames) (hlo : 8 + (maxL + 11) + 40 * d2 ≤ R.locals) {As rest : List Value} (hn : As.length = n) (hst : st = As.reverse ++ rest) (hW : (rest.map fun v => v.category).sum ≤ 8) {r : Option Nat} (hC : CQ l D cA B aK aV y bytes maxL ret d2 As M r M') (hdg : decode cc pc = .ok (.invokestatic idx, 3)) (k : V p l e R s m args below meth c kc ks D cA B nL Q M' (pc + 3) L (rv B r :: rest)) : V p l e R s m args below meth c kc ks D cA B nL Q M pc L st := by
  intro H locs ls h1 h2 h3
  subst hst
  refine va_callq (va_runS (As := As) (rest := rest) ⟨C.1, C.2.1, C.2.2.1, C.2.2.2.1, C.2.2.2.2.1⟩ hC ⟨callB_of n C.2.2.2.2.1 (good_wsf hcode) rfl rfl rfl (C.2.2.2.2.1 _ hini) (C.2.2.2.2.1 _ hlink) hpd ⟨hfr, hlo⟩, C.2.2.2.2.1 _ hstat⟩ ⟨Pcw.blind, fun U hU hWU => ⟨rfl, by rw [hU]; exact h1, C.2.2.2.2.2.1.moved hWU (by rw [hU]; exact h2)⟩⟩ rfl hn h3.1 rfl (lv_room hW) hdg ⟨C.2.2.2.2.2.2.1, C.2.2.2.2.2.2.2⟩) h2 (fun q _ h => h) (fun q h => h) (fun r1 u t H1 locs1 ht hvm hw hB hz hk hS => ?_)
  subst hw
  rw [ht] at hB
  exact k H1 locs1 ls hB hS h3
theorem csN_I (C : Cx p R s m args c kc ks D cA B aK aV cc nL own) {y : MethodName} {bytes : ByteArray} {maxL d2 n idx : Nat} {ret : FieldType} {host : String} (hcode : Cond.code y bytes maxL (some ret) ∈ TG) (hini : Cond.initialized y.cls ∈ TG) (hlink : Cond.methodLinkNest own idx y host ∈ NW) (hstat : Cond.static y ∈ TG) (hpd : y.cls ≠ "java/lang/invoke/MethodHandle" ∧ y.cls ≠ "java/lang/invoke/VarHandle" ∧ (parseMethodDescriptor y.desc).map (fun d => d.parameters.length) = some n) (hfr : d2 + 1 ≤ R.frames) (hlo : 8 + (maxL + 11) + 40 * d2 ≤ R.locals) {As rest : List Value} (hn : As.length = n) (hst : st = As.reverse ++ rest) (hW : (rest.map fun v => v.category).sum ≤ 8) {r : Int32} (hC : CI l D cA B aK aV y bytes maxL ret d2 As M r M') (hdg : decode cc pc = .ok (.invokestatic idx, 3)) (k : V p l e R s m args below meth c kc ks D cA B nL Q M' (pc + 3) L (.int r :: rest)) : V p l e R s m args below meth c kc ks D cA B nL Q M pc L st := by
  intro H locs ls h1 h2 h3
  subst hst
  refine va_calli (va_runSN (As := As) (rest := rest) ⟨C.1, C.2.1, C.2.2.1, C.2.2.2.1, C.2.2.2.2.1⟩ hC ⟨va_cnB n C.2.2.2.2.1 (good_wsf hcode) rfl rfl rfl (C.2.2.2.2.2.1.2.1 _ hlink) (C.2.2.2.2.1 _ hini) hpd ⟨hfr, hlo⟩, C.2.2.2.2.1 _ hstat, trivial⟩ ⟨Pcw.blind, fun U hU hWU => ⟨rfl, by rw [hU]; exact h1, C.2.2.2.2.2.1.moved hWU (by rw [hU]; exact h2)⟩⟩ rfl hn h3.1 rfl (lv_room hW) hdg ⟨C.2.2.2.2.2.2.1, C.2.2.2.2.2.2.2⟩) h2 (fun q _ h => h) (fun q h => h) (fun r1 u t H1 locs1 ht hvm hw hB hz hk hS => ?_)
  subst hw
  rw [ht] at hB
  exact k H1 locs1 ls hB hS h3
theorem csN_L (C : Cx p R s m args c kc ks D cA B aK aV cc nL own) {y : MethodName} {bytes : ByteArray} {maxL d2 n idx : Nat} {ret : FieldType} {host : String} (hcode : Cond.code y bytes maxL (some ret) ∈ TG) (hini : Cond.initialized y.cls ∈ TG) (hlink : Cond.methodLinkNest own idx y host ∈ NW) (hstat : Cond.static y ∈ TG) (hpd : y.cls ≠ "java/lang/invoke/MethodHandle" ∧ y.cls ≠ "java/lang/invoke/VarHandle" ∧ (parseMethodDescriptor y.desc).map (fun d => d.parameters.length) = some n) (hfr : d2 + 1 ≤ R.frames) (hlo : 8 + (maxL + 11) + 40 * d2 ≤ R.locals) {As rest : List Value} (hn : As.length = n) (hst : st = As.reverse ++ rest) (hW : (rest.map fun v => v.category).sum ≤ 8) {r : Int64} (hC : CL l D cA B aK aV y bytes maxL ret d2 As M r M') (hdg : decode cc pc = .ok (.invokestatic idx, 3)) (k : V p l e R s m args below meth c kc ks D cA B nL Q M' (pc + 3) L (.long r :: rest)) : V p l e R s m args below meth c kc ks D cA B nL Q M pc L st := by
  intro H locs ls h1 h2 h3
  subst hst
  refine va_calll (va_runSN (As := As) (rest := rest) ⟨C.1, C.2.1, C.2.2.1, C.2.2.2.1, C.2.2.2.2.1⟩ hC ⟨va_cnB n C.2.2.2.2.1 (good_wsf hcode) rfl rfl rfl (C.2.2.2.2.2.1.2.1 _ hlink) (C.2.2.2.2.1 _ hini) hpd ⟨hfr, hlo⟩, C.2.2.2.2.1 _ hstat, trivial⟩ ⟨Pcw.blind, fun U hU hWU => ⟨rfl, by rw [hU]; exact h1, C.2.2.2.2.2.1.moved hWU (by rw [hU]; exact h2)⟩⟩ rfl hn h3.1 rfl (lv_room hW) hdg ⟨C.2.2.2.2.2.2.1, C.2.2.2.2.2.2.2⟩) h2 (fun q _ h => h) (fun q h => h) (fun r1 u t H1 locs1 ht hvm hw hB hz hk hS => ?_)
  subst hw
  rw [ht] at hB
  exact k H1 locs1 ls hB hS h3
theorem csN_V (C : Cx p R s m args c kc ks D cA B aK aV cc nL own) {y : MethodName} {bytes : ByteArray} {maxL d2 n idx : Nat} {host : String} (hcode : Cond.code y bytes maxL none ∈ TG) (hini : Cond.initialized y.cls ∈ TG) (hlink : Cond.methodLinkNest own idx y host ∈ NW) (hstat : Cond.static y ∈ TG) (hpd : y.cls ≠ "java/lang/invoke/MethodHandle" ∧ y.cls ≠ "java/lang/invoke/VarHandle" ∧ (parseMethodDescriptor y.desc).map (fun d => d.parameters.length) = some n) (hfr : d2 + 1 ≤ R.frames) (hlo : 8 + (maxL + 11) + 40 * d2 ≤ R.locals) {As rest : List Value} (hn : As.length = n) (hst : st = As.reverse ++ rest) (hW : (rest.map fun v => v.category).sum ≤ 8)  (hC : CV l D cA B aK aV y bytes maxL d2 As M M') (hdg : decode cc pc = .ok (.invokestatic idx, 3)) (k : V p l e R s m args below meth c kc ks D cA B nL Q M' (pc + 3) L (rest)) : V p l e R s m args below meth c kc ks D cA B nL Q M pc L st := by
  intro H locs ls h1 h2 h3
  subst hst
  refine va_callv (va_runSN (As := As) (rest := rest) ⟨C.1, C.2.1, C.2.2.1, C.2.2.2.1, C.2.2.2.2.1⟩ hC ⟨va_cnB n C.2.2.2.2.1 (good_wsf hcode) rfl rfl rfl (C.2.2.2.2.2.1.2.1 _ hlink) (C.2.2.2.2.1 _ hini) hpd ⟨hfr, hlo⟩, C.2.2.2.2.1 _ hstat, trivial⟩ ⟨Pcw.blind, fun U hU hWU => ⟨rfl, by rw [hU]; exact h1, C.2.2.2.2.2.1.moved hWU (by rw [hU]; exact h2)⟩⟩ rfl hn h3.1 rfl (lv_room hW) hdg ⟨C.2.2.2.2.2.2.1, C.2.2.2.2.2.2.2⟩) h2 (fun q _ h => h) (fun q h => h) (fun u t H1 locs1 ht hvm hw hB hz hk hS => ?_)
  clear hw
  rw [ht] at hB
  exact k H1 locs1 ls hB hS h3
theorem csN_Q (C : Cx p R s m args c kc ks D cA B aK aV cc nL own) {y : MethodName} {bytes : ByteArray} {maxL d2 n idx : Nat} {ret : FieldType} {host : String} (hcode : Cond.code y bytes maxL (some ret) ∈ TG) (hini : Cond.initialized y.cls ∈ TG) (hlink : Cond.methodLinkNest own idx y host ∈ NW) (hstat : Cond.static y ∈ TG) (hpd : y.cls ≠ "java/lang/invoke/MethodHandle" ∧ y.cls ≠ "java/lang/invoke/VarHandle" ∧ (parseMethodDescriptor y.desc).map (fun d => d.parameters.length) = some n) (hfr : d2 + 1 ≤ R.frames) (hlo : 8 + (maxL + 11) + 40 * d2 ≤ R.locals) {As rest : List Value} (hn : As.length = n) (hst : st = As.reverse ++ rest) (hW : (rest.map fun v => v.category).sum ≤ 8) {r : Option Nat} (hC : CQ l D cA B aK aV y bytes maxL ret d2 As M r M') (hdg : decode cc pc = .ok (.invokestatic idx, 3)) (k : V p l e R s m args below meth c kc ks D cA B nL Q M' (pc + 3) L (rv B r :: rest)) : V p l e R s m args below meth c kc ks D cA B nL Q M pc L st := by
  intro H locs ls h1 h2 h3
  subst hst
  refine va_callq (va_runSN (As := As) (rest := rest) ⟨C.1, C.2.1, C.2.2.1, C.2.2.2.1, C.2.2.2.2.1⟩ hC ⟨va_cnB n C.2.2.2.2.1 (good_wsf hcode) rfl rfl rfl (C.2.2.2.2.2.1.2.1 _ hlink) (C.2.2.2.2.1 _ hini) hpd ⟨hfr, hlo⟩, C.2.2.2.2.1 _ hstat, trivial⟩ ⟨Pcw.blind, fun U hU hWU => ⟨rfl, by rw [hU]; exact h1, C.2.2.2.2.2.1.moved hWU (by rw [hU]; exact h2)⟩⟩ rfl hn h3.1 rfl (lv_room hW) hdg ⟨C.2.2.2.2.2.2.1, C.2.2.2.2.2.2.2⟩) h2 (fun q _ h => h) (fun q h => h) (fun r1 u t H1 locs1 ht hvm hw hB hz hk hS => ?_)
  subst hw
  rw [ht] at hB
  exact k H1 locs1 ls hB hS h3
theorem v_iret (C : Cx p R s m args c kc ks D cA B aK aV cc nL own) (hr : meth.sig.returnType = some .int) (hlk : meth.locks = false) {r : Int32} (hdg : decode cc pc = .ok (.ireturn, 1)) : V p l e R s m args below meth c kc ks D cA B nL (MQ below (Qci D cA B r M) args s kc ks (fun q => B ≤ q)) M pc L [.int r] := fun H locs ls h1 h2 h3 => W.iret (v := r) C.1 C.2.1 hr (fun t ht hW => ⟨⟨r, (), rfl, rfl, by show va_P D vwCl (WL B cA M) t.heap; rw [ht]; exact h1⟩, h2.F ht⟩) h2.2.2 hdg hlk
theorem v_zret (C : Cx p R s m args c kc ks D cA B aK aV cc nL own) {ty : FieldType} (hr : meth.sig.returnType = some ty) (hlk : meth.locks = false) {r : Int32} (hn : narrow ty (.int r) = .int r) (hdg : decode cc pc = .ok (.ireturn, 1)) : V p l e R s m args below meth c kc ks D cA B nL (MQ below (Qci D cA B r M) args s kc ks (fun q => B ≤ q)) M pc L [.int r] := fun H locs ls h1 h2 h3 => W.zret (v := r) C.1 C.2.1 hr hn (fun t ht hW => ⟨⟨r, (), rfl, rfl, by show va_P D vwCl (WL B cA M) t.heap; rw [ht]; exact h1⟩, h2.F ht⟩) h2.2.2 hdg hlk
theorem v_lret (C : Cx p R s m args c kc ks D cA B aK aV cc nL own) (hr : meth.sig.returnType = some .long) (hlk : meth.locks = false) {r : Int64} (hdg : decode cc pc = .ok (.lreturn, 1)) : V p l e R s m args below meth c kc ks D cA B nL (MQ below (Qcl D cA B r M) args s kc ks (fun q => B ≤ q)) M pc L [.long r] := fun H locs ls h1 h2 h3 => W.lret (v := r) C.1 C.2.1 hr (fun t ht hW => ⟨⟨r, (), rfl, rfl, by show va_P D vwCl (WL B cA M) t.heap; rw [ht]; exact h1⟩, h2.F ht⟩) h2.2.2 hdg hlk
theorem v_vret (C : Cx p R s m args c kc ks D cA B aK aV cc nL own) (hr : meth.sig.returnType = none) (hlk : meth.locks = false) (hdg : decode cc pc = .ok (.return_, 1)) : V p l e R s m args below meth c kc ks D cA B nL (MQ below (Qcv D cA B M) args s kc ks (fun q => B ≤ q)) M pc L [] := fun H locs ls h1 h2 h3 => W.vret C.1 C.2.1 hr (fun t ht hW => ⟨⟨(), rfl, trivial, by show va_P D vwCl (WL B cA M) t.heap; rw [ht]; exact h1⟩, h2.F ht⟩) h2.2.2 hdg hlk
theorem v_aret (C : Cx p R s m args c kc ks D cA B aK aV cc nL own) {rt : FieldType} (hr : meth.sig.returnType = some rt) (hlk : meth.locks = false) (hrt : (∃ n, rt = .object n) ∨ ∃ t, rt = .array t) {r : Option Nat} (hdg : decode cc pc = .ok (.areturn, 1)) : V p l e R s m args below meth c kc ks D cA B nL (MQ below (Qcq D cA B r M) args s kc ks (fun q => B ≤ q)) M pc L [rv B r] := fun H locs ls h1 h2 h3 => W.aret (v := rv B r) C.1 C.2.1 hr hrt (va_rf_or _) (fun t ht hW => ⟨⟨_, (), rfl, rfl, by show va_P D vwCl (WL B cA M) t.heap; rw [ht]; exact h1⟩, h2.F ht⟩) h2.2.2 hdg hlk
end VCALLS
theorem CI_of {l : Launch} {D : va_G} {cA : cAt} {B : Nat} {aK aV : Nat → Nat} {y : MethodName} {cc : ByteArray} {maxL d : Nat} {avs : List Value} {M M' : Mem} {ret : FieldType} {r : Int32} (hy : plainName y.cls = true) (hlen : (lg_sl avs).length ≤ maxL) (hb : ∀ (p : Program) (e : Env) (s : State) (m : MethodId) (args : Array Value) (below : List Frame) (meth : Method) (c : Code), Cx p (rmd d) s m args c 0 0 D cA B aK aV cc maxL y.cls → meth.sig.returnType = some ret → meth.locks = false → V p l e (rmd d) s m args below meth c 0 0 D cA B maxL (MQ below (Qci D cA B r M') args s 0 0 (fun q => B ≤ q)) M 0 (lv_args 0 avs) []) : CI l D cA B aK aV y cc maxL ret d avs M r M' := by
  refine Met.ofW (cc := cc) (maxL := maxL) (ret := some ret) hy rfl ?_
  intro p e s m args below meth c s₁ Bd hml hv
  obtain ⟨rfl, hP, hK⟩ := hv
  have hts := atoms_spec (ws := wsf y cc maxL (some ret)) Bd.pre
  have h0 := hb p e s m _ below meth c ⟨Bd.exec, Bd.bytes, hml, findClass_of_methodNamed Bd.named, fun w h => hts w (List.mem_cons_of_mem _ h), hK, Nat.le_refl _, Nat.le_refl _⟩ Bd.returns Bd.notSynchronized
  have hl := lv_entry avs hlen
  rw [lg_entry_eq]
  exact h0 s.heap [] _ hP va_S.rf hl
theorem CL_of {l : Launch} {D : va_G} {cA : cAt} {B : Nat} {aK aV : Nat → Nat} {y : MethodName} {cc : ByteArray} {maxL d : Nat} {avs : List Value} {M M' : Mem} {ret : FieldType} {r : Int64} (hy : plainName y.cls = true) (hlen : (lg_sl avs).length ≤ maxL) (hb : ∀ (p : Program) (e : Env) (s : State) (m : MethodId) (args : Array Value) (below : List Frame) (meth : Method) (c : Code), Cx p (rmd d) s m args c 0 0 D cA B aK aV cc maxL y.cls → meth.sig.returnType = some ret → meth.locks = false → V p l e (rmd d) s m args below meth c 0 0 D cA B maxL (MQ below (Qcl D cA B r M') args s 0 0 (fun q => B ≤ q)) M 0 (lv_args 0 avs) []) : CL l D cA B aK aV y cc maxL ret d avs M r M' := by
  refine Met.ofW (cc := cc) (maxL := maxL) (ret := some ret) hy rfl ?_
  intro p e s m args below meth c s₁ Bd hml hv
  obtain ⟨rfl, hP, hK⟩ := hv
  have hts := atoms_spec (ws := wsf y cc maxL (some ret)) Bd.pre
  have h0 := hb p e s m _ below meth c ⟨Bd.exec, Bd.bytes, hml, findClass_of_methodNamed Bd.named, fun w h => hts w (List.mem_cons_of_mem _ h), hK, Nat.le_refl _, Nat.le_refl _⟩ Bd.returns Bd.notSynchronized
  have hl := lv_entry avs hlen
  rw [lg_entry_eq]
  exact h0 s.heap [] _ hP va_S.rf hl
theorem CV_of {l : Launch} {D : va_G} {cA : cAt} {B : Nat} {aK aV : Nat → Nat} {y : MethodName} {cc : ByteArray} {maxL d : Nat} {avs : List Value} {M M' : Mem} (hy : plainName y.cls = true) (hlen : (lg_sl avs).length ≤ maxL) (hb : ∀ (p : Program) (e : Env) (s : State) (m : MethodId) (args : Array Value) (below : List Frame) (meth : Method) (c : Code), Cx p (rmd d) s m args c 0 0 D cA B aK aV cc maxL y.cls → meth.sig.returnType = none → meth.locks = false → V p l e (rmd d) s m args below meth c 0 0 D cA B maxL (MQ below (Qcv D cA B M') args s 0 0 (fun q => B ≤ q)) M 0 (lv_args 0 avs) []) : CV l D cA B aK aV y cc maxL d avs M M' := by
  refine Met.ofW (cc := cc) (maxL := maxL) (ret := none) hy rfl ?_
  intro p e s m args below meth c s₁ Bd hml hv
  obtain ⟨rfl, hP, hK⟩ := hv
  have hts := atoms_spec (ws := wsf y cc maxL (none)) Bd.pre
  have h0 := hb p e s m _ below meth c ⟨Bd.exec, Bd.bytes, hml, findClass_of_methodNamed Bd.named, fun w h => hts w (List.mem_cons_of_mem _ h), hK, Nat.le_refl _, Nat.le_refl _⟩ Bd.returns Bd.notSynchronized
  have hl := lv_entry avs hlen
  rw [lg_entry_eq]
  exact h0 s.heap [] _ hP va_S.rf hl
theorem CQ_of {l : Launch} {D : va_G} {cA : cAt} {B : Nat} {aK aV : Nat → Nat} {y : MethodName} {cc : ByteArray} {maxL d : Nat} {avs : List Value} {M M' : Mem} {ret : FieldType} {r : Option Nat} (hy : plainName y.cls = true) (hlen : (lg_sl avs).length ≤ maxL) (hb : ∀ (p : Program) (e : Env) (s : State) (m : MethodId) (args : Array Value) (below : List Frame) (meth : Method) (c : Code), Cx p (rmd d) s m args c 0 0 D cA B aK aV cc maxL y.cls → meth.sig.returnType = some ret → meth.locks = false → V p l e (rmd d) s m args below meth c 0 0 D cA B maxL (MQ below (Qcq D cA B r M') args s 0 0 (fun q => B ≤ q)) M 0 (lv_args 0 avs) []) : CQ l D cA B aK aV y cc maxL ret d avs M r M' := by
  refine Met.ofW (cc := cc) (maxL := maxL) (ret := some ret) hy rfl ?_
  intro p e s m args below meth c s₁ Bd hml hv
  obtain ⟨rfl, hP, hK⟩ := hv
  have hts := atoms_spec (ws := wsf y cc maxL (some ret)) Bd.pre
  have h0 := hb p e s m _ below meth c ⟨Bd.exec, Bd.bytes, hml, findClass_of_methodNamed Bd.named, fun w h => hts w (List.mem_cons_of_mem _ h), hK, Nat.le_refl _, Nat.le_refl _⟩ Bd.returns Bd.notSynchronized
  have hl := lv_entry avs hlen
  rw [lg_entry_eq]
  exact h0 s.heap [] _ hP va_S.rf hl
/-! ## loops and checks of the mirrors -/
/-- a loop: from a state to the next one, or out of it -/
def loopF {σ ρ : Type} (body : σ → Option (σ ⊕ ρ)) : Nat → σ → Option ρ
  | 0, _ => none
  | n + 1, s => (body s).bind fun x => match x with
    | .inl s' => loopF body n s'
    | .inr r => some r
theorem loopF_walk {σ ρ : Type} {body : σ → Option (σ ⊕ ρ)} {Pσ : σ → Prop} {Pρ : ρ → Prop} (hb : ∀ (s : σ) (o : σ ⊕ ρ), body s = some o → (∀ s', o = .inl s' → Pσ s') → (∀ r, o = .inr r → Pρ r) → Pσ s) : ∀ (n : Nat) (s : σ) (r : ρ), loopF body n s = some r → Pρ r → Pσ s
  | 0, _, _, h, _ => by simp [loopF] at h
  | n + 1, s, r, h, hr => by
    rw [loopF] at h
    cases hs : body s with
    | none => rw [hs] at h; simp at h
    | some o =>
      rw [hs] at h
      cases o with
      | inl s' => exact hb s _ hs (fun s2 e => by cases e; exact loopF_walk hb n s' r h hr) (fun r e => by cases e)
      | inr r' =>
        have e : r' = r := Option.some.inj h
        subst e
        exact hb s _ hs (fun s2 e => by cases e) (fun r2 e => by cases e; exact hr)
def FUEL : Nat := 100000
def chk {α : Type} (b : Bool) (x : Option α) : Option α := if b = true then x else none
theorem chk_some {α : Type} {b : Bool} {x : Option α} {r : α} (h : chk b x = some r) : b = true ∧ x = some r := by
  unfold chk at h
  by_cases hb : b = true
  · rw [if_pos hb] at h
    exact ⟨hb, h⟩
  · rw [if_neg hb] at h
    cases h
theorem chk_of {α : Type} {b : Bool} {x : Option α} (hb : b = true) : chk b x = x := by
  unfold chk
  rw [if_pos hb]
theorem bind_ex {α β : Type} {x : Option α} {f : α → Option β} {r : β} (h : x.bind f = some r) : ∃ a, x = some a ∧ f a = some r := Option.bind_eq_some_iff.mp h
/-- a value gets a name -/
def nm {α β : Type} (v : α) (f : α → β) : β := f v
theorem nm_ex {α β : Type} {v : α} {f : α → Option β} {r : β} (h : nm v f = some r) : ∃ x, x = v ∧ f x = some r := ⟨v, rfl, h⟩
/-- an index is within a row -/
def inB (i : Int32) (n : Nat) : Bool := decide (0 ≤ i.toInt ∧ i.toInt < n)
theorem inB_vp {i : Int32} {n : Nat} (h : inB i n = true) : vp_in i n := vp_in_iff.mpr (of_decide_eq_true h)
/-- a boolean's int -/
def isZ (i : Int32) : Bool := decide (i = 0 ∨ i = 1)
theorem isZ_nar {i : Int32} (h : isZ i = true) : narrow .boolean (.int i) = .int i := by
  rcases of_decide_eq_true h with rfl | rfl <;> rfl
theorem isZ_fit {i : Int32} (h : isZ i = true) : fits .boolean (.int i) = true := by
  rcases of_decide_eq_true h with rfl | rfl <;> rfl
def kdB (q c : Nat) : Bool := kd q == c
theorem kdB_eq {q c : Nat} (h : kdB q c = true) : kd q = c := eq_of_beq h
/-- the pieces of an arraycopy within bounds -/
def cpB (sp dp n : Int32) (a b : Nat) : Bool := decide (0 ≤ sp.toInt ∧ 0 ≤ dp.toInt ∧ 0 ≤ n.toInt ∧ sp.toInt + n.toInt ≤ a ∧ dp.toInt + n.toInt ≤ b)
