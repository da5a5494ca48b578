/-! ## THE CONSTRUCTORS: a world that grows -/
def GL (B n : Nat) (E : Nat → va_E) : va_W := (List.range n).map fun k => (B + k, E k)
theorem GL_get {B n : Nat} {E : Nat → va_E} {k : Nat} (hk : k < n) : (GL B n E)[k]? = some (B + k, E k) := by
  simp [GL, List.getElem?_map, List.getElem?_range hk]
theorem GL_inv {B n : Nat} {E : Nat → va_E} {k : Nat} {q : Nat × va_E} (h : (GL B n E)[k]? = some q) : k < n ∧ q = (B + k, E k) := by
  have hl : k < n := by
    have h1 := (List.getElem?_eq_some_iff.mp h).1
    simpa [GL] using h1
  exact ⟨hl, Option.some.inj (h.symm.trans (GL_get hl))⟩
theorem GL_D {B n : Nat} {E : Nat → va_E} : va_D (fun q => B ≤ q) (GL B n E) := by
  refine ⟨fun i j p q hi hj h => ?_, fun k q hk => ?_⟩
  · obtain ⟨-, rfl⟩ := GL_inv hi
    obtain ⟨-, rfl⟩ := GL_inv hj
    simpa using h
  · obtain ⟨-, rfl⟩ := GL_inv hk
    exact Nat.le_add_right _ _
def eup (E : Nat → va_E) (q : Nat) (x : va_E) : Nat → va_E := fun k => if k = q then x else E k
theorem eup_self (E : Nat → va_E) (q : Nat) (x : va_E) : eup E q x q = x := if_pos rfl
theorem eup_ne (E : Nat → va_E) {q k : Nat} (x : va_E) (h : k ≠ q) : eup E q x k = E k := if_neg h
theorem GL_congr {B n : Nat} {E E' : Nat → va_E} (h : ∀ k, k < n → E k = E' k) : GL B n E = GL B n E' := by
  unfold GL
  apply List.map_congr_left
  intro k hk
  rw [h k (List.mem_range.mp hk)]
theorem GL_set {B n : Nat} {E : Nat → va_E} {q : Nat} (hq : q < n) (x : va_E) : (GL B n E).set q (B + q, x) = GL B n (eup E q x) := by
  apply List.ext_getElem?
  intro k
  by_cases hk : k < n
  · rw [GL_get hk]
    by_cases e : k = q
    · subst e
      rw [List.getElem?_set_self (by simpa [GL] using hk), eup_self]
    · rw [List.getElem?_set_ne (Ne.symm e), GL_get hk, eup_ne _ _ e]
  · have h1 : ((GL B n E).set q (B + q, x)).length ≤ k := by simp [GL]; omega
    have h2 : (GL B n (eup E q x)).length ≤ k := by simp [GL]; omega
    rw [List.getElem?_eq_none h1, List.getElem?_eq_none h2]
theorem GL_push {B n : Nat} {E : Nat → va_E} (x : va_E) : GL B n E ++ [(B + n, x)] = GL B (n + 1) (eup E n x) := by
  unfold GL
  rw [List.range_succ, List.map_append]
  have h1 : (List.range n).map (fun k => (B + k, E k)) = (List.range n).map (fun k => (B + k, eup E n x k)) := by
    apply List.map_congr_left
    intro k hk
    rw [eup_ne _ _ (Nat.ne_of_lt (List.mem_range.mp hk))]
  rw [h1]
  simp [eup_self]
theorem GL_lt {D : va_G} {cl : List vw_C} {B n : Nat} {E : Nat → va_E} {H : Heap} (h : va_P D cl (GL B n E) H) : n = 0 ∨ B + n ≤ H.size := by
  cases n with
  | zero => exact Or.inl rfl
  | succ n =>
    have := (h n _ (GL_get (Nat.lt_succ_self n))).lt
    right
    have h2 : B + n < H.size := this
    omega
/-- the address of what is new -/
theorem GL_new {D : va_G} {cl : List vw_C} {B n q : Nat} {E : Nat → va_E} {x : va_E} {H : Heap} (hP : va_P D cl (GL B n E ++ [(q, x)]) H) (hD : va_D (fun q => B ≤ q) (GL B n E ++ [(q, x)])) (hz : H.size ≤ B + n + 1) : q = B + n := by
  have hlen : (GL B n E).length = n := by simp [GL]
  have hlast : (GL B n E ++ [(q, x)])[n]? = some (q, x) := by
    rw [List.getElem?_append_right (by omega), hlen, Nat.sub_self]
    rfl
  have h1 : q < H.size := (hP n _ hlast).lt
  have h2 : B ≤ q := hD.2 n _ hlast
  by_cases e : q = B + n
  · exact e
  · exfalso
    have hk : q - B < n := by omega
    have h3 : (GL B n E ++ [(q, x)])[q - B]? = some (B + (q - B), E (q - B)) := by
      rw [List.getElem?_append_left (by omega), GL_get hk]
    have := hD.1 _ _ _ _ h3 hlast (by show B + (q - B) = q; omega)
    omega
theorem W_size {p : Program} {l : Launch} {e : Env} {R : Room} {s : State} {m : MethodId} {args : Array Value} {below : List Frame} {meth : Method} {c : Code} {H : Heap} {locs : List Loc} {cells slots : Nat} {Q : State → Prop} {g : JFrame} (k : H.size ≤ s.heap.size + cells → W p l e R s m args below meth c H locs cells slots Q g) : W p l e R s m args below meth c H locs cells slots Q g := fun T hT X => k (by rw [← hT]; exact X.heapSize) T hT X
/-- arrays of rows, squares, children can be made -/
def AO3 (U : State) : Prop := va_AO RX4 U ∧ va_AO RX5 U ∧ va_AO RX2 U
theorem AO3.moved {u U : State} (hvm : u.vm.Alike U.vm) (h : AO3 u) : AO3 U := ⟨h.1.moved hvm, h.2.1.moved hvm, h.2.2.moved hvm⟩
def Cu (p : Program) (s : State) (m : MethodId) (args : Array Value) (c : Code) (D : va_G) (cA : cAt) (B : Nat) (aK aV : Nat → Nat) (cc : ByteArray) (nL : Nat) (own : String) : Prop :=
  p.tables.exec = Jvm.exec ∧ c.code = cc ∧ c.maxLocals = nL ∧ s.vm.findClass own = some m.cls ∧ (∀ w ∈ TG, w.before args s = true) ∧ Kz D cA B aK aV s ∧ B ≤ s.heap.size ∧ AO3 s
def U (p : Program) (l : Launch) (e : Env) (R : Room) (s : State) (m : MethodId) (args : Array Value) (below : List Frame) (meth : Method) (c : Code) (kc ks : Nat) (D : va_G) (B nL : Nat) (Q : State → Prop) (n : Nat) (E : Nat → va_E) (pc : Nat) (L : List (Nat × Value)) (st : List Value) : Prop :=
  ∀ (H : Heap) (locs : List Loc) (ls : Array Slot), va_P D vwCl (GL B n E) H → va_S (fun q => B ≤ q) s.heap H locs → lv_has ls nL L → W p l e R s m args below meth c H locs kc ks Q (F0 m pc ls st)
section UROWS
variable {p : Program} {l : Launch} {e : Env} {R : Room} {s : State} {m : MethodId} {args : Array Value} {below : List Frame} {meth : Method} {c : Code} {kc ks : Nat} {D : va_G} {cA : cAt} {B : Nat} {aK aV : Nat → Nat} {nL : Nat} {Q : State → Prop} {n : Nat} {E : Nat → va_E} {pc : Nat} {L : List (Nat × Value)} {st : List Value} {cc : ByteArray} {own : String}
theorem u_iconst (C : Cu p s m args c D cA B aK aV cc nL own) {i : Int} {v : Int32} (hdg : decode cc pc = .ok (.iconst i, 1)) (hv : Int32.ofInt i = v) (k : U p l e R s m args below meth c kc ks D B nL Q n E (pc + 1) L (.int v :: st)) : U p l e R s m args below meth c kc ks D B nL Q n E pc L st := fun H locs ls h1 h2 h3 => lv_iconst C.1 C.2.1 hdg hv (k H locs ls h1 h2 h3)
theorem u_bipush (C : Cu p s m args c D cA B aK aV cc nL own) {i : Int} {v : Int32} (hdg : decode cc pc = .ok (.bipush i, 2)) (hv : (Int8.ofInt i).toInt32 = v) (k : U p l e R s m args below meth c kc ks D B nL Q n E (pc + 2) L (.int v :: st)) : U p l e R s m args below meth c kc ks D B nL Q n E pc L st := fun H locs ls h1 h2 h3 => lv_bipush C.1 C.2.1 hdg hv (k H locs ls h1 h2 h3)
theorem u_sipush (C : Cu p s m args c D cA B aK aV cc nL own) {i : Int} {v : Int32} (hdg : decode cc pc = .ok (.sipush i, 3)) (hv : (Int16.ofInt i).toInt32 = v) (k : U p l e R s m args below meth c kc ks D B nL Q n E (pc + 3) L (.int v :: st)) : U p l e R s m args below meth c kc ks D B nL Q n E pc L st := fun H locs ls h1 h2 h3 => lv_sipush C.1 C.2.1 hdg hv (k H locs ls h1 h2 h3)
theorem u_iload_n (C : Cu p s m args c D cA B aK aV cc nL own) {k : Fin 4} {i j : Nat} {x : Int32} (hdg : decode cc pc = .ok (.iload_n k, 1)) (hi : (k : Nat) = i) (hL : L[j]? = some (i, .int x)) (kk : U p l e R s m args below meth c kc ks D B nL Q n E (pc + 1) L (.int x :: st)) : U p l e R s m args below meth c kc ks D B nL Q n E pc L st := fun H locs ls h1 h2 h3 => lv_iload_n C.1 C.2.1 hdg hi (lv_at h3 j hL) (kk H locs ls h1 h2 h3)
theorem u_aload_n (C : Cu p s m args c D cA B aK aV cc nL own) {k : Fin 4} {i j x : Nat} (hdg : decode cc pc = .ok (.aload_n k, 1)) (hi : (k : Nat) = i) (hL : L[j]? = some (i, .ref x)) (kk : U p l e R s m args below meth c kc ks D B nL Q n E (pc + 1) L (.ref x :: st)) : U p l e R s m args below meth c kc ks D B nL Q n E pc L st := fun H locs ls h1 h2 h3 => lv_aload_n C.1 C.2.1 hdg hi (lv_at h3 j hL) (kk H locs ls h1 h2 h3)
theorem u_istore_n (C : Cu p s m args c D cA B aK aV cc nL own) {k : Fin 4} {i : Nat} {x : Int32} {L' : List (Nat × Value)} (hdg : decode cc pc = .ok (.istore_n k, 1)) (hi : (k : Nat) = i) (hn : i < nL) (hl : (i, Value.int x) :: L.filter (fun q => !(q.1 == i) && !(q.1 + 1 == i && q.2.category == 2)) = L') (kk : U p l e R s m args below meth c kc ks D B nL Q n E (pc + 1) L' st) : U p l e R s m args below meth c kc ks D B nL Q n E pc L (.int x :: st) := fun H locs ls h1 h2 h3 => lv_istore_n C.1 C.2.1 hdg hi h3 hn hl (fun ls' h => kk H locs ls' h1 h2 h)
theorem u_astore_n (C : Cu p s m args c D cA B aK aV cc nL own) {k : Fin 4} {i : Nat} {x : Nat} {L' : List (Nat × Value)} (hdg : decode cc pc = .ok (.astore_n k, 1)) (hi : (k : Nat) = i) (hn : i < nL) (hl : (i, (.ref x : Value)) :: L.filter (fun q => !(q.1 == i) && !(q.1 + 1 == i && q.2.category == 2)) = L') (kk : U p l e R s m args below meth c kc ks D B nL Q n E (pc + 1) L' st) : U p l e R s m args below meth c kc ks D B nL Q n E pc L (.ref x :: st) := fun H locs ls h1 h2 h3 => lv_astore_n C.1 C.2.1 hdg hi h3 hn hl (fun ls' h => kk H locs ls' h1 h2 h)
theorem u_iinc (C : Cu p s m args c D cA B aK aV cc nL own) {i j : Nat} {d : Int} {x v : Int32} {L' : List (Nat × Value)} (hdg : decode cc pc = .ok (.iinc i d, 3)) (hL : L[j]? = some (i, .int x)) (hv : x + Int32.ofInt d = v) (hn : i < nL) (hl : (i, Value.int v) :: L.filter (fun q => !(q.1 == i) && !(q.1 + 1 == i && q.2.category == 2)) = L') (kk : U p l e R s m args below meth c kc ks D B nL Q n E (pc + 3) L' st) : U p l e R s m args below meth c kc ks D B nL Q n E pc L st := fun H locs ls h1 h2 h3 => lv_iinc C.1 C.2.1 hdg h3 hL hv hn hl (fun ls' h => kk H locs ls' h1 h2 h)
theorem u_dup (C : Cu p s m args c D cA B aK aV cc nL own) {v : Value} (hdg : decode cc pc = .ok (.dup, 1)) (hv : v.category = 1) (k : U p l e R s m args below meth c kc ks D B nL Q n E (pc + 1) L (v :: v :: st)) : U p l e R s m args below meth c kc ks D B nL Q n E pc L (v :: st) := fun H locs ls h1 h2 h3 => lv_dup C.1 C.2.1 hdg hv (k H locs ls h1 h2 h3)
theorem u_icmp_ge (C : Cu p s m args c D cA B aK aV cc nL own) {x y : Int32} {off : Int} {tgt : Nat} (hdg : decode cc pc = .ok (.if_icmp .ge off, 3)) (ht : (pc : Int) + off = (tgt : Int)) (kt : y ≤ x → U p l e R s m args below meth c kc ks D B nL Q n E tgt L st) (kf : ¬ y ≤ x → U p l e R s m args below meth c kc ks D B nL Q n E (pc + 3) L st) : U p l e R s m args below meth c kc ks D B nL Q n E pc L (.int y :: .int x :: st) := fun H locs ls h1 h2 h3 => lv_icmp_ge C.1 C.2.1 hdg ht (fun q => kt q H locs ls h1 h2 h3) (fun q => kf q H locs ls h1 h2 h3)
theorem u_goto (C : Cu p s m args c D cA B aK aV cc nL own) {off : Int} {tgt : Nat} (hdg : decode cc pc = .ok (.goto off, 3)) (ht : (pc : Int) + off = (tgt : Int)) (k : U p l e R s m args below meth c kc ks D B nL Q n E tgt L st) : U p l e R s m args below meth c kc ks D B nL Q n E pc L st := fun H locs ls h1 h2 h3 => lv_goto C.1 C.2.1 hdg ht (k H locs ls h1 h2 h3)
theorem u_new (C : Cu p s m args c D cA B aK aV cc nL own) (hz : s.heap.size + kc = B + n) {cls : String} {T : u_T} {N ci index : Nat} (hin : ∀ w ∈ u_ws cls T N, w ∈ TG) (ty : Nat → FieldType) (hty : ∀ k, k < N → parseFieldDescriptor (T k).2.2.1 = some (ty k)) (hcl : Cond.classLink own index cls ∈ TG) (hinst : Cond.instantiable cls N ∈ TG) (hini : Cond.initialized cls ∈ TG) (hc : vwCl[ci]? = some (cls, T, N)) {fs : List Value} (hfs : ∀ j, j < N → defaultValue (ty j) = vp_V fs j) (hcells : kc + 1 ≤ R.cells) (hslots : ks + N ≤ R.slots) (hdg : decode cc pc = .ok (.new index, 3)) (k : U p l e R s m args below meth c (kc + 1) (ks + N) D B nL Q (n + 1) (eup E n (.inr (ci, fs))) (pc + 3) L (.ref (B + n) :: st)) : U p l e R s m args below meth c kc ks D B nL Q n E pc L st := fun H locs ls h1 h2 h3 =>
  va_new C.1 C.2.1 C.2.2.2.2.1 hin ty hty C.2.2.2.1 (C.2.2.2.2.1 _ hcl) (C.2.2.2.2.1 _ hinst) (C.2.2.2.2.1 _ hini) C.2.2.2.2.2.1.1 h1 GL_D h2 (fun q hq => Nat.le_trans C.2.2.2.2.2.2.1 hq) hc hfs hcells hslots hdg (fun q H1 g1 g2 g3 => W_size fun hs => by
    have e := GL_new g1 g2 (by omega)
    subst e
    rw [GL_push] at g1
    exact k H1 locs ls g1 g3 h3)
theorem u_newa (C : Cu p s m args c D cA B aK aV cc nL own) (hz : s.heap.size + kc = B + n) {atype : ArrayType} {t0 : Nat} (harr : Cond.arrayClass (newarray.typeOf atype) ∈ TG) {ty : FieldType} (hty : newarray.typeOf atype = ty) (ht : (tysL cA)[t0]? = some (cA t0, ty)) (hra : ∀ c', va_RA s c' ty → va_RA s (cA t0) ty → c' = cA t0) {i : Int32} {N' : Nat} {a0 : vp_A} (ha : ∀ cB : ClassId, vp_cell cB a0 = arrV cB N' (fun _ => defaultValue ty)) (hn : ¬ i < 0) (hN : i.toNatClampNeg = N') (hbytes : N' * componentBytes ty ≤ 536870912) (hcells : kc + 1 ≤ R.cells) (hslots : ks + N' ≤ R.slots) (hdg : decode cc pc = .ok (.newarray atype, 2)) (k : U p l e R s m args below meth c (kc + 1) (ks + N') D B nL Q (n + 1) (eup E n (.inl (cA t0, a0))) (pc + 2) L (.ref (B + n) :: st)) : U p l e R s m args below meth c kc ks D B nL Q n E pc L (.int i :: st) := fun H locs ls h1 h2 h3 =>
  va_newa C.1 C.2.1 (C.2.2.2.2.1 _ harr) hty C.2.2.2.2.2.1.1 h1 GL_D h2 (fun q hq => Nat.le_trans C.2.2.2.2.2.2.1 hq) ha hn hN hbytes hcells hslots hdg (fun q c' H1 gK g1 g2 g3 => W_size fun hs => by
    have e := GL_new g1 g2 (by omega)
    subst e
    have hc : c' = cA t0 := hra c' ((gK.2 5 _ rfl).2) ((C.2.2.2.2.2.1.1.2 t0 _ ht).2)
    subst hc
    rw [GL_push] at g1
    exact k H1 locs ls g1 g3 h3)
theorem u_newq (C : Cu p s m args c D cA B aK aV cc nL own) (hz : s.heap.size + kc = B + n) {cls : String} {index t0 : Nat} (hcl : Cond.classLink own index cls ∈ TG) (hover : va_AO cls s) (ht : (tysL cA)[t0]? = some (cA t0, .object cls)) {i : Int32} {N' : Nat} (hn : ¬ i < 0) (hN : i.toNatClampNeg = N') (hbytes : N' * 4 ≤ 536870912) (hcells : kc + 1 ≤ R.cells) (hslots : ks + N' ≤ R.slots) (hdg : decode cc pc = .ok (.anewarray index, 3)) (k : U p l e R s m args below meth c (kc + 1) (ks + N') D B nL Q (n + 1) (eup E n (.inl (cA t0, N', .inr (.inr (.inr (.inr (fun _ => none))))))) (pc + 3) L (.ref (B + n) :: st)) : U p l e R s m args below meth c kc ks D B nL Q n E pc L (.int i :: st) := fun H locs ls h1 h2 h3 =>
  va_newq C.1 C.2.1 C.2.2.2.1 (C.2.2.2.2.1 _ hcl) hover C.2.2.2.2.2.1.1 h1 GL_D h2 (fun q hq => Nat.le_trans C.2.2.2.2.2.2.1 hq) hn hN hbytes hcells hslots hdg (fun q c' H1 gK g1 g2 g3 => W_size fun hs => by
    have e := GL_new g1 g2 (by omega)
    subst e
    obtain ⟨k1, c1, -, -, -, f1⟩ := (gK.2 5 _ rfl).2
    obtain ⟨k2, c2, -, -, -, f2⟩ := (C.2.2.2.2.2.1.1.2 t0 _ ht).2
    have hc : c' = cA t0 := Option.some.inj (f1.symm.trans f2)
    subst hc
    rw [GL_push] at g1
    exact k H1 locs ls g1 g3 h3)
end UROWS
