theorem sh0 {B : Nat} {cA : cAt} {k : Nat} {f : Nat → Int32} (h : kd k = 0) : sh B cA k f = .inr (0, [.ref (B + 27), .int (f 1)]) := by
  unfold sh
  rw [h]
  rfl
theorem sh1 {B : Nat} {cA : cAt} {k : Nat} {f : Nat → Int32} (h : kd k = 1) : sh B cA k f = .inr (1, [.ref (B + 203), .int (f 1)]) := by
  unfold sh
  rw [h]
  rfl
theorem sh2 {B : Nat} {cA : cAt} {k : Nat} {f : Nat → Int32} (h : kd k = 2) : sh B cA k f = .inr (2, [.int (f 0), .int (f 1), .int (f 2), .int (f 3), .int (f 4)]) := by
  unfold sh
  rw [h]
  rfl
theorem sh3 {B : Nat} {cA : cAt} {k : Nat} {f : Nat → Int32} (h : kd k = 3) : sh B cA k f = .inr (3, [.ref (B + 197), .int (f 1)]) := by
  unfold sh
  rw [h]
  rfl
theorem sh4 {B : Nat} {cA : cAt} {k : Nat} {f : Nat → Int32} (h : kd k = 4) : sh B cA k f = .inr (4, [.ref (B + (k + 1)), .int (f 1), .int (f 2)]) := by
  unfold sh
  rw [h]
  rfl
theorem sh5 {B : Nat} {cA : cAt} {k : Nat} {f : Nat → Int32} (h : kd k = 5) : sh B cA k f = .inr (5, [.ref (B + (k + 1)), .int (f 1), .int (f 2), .int (f 3), .int (f 4)]) := by
  unfold sh
  rw [h]
  rfl
theorem sh6 {B : Nat} {cA : cAt} {k : Nat} {f : Nat → Int32} (h : kd k = 6) : sh B cA k f = .inr (6, [.ref (B + 3), .int (f 1), .int (f 2), .int (f 3), .int (f 4), .int (f 5), .int (f 6)]) := by
  unfold sh
  rw [h]
  rfl
theorem sh7 {B : Nat} {cA : cAt} {k : Nat} {f : Nat → Int32} (h : kd k = 7) : sh B cA k f = .inr (7, [.ref (B + 1), .ref (B + 2), .ref (B + 4), .ref (B + 11), .ref (B + 18), .ref (B + 25), .ref (B + 26), .ref (B + 196), .ref (B + 198), .ref (B + 199), .ref (B + 200), .ref (B + 201), .ref (B + 202), .int (f 13), .int (f 14)]) := by
  unfold sh
  rw [h]
  rfl
theorem sh8 {B : Nat} {cA : cAt} {k : Nat} {f : Nat → Int32} (h : kd k = 8) : sh B cA k f = .inr (8, [.int (f 0), .ref (B + 235), .ref (B + 236), .ref (B + 237), .ref (B + 238), .int (f 5), .int (f 6), .ref (B + 239), .ref (B + 240), .ref (B + 241), .int (f 10), .ref (B + 242), .ref (B + 243), .ref (B + 244), .int (f 14), .int (f 15), .int (f 16), .int (f 17), .int (f 18), .int (f 19), .ref (B + 245), .int (f 21), .ref (B + 246), .ref (B + 247), .int (f 24), .ref (B + 248)]) := by
  unfold sh
  rw [h]
  rfl
theorem sh9 {B : Nat} {cA : cAt} {k : Nat} {f : Nat → Int32} (h : kd k = 9) : sh B cA k f = .inl (cA 0, alen k, .inl f) := by
  unfold sh
  rw [h]
  rfl
theorem sh10 {B : Nat} {cA : cAt} {k : Nat} {f : Nat → Int32} (h : kd k = 10) : sh B cA k f = .inl (cA 4, alen k, .inl f) := by
  unfold sh
  rw [h]
  rfl
theorem sh11 {B : Nat} {cA : cAt} {k : Nat} {f : Nat → Int32} (h : kd k = 11) : sh B cA k f = .inl (cA 3, 5, .inr (.inr (.inr (.inr (fun j => some (B + (k + 1 + j))))))) := by
  unfold sh
  rw [h]
  rfl
theorem sh12 {B : Nat} {cA : cAt} {k : Nat} {f : Nat → Int32} (h : kd k = 12) : sh B cA k f = .inl (cA 1, 8, .inr (.inr (.inr (.inr (fun j => some (B + (204 + 2 * j))))))) := by
  unfold sh
  rw [h]
  rfl
theorem sh13 {B : Nat} {cA : cAt} {k : Nat} {f : Nat → Int32} (h : kd k = 13) : sh B cA k f = .inl (cA 2, 2, .inr (.inr (.inr (.inr (fun j => some (B + (220 + 7 * j))))))) := by
  unfold sh
  rw [h]
  rfl
theorem sh14 {B : Nat} {cA : cAt} {k : Nat} {f : Nat → Int32} (h : kd k = 14) : sh B cA k f = .inl (cA 2, 24, .inr (.inr (.inr (.inr (fun j => some (B + (28 + 7 * (f j).toNatClampNeg))))))) := by
  unfold sh
  rw [h]
  rfl
theorem kd_all (a b n : Nat) (h : (List.range 249).all (fun q => !(kd q == a) || kd (q + n) == b) = true) : ∀ q, a ≠ 99 → kd q = a → kd (q + n) = b := by
  intro q ha hq
  have h1 := List.all_eq_true.mp h q (List.mem_range.mpr (kd_lt hq ha))
  rw [hq] at h1
  simpa using h1
theorem kdS {q : Nat} (h : kd q = 5) : kd (q + 1) = 11 := kd_all 5 11 1 (by decide +kernel) q (by decide) h
theorem kdR {q : Nat} (h : kd q = 4) : kd (q + 1) = 9 := kd_all 4 9 1 (by decide +kernel) q (by decide) h
theorem alenR {q : Nat} (h : kd q = 4) : alen (q + 1) = 40 := by
  have h0 : (List.range 249).all (fun q => !(kd q == 4) || alen (q + 1) == 40) = true := by decide +kernel
  have h1 := List.all_eq_true.mp h0 q (List.mem_range.mpr (kd_lt h (by decide)))
  rw [h] at h1
  simpa using h1
theorem ite_t {α : Type} {c : Prop} {_ : Decidable c} {a b : Option α} {r : α} (hc : c) (h : (if c then a else b) = some r) : a = some r := by rwa [if_pos hc] at h
theorem ite_f {α : Type} {c : Prop} {_ : Decidable c} {a b : Option α} {r : α} (hc : ¬ c) (h : (if c then a else b) = some r) : b = some r := by rwa [if_neg hc] at h
def optC {α : Type} (x : Option Nat) (a : α) (f : Nat → α) : α := match x with
  | none => a
  | some v => f v
theorem optC_ex {α : Type} {x : Option Nat} {a : Option α} {f : Nat → Option α} {r : α} (h : optC x a f = some r) : (x = none ∧ a = some r) ∨ ∃ v, x = some v ∧ f v = some r := by
  cases x with
  | none => exact Or.inl ⟨rfl, h⟩
  | some v => exact Or.inr ⟨v, rfl, h⟩
def sumC {α ρ β : Type} (x : α ⊕ ρ) (f : α → Option β) (g : ρ → Option β) : Option β := match x with
  | .inl a => f a
  | .inr r => g r
theorem sumC_l {α ρ β : Type} {x : α} {f : α → Option β} {g : ρ → Option β} {r : β} (h : sumC (.inl x) f g = some r) : f x = some r := h
theorem sumC_r {α ρ β : Type} {x : ρ} {f : α → Option β} {g : ρ → Option β} {r : β} (h : sumC (.inr x) f g = some r) : g x = some r := h
def nz (y : Int32) : Bool := decide (¬ y = 0)
def nzL (y : Int64) : Bool := decide (¬ y = 0)
theorem sw_ne {x k : Int32} (h : ¬ x = k) : ¬ x.toInt = k.toInt := fun e => h (Int32.toInt_inj.mp e)
theorem cp_nn {z : Int32} (h : 0 ≤ z.toInt) : ¬ z < 0 ∧ z.toInt = (z.toNatClampNeg : Int) := by
  refine ⟨fun q => ?_, ?_⟩
  · have h1 := Int32.lt_iff_toInt_lt.mp q
    rw [show (0 : Int32).toInt = 0 from rfl] at h1
    omega
  · show z.toInt = ((z.toInt.toNat : Nat) : Int)
    omega
theorem cpB_ex {sp dp n : Int32} {a b : Nat} (h : cpB sp dp n a b = true) : ¬ sp < 0 ∧ ¬ dp < 0 ∧ ¬ n < 0 ∧ sp.toNatClampNeg + n.toNatClampNeg ≤ a ∧ dp.toNatClampNeg + n.toNatClampNeg ≤ b := by
  obtain ⟨h1, h2, h3, h4, h5⟩ := of_decide_eq_true h
  obtain ⟨a1, a2⟩ := cp_nn h1
  obtain ⟨b1, b2⟩ := cp_nn h2
  obtain ⟨c1, c2⟩ := cp_nn h3
  exact ⟨a1, b1, c1, by omega, by omega⟩
/-- all places of a row become one value -/
def fillM (M : Mem) (q : Nat) (v : Int32) : Mem := mrow M q (fun j => if j < alen q then v else M q j)
def bitC (x : Int32) : Int32 :=
  let a := x - ((x.toUInt32 >>> ((1 : Int32).toUInt32 &&& Int32.toUInt32 31)).toInt32 &&& 1431655765)
  let b := (a &&& 858993459) + ((a.toUInt32 >>> ((2 : Int32).toUInt32 &&& Int32.toUInt32 31)).toInt32 &&& 858993459)
  let c := b + (b.toUInt32 >>> ((4 : Int32).toUInt32 &&& Int32.toUInt32 31)).toInt32 &&& 252645135
  let d := c + (c.toUInt32 >>> ((8 : Int32).toUInt32 &&& Int32.toUInt32 31)).toInt32
  let f := d + (d.toUInt32 >>> ((16 : Int32).toUInt32 &&& Int32.toUInt32 31)).toInt32
  f &&& 63
def sLenI (i : Nat) : Int32 := nI (sLen.getD i 0)
def sChI (i : Nat) (k : Int32) : Int32 := (sByt.getD i []).getD k.toNatClampNeg 0
section VMORE
variable {p : Program} {l : Launch} {e : Env} {R : Room} {s : State} {m : MethodId} {args : Array Value} {below : List Frame} {meth : Method} {c : Code} {kc ks : Nat} {D : va_G} {cA : cAt} {B : Nat} {aK aV : Nat → Nat} {nL : Nat} {Q : State → Prop} {M M' : Mem} {pc : Nat} {L : List (Nat × Value)} {st : List Value} {cc : ByteArray} {own : String}
theorem v_topI {x y : Int32} (h : y = x) (k : V p l e R s m args below meth c kc ks D cA B nL Q M pc L (.int y :: st)) : V p l e R s m args below meth c kc ks D cA B nL Q M pc L (.int x :: st) := h ▸ k
theorem v_topJ {x y : Int64} (h : y = x) (k : V p l e R s m args below meth c kc ks D cA B nL Q M pc L (.long y :: st)) : V p l e R s m args below meth c kc ks D cA B nL Q M pc L (.long x :: st) := h ▸ k
theorem v_mem (h : M' = M) (k : V p l e R s m args below meth c kc ks D cA B nL Q M' pc L st) : V p l e R s m args below meth c kc ks D cA B nL Q M pc L st := h ▸ k
theorem v_aload_nR (C : Cx p R s m args c kc ks D cA B aK aV cc nL own) {k : Fin 4} {i j x : Nat} (hdg : decode cc pc = .ok (.aload_n k, 1)) (hi : (k : Nat) = i) (hL : L[j]? = some (i, .ref x)) (kk : V p l e R s m args below meth c kc ks D cA B nL Q M (pc + 1) L (.ref x :: st)) : V p l e R s m args below meth c kc ks D cA B nL Q M pc L st := v_aload_n (x := some x) C hdg hi hL kk
theorem v_aloadR (C : Cx p R s m args c kc ks D cA B aK aV cc nL own) {i j x : Nat} (hdg : decode cc pc = .ok (.aload i, 2)) (hL : L[j]? = some (i, .ref x)) (kk : V p l e R s m args below meth c kc ks D cA B nL Q M (pc + 2) L (.ref x :: st)) : V p l e R s m args below meth c kc ks D cA B nL Q M pc L st := v_aload (x := some x) C hdg hL kk
theorem v_aload_nO (C : Cx p R s m args c kc ks D cA B aK aV cc nL own) {k : Fin 4} {i j : Nat} {x : Option Nat} (hdg : decode cc pc = .ok (.aload_n k, 1)) (hi : (k : Nat) = i) (hL : L[j]? = some (i, rv B x)) (kk : V p l e R s m args below meth c kc ks D cA B nL Q M (pc + 1) L (rv B x :: st)) : V p l e R s m args below meth c kc ks D cA B nL Q M pc L st := v_aload_n C hdg hi hL kk
theorem v_aloadO (C : Cx p R s m args c kc ks D cA B aK aV cc nL own) {i j : Nat} {x : Option Nat} (hdg : decode cc pc = .ok (.aload i, 2)) (hL : L[j]? = some (i, rv B x)) (kk : V p l e R s m args below meth c kc ks D cA B nL Q M (pc + 2) L (rv B x :: st)) : V p l e R s m args below meth c kc ks D cA B nL Q M pc L st := v_aload C hdg hL kk
theorem v_aload_nN (C : Cx p R s m args c kc ks D cA B aK aV cc nL own) {k : Fin 4} {i j : Nat} (hdg : decode cc pc = .ok (.aload_n k, 1)) (hi : (k : Nat) = i) (hL : L[j]? = some (i, .null)) (kk : V p l e R s m args below meth c kc ks D cA B nL Q M (pc + 1) L (.null :: st)) : V p l e R s m args below meth c kc ks D cA B nL Q M pc L st := v_aload_n (x := none) C hdg hi hL kk
theorem v_aloadN (C : Cx p R s m args c kc ks D cA B aK aV cc nL own) {i j : Nat} (hdg : decode cc pc = .ok (.aload i, 2)) (hL : L[j]? = some (i, .null)) (kk : V p l e R s m args below meth c kc ks D cA B nL Q M (pc + 2) L (.null :: st)) : V p l e R s m args below meth c kc ks D cA B nL Q M pc L st := v_aload (x := none) C hdg hL kk
theorem v_astore_nR (C : Cx p R s m args c kc ks D cA B aK aV cc nL own) {k : Fin 4} {i : Nat} {x : Nat} {L' : List (Nat × Value)} (hdg : decode cc pc = .ok (.astore_n k, 1)) (hi : (k : Nat) = i) (hn : i < nL) (hl : (i, (.ref x : Value)) :: L.filter (fun q => !(q.1 == i) && !(q.1 + 1 == i && q.2.category == 2)) = L') (kk : V p l e R s m args below meth c kc ks D cA B nL Q M (pc + 1) L' st) : V p l e R s m args below meth c kc ks D cA B nL Q M pc L (.ref x :: st) := v_astore_n (x := some x) C hdg hi hn hl kk
theorem v_astoreR (C : Cx p R s m args c kc ks D cA B aK aV cc nL own) {i : Nat} {x : Nat} {L' : List (Nat × Value)} (hdg : decode cc pc = .ok (.astore i, 2)) (hn : i < nL) (hl : (i, (.ref x : Value)) :: L.filter (fun q => !(q.1 == i) && !(q.1 + 1 == i && q.2.category == 2)) = L') (kk : V p l e R s m args below meth c kc ks D cA B nL Q M (pc + 2) L' st) : V p l e R s m args below meth c kc ks D cA B nL Q M pc L (.ref x :: st) := v_astore (x := some x) C hdg hn hl kk
theorem v_astore_nO (C : Cx p R s m args c kc ks D cA B aK aV cc nL own) {k : Fin 4} {i : Nat} {x : Option Nat} {L' : List (Nat × Value)} (hdg : decode cc pc = .ok (.astore_n k, 1)) (hi : (k : Nat) = i) (hn : i < nL) (hl : (i, (rv B x : Value)) :: L.filter (fun q => !(q.1 == i) && !(q.1 + 1 == i && q.2.category == 2)) = L') (kk : V p l e R s m args below meth c kc ks D cA B nL Q M (pc + 1) L' st) : V p l e R s m args below meth c kc ks D cA B nL Q M pc L (rv B x :: st) := v_astore_n C hdg hi hn hl kk
theorem v_astoreO (C : Cx p R s m args c kc ks D cA B aK aV cc nL own) {i : Nat} {x : Option Nat} {L' : List (Nat × Value)} (hdg : decode cc pc = .ok (.astore i, 2)) (hn : i < nL) (hl : (i, (rv B x : Value)) :: L.filter (fun q => !(q.1 == i) && !(q.1 + 1 == i && q.2.category == 2)) = L') (kk : V p l e R s m args below meth c kc ks D cA B nL Q M (pc + 2) L' st) : V p l e R s m args below meth c kc ks D cA B nL Q M pc L (rv B x :: st) := v_astore C hdg hn hl kk
theorem v_astore_nN (C : Cx p R s m args c kc ks D cA B aK aV cc nL own) {k : Fin 4} {i : Nat}  {L' : List (Nat × Value)} (hdg : decode cc pc = .ok (.astore_n k, 1)) (hi : (k : Nat) = i) (hn : i < nL) (hl : (i, (.null : Value)) :: L.filter (fun q => !(q.1 == i) && !(q.1 + 1 == i && q.2.category == 2)) = L') (kk : V p l e R s m args below meth c kc ks D cA B nL Q M (pc + 1) L' st) : V p l e R s m args below meth c kc ks D cA B nL Q M pc L (.null :: st) := v_astore_n (x := none) C hdg hi hn hl kk
theorem v_astoreN (C : Cx p R s m args c kc ks D cA B aK aV cc nL own) {i : Nat}  {L' : List (Nat × Value)} (hdg : decode cc pc = .ok (.astore i, 2)) (hn : i < nL) (hl : (i, (.null : Value)) :: L.filter (fun q => !(q.1 == i) && !(q.1 + 1 == i && q.2.category == 2)) = L') (kk : V p l e R s m args below meth c kc ks D cA B nL Q M (pc + 2) L' st) : V p l e R s m args below meth c kc ks D cA B nL Q M pc L (.null :: st) := v_astore (x := none) C hdg hn hl kk
theorem v_aldC (C : Cx p R s m args c kc ks D cA B aK aV cc nL own) {q : Nat} {i : Int32} (hk : kd q = 11) (hin : vp_in i 5) (hdg : decode cc pc = .ok (.aaload, 1)) (k : V p l e R s m args below meth c kc ks D cA B nL Q M (pc + 1) L (.ref (B + (q + 1 + i.toNatClampNeg)) :: st)) : V p l e R s m args below meth c kc ks D cA B nL Q M pc L (.int i :: .ref (B + q) :: st) := v_aldq C (kd_lt hk (by decide)) (sh11 hk) 3 rfl hin hdg k
theorem v_aldR (C : Cx p R s m args c kc ks D cA B aK aV cc nL own) {i : Int32} (hin : vp_in i 8) (hdg : decode cc pc = .ok (.aaload, 1)) (k : V p l e R s m args below meth c kc ks D cA B nL Q M (pc + 1) L (.ref (B + (204 + 2 * i.toNatClampNeg)) :: st)) : V p l e R s m args below meth c kc ks D cA B nL Q M pc L (.int i :: .ref (B + 1) :: st) := v_aldq (q := 1) C (by decide) (sh12 rfl) 1 rfl hin hdg k
theorem v_aldI (C : Cx p R s m args c kc ks D cA B aK aV cc nL own) {i : Int32} (hin : vp_in i 2) (hdg : decode cc pc = .ok (.aaload, 1)) (k : V p l e R s m args below meth c kc ks D cA B nL Q M (pc + 1) L (.ref (B + (220 + 7 * i.toNatClampNeg)) :: st)) : V p l e R s m args below meth c kc ks D cA B nL Q M pc L (.int i :: .ref (B + 25) :: st) := v_aldq (q := 25) C (by decide) (sh13 rfl) 2 rfl hin hdg k
theorem v_aldK (C : Cx p R s m args c kc ks D cA B aK aV cc nL own) {i : Int32} (hin : vp_in i 24) (hdg : decode cc pc = .ok (.aaload, 1)) (k : V p l e R s m args below meth c kc ks D cA B nL Q M (pc + 1) L (.ref (B + (28 + 7 * (M 27 i.toNatClampNeg).toNatClampNeg)) :: st)) : V p l e R s m args below meth c kc ks D cA B nL Q M pc L (.int i :: .ref (B + 27) :: st) := v_aldq (q := 27) C (by decide) (sh14 rfl) 2 rfl hin hdg k
theorem v_aastK (C : Cx p R s m args c kc ks D cA B aK aV cc nL own) {i x : Int32} (hx : kd (28 + 7 * x.toNatClampNeg) = 5) (hin : vp_in i 24) (hdg : decode cc pc = .ok (.aastore, 1)) (k : V p l e R s m args below meth c kc ks D cA B nL Q (mset M 27 i.toNatClampNeg x) (pc + 1) L st) : V p l e R s m args below meth c kc ks D cA B nL Q M pc L (.ref (B + (28 + 7 * x.toNatClampNeg)) :: .int i :: .ref (B + 27) :: st) := fun H locs ls h1 h2 h3 =>
  va_astq C.1 C.2.1 C.2.2.2.2.2.1.1 h1 WL_D h2 27 2 (28 + 7 * x.toNatClampNeg) 5 (cA := cA 2) (r := (RX5, TX5, 5)) (n := 24) (f := fun j => some (B + (28 + 7 * (M 27 j).toNatClampNeg))) (by rw [WL_get (by decide), sh14 rfl]) rfl (by rw [WL_get (kd_lt hx (by decide)), sh5 hx]) rfl hin hdg (fun H1 locs1 g1 _ g3 => k H1 locs1 ls (by
    have e := WL_set (B := B) (cA := cA) (M := M) (q := 27) (by decide) (upd (M 27) i.toNatClampNeg x)
    rw [sh14 rfl] at e
    have e2 : (fun j => some (B + (28 + 7 * (upd (M 27) i.toNatClampNeg x j).toNatClampNeg))) = va_up (fun j => some (B + (28 + 7 * (M 27 j).toNatClampNeg))) i.toNatClampNeg (some (B + (28 + 7 * x.toNatClampNeg))) := by
      funext j
      unfold upd va_up
      by_cases hj : j = i.toNatClampNeg <;> simp [hj]
    rw [e2] at e
    exact (congrArg (fun z => va_P D vwCl z H1) e).mp g1) g3 h3)
theorem v_alen9 (C : Cx p R s m args c kc ks D cA B aK aV cc nL own) {q : Nat} {v : Int32} (hk : kd q = 9) (hv : Int32.ofNat (alen q) = v) (hdg : decode cc pc = .ok (.arraylength, 1)) (k : V p l e R s m args below meth c kc ks D cA B nL Q M (pc + 1) L (.int v :: st)) : V p l e R s m args below meth c kc ks D cA B nL Q M pc L (.ref (B + q) :: st) := v_alen C (kd_lt hk (by decide)) (sh9 hk) 0 rfl hv hdg k
theorem v_alenQ11 (C : Cx p R s m args c kc ks D cA B aK aV cc nL own) {q : Nat} (hk : kd q = 11) (hdg : decode cc pc = .ok (.arraylength, 1)) (k : V p l e R s m args below meth c kc ks D cA B nL Q M (pc + 1) L (.int 5 :: st)) : V p l e R s m args below meth c kc ks D cA B nL Q M pc L (.ref (B + q) :: st) := v_alen C (kd_lt hk (by decide)) (sh11 hk) 3 rfl rfl hdg k
theorem v_alenQ12 (C : Cx p R s m args c kc ks D cA B aK aV cc nL own) {q : Nat} (hk : kd q = 12) (hdg : decode cc pc = .ok (.arraylength, 1)) (k : V p l e R s m args below meth c kc ks D cA B nL Q M (pc + 1) L (.int 8 :: st)) : V p l e R s m args below meth c kc ks D cA B nL Q M pc L (.ref (B + q) :: st) := v_alen C (kd_lt hk (by decide)) (sh12 hk) 1 rfl rfl hdg k
theorem v_alenQ13 (C : Cx p R s m args c kc ks D cA B aK aV cc nL own) {q : Nat} (hk : kd q = 13) (hdg : decode cc pc = .ok (.arraylength, 1)) (k : V p l e R s m args below meth c kc ks D cA B nL Q M (pc + 1) L (.int 2 :: st)) : V p l e R s m args below meth c kc ks D cA B nL Q M pc L (.ref (B + q) :: st) := v_alen C (kd_lt hk (by decide)) (sh13 hk) 2 rfl rfl hdg k
theorem v_alenQ14 (C : Cx p R s m args c kc ks D cA B aK aV cc nL own) {q : Nat} (hk : kd q = 14) (hdg : decode cc pc = .ok (.arraylength, 1)) (k : V p l e R s m args below meth c kc ks D cA B nL Q M (pc + 1) L (.int 24 :: st)) : V p l e R s m args below meth c kc ks D cA B nL Q M pc L (.ref (B + q) :: st) := v_alen C (kd_lt hk (by decide)) (sh14 hk) 2 rfl rfl hdg k
/-- a call on a string of the class Tape -/
theorem cvS_I (C : Cx p R s m args c kc ks D cA B aK aV cc nL own) {y : MethodName} {bytes : ByteArray} {maxL d2 n idx : Nat} {ret : FieldType} (hcode : Cond.code y bytes maxL (some ret) ∈ TG) (hini : Cond.initialized y.cls ∈ TG) (hlink : Cond.methodLink own idx y ∈ TG) (hinst : Cond.instanceMethod y ∈ TG) (hsel : Cond.selects y.cls y y ∈ TG) (hpd : y.cls ≠ "java/lang/invoke/MethodHandle" ∧ y.cls ≠ "java/lang/invoke/VarHandle" ∧ (parseMethodDescriptor y.desc).map (fun d => d.parameters.length) = some n) (hfr : d2 + 1 ≤ R.frames) (hlo : 8 + (maxL + 11) + 40 * d2 ≤ R.locals) {i : Nat} (hi : i < 8) {As rest : List Value} (hn : As.length = n) (hst : st = As.reverse ++ .ref (aK i) :: rest) (hW : (rest.map fun v => v.category).sum ≤ 8) {r : Int32} (hC : CI l D cA B aK aV y bytes maxL ret d2 (.ref (aK i) :: As) M r M') (hdg : decode cc pc = .ok (.invokevirtual idx, 3)) (k : V p l e R s m args below meth c kc ks D cA B nL Q M' (pc + 3) L (.int r :: rest)) (hy : y.cls = "java/lang/String" := by rfl) : V p l e R s m args below meth c kc ks D cA B nL Q M pc L st := by
  intro H locs ls h1 h2 h3
  subst hst
  refine va_calli (va_runV (As := As) (rest := rest) ⟨C.1, C.2.1, C.2.2.1, C.2.2.2.1, C.2.2.2.2.1⟩ hC ⟨callB_of n C.2.2.2.2.1 (good_wsf hcode) rfl rfl rfl (C.2.2.2.2.1 _ hini) (C.2.2.2.2.1 _ hlink) hpd ⟨hfr, hlo⟩, C.2.2.2.2.1 _ hinst, C.2.2.2.2.1 _ hsel⟩ ⟨Pcw.blind, (by rw [hy]; exact vk_recv C.2.2.2.2.2.1.2.2.1 hi h2), fun U hU hWU => ⟨rfl, by rw [hU]; exact h1, C.2.2.2.2.2.1.moved hWU (by rw [hU]; exact h2)⟩⟩ rfl hn h3.1 rfl (lv_room hW) hdg ⟨C.2.2.2.2.2.2.1, C.2.2.2.2.2.2.2⟩) h2 (fun q _ h => h) (fun q h => h) (fun r1 u t H1 locs1 ht hvm hw hB hz hk hS => ?_)
  subst hw
  rw [ht] at hB
  exact k H1 locs1 ls hB hS h3
end VMORE
