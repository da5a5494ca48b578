/-! THE FRAME: the memory of the whole system as one function (offset, place) -> int; its layout; the judgement V over it; a row an instruction. -/
abbrev Mem : Type := Nat → Nat → Int32
def mrow (M : Mem) (q : Nat) (f : Nat → Int32) : Mem := fun a => if a = q then f else M a
def mset (M : Mem) (q j : Nat) (v : Int32) : Mem := mrow M q (upd (M q) j v)
theorem mset_at (M : Mem) (q j : Nat) (v : Int32) (a b : Nat) : mset M q j v a b = if a = q ∧ b = j then v else M a b := by
  unfold mset mrow upd
  by_cases h : a = q
  · subst h
    by_cases h2 : b = j <;> simp [h2]
  · simp [h]
theorem mrow_at (M : Mem) (q : Nat) (f : Nat → Int32) (a b : Nat) : mrow M q f a b = if a = q then f b else M a b := by
  unfold mrow
  by_cases h : a = q <;> simp [h]
/-- the kind of the cell at an offset: 0 .. 8 an object of vwCl, 9 ints, 10 booleans, 11 Child[], 12 Row[], 13 images, 14 kept -/
def kds : List Nat := [7,12,6,9,5,11,2,2,2,2,2,5,11,2,2,2,2,2,5,11,2,2,2,2,2,13,0,14,5,11,2,2,2,2,2,5,11,2,2,2,2,2,5,11,2,2,2,2,2,5,11,2,2,2,2,2,5,11,2,2,2,2,2,5,11,2,2,2,2,2,5,11,2,2,2,2,2,5,11,2,2,2,2,2,5,11,2,2,2,2,2,5,11,2,2,2,2,2,5,11,2,2,2,2,2,5,11,2,2,2,2,2,5,11,2,2,2,2,2,5,11,2,2,2,2,2,5,11,2,2,2,2,2,5,11,2,2,2,2,2,5,11,2,2,2,2,2,5,11,2,2,2,2,2,5,11,2,2,2,2,2,5,11,2,2,2,2,2,5,11,2,2,2,2,2,5,11,2,2,2,2,2,5,11,2,2,2,2,2,5,11,2,2,2,2,2,3,9,9,9,9,9,1,9,4,9,4,9,4,9,4,9,4,9,4,9,4,9,4,9,5,11,2,2,2,2,2,5,11,2,2,2,2,2,8,9,9,9,9,9,9,9,9,10,9,9,9,9,9]
def kd (k : Nat) : Nat := kds.getD k 99
/-- the length of the int (boolean) array at an offset -/
def alen (k : Nat) : Nat := match k with
  | 3 => 300
  | 197 => 20
  | 198 => 30
  | 199 => 30
  | 200 => 30
  | 201 => 3
  | 203 => 16
  | 235 => 8
  | 236 => 8
  | 237 => 320
  | 238 => 300
  | 239 => 39
  | 240 => 39
  | 241 => 936
  | 242 => 78
  | 243 => 2
  | 244 => 16
  | 245 => 5
  | 246 => 30
  | 247 => 19
  | 248 => 30
  | _ => 40
abbrev cAt := Nat → ClassId
def shk (t : Nat) (B : Nat) (cA : cAt) (k : Nat) (f : Nat → Int32) : va_E := match t with
  | 0 => .inr (0, [.ref (B + 27), .int (f 1)])
  | 1 => .inr (1, [.ref (B + 203), .int (f 1)])
  | 2 => .inr (2, [.int (f 0), .int (f 1), .int (f 2), .int (f 3), .int (f 4)])
  | 3 => .inr (3, [.ref (B + 197), .int (f 1)])
  | 4 => .inr (4, [.ref (B + (k + 1)), .int (f 1), .int (f 2)])
  | 5 => .inr (5, [.ref (B + (k + 1)), .int (f 1), .int (f 2), .int (f 3), .int (f 4)])
  | 6 => .inr (6, [.ref (B + 3), .int (f 1), .int (f 2), .int (f 3), .int (f 4), .int (f 5), .int (f 6)])
  | 7 => .inr (7, [.ref (B + 1), .ref (B + 2), .ref (B + 4), .ref (B + 11), .ref (B + 18), .ref (B + 25), .ref (B + 26), .ref (B + 196), .ref (B + 198), .ref (B + 199), .ref (B + 200), .ref (B + 201), .ref (B + 202), .int (f 13), .int (f 14)])
  | 8 => .inr (8, [.int (f 0), .ref (B + 235), .ref (B + 236), .ref (B + 237), .ref (B + 238), .int (f 5), .int (f 6), .ref (B + 239), .ref (B + 240), .ref (B + 241), .int (f 10), .ref (B + 242), .ref (B + 243), .ref (B + 244), .int (f 14), .int (f 15), .int (f 16), .int (f 17), .int (f 18), .int (f 19), .ref (B + 245), .int (f 21), .ref (B + 246), .ref (B + 247), .int (f 24), .ref (B + 248)])
  | 9 => .inl (cA 0, alen k, .inl f)
  | 10 => .inl (cA 4, alen k, .inl f)
  | 11 => .inl (cA 3, 5, .inr (.inr (.inr (.inr (fun j => some (B + (k + 1 + j)))))))
  | 12 => .inl (cA 1, 8, .inr (.inr (.inr (.inr (fun j => some (B + (204 + 2 * j)))))))
  | 13 => .inl (cA 2, 2, .inr (.inr (.inr (.inr (fun j => some (B + (220 + 7 * j)))))))
  | _ => .inl (cA 2, 24, .inr (.inr (.inr (.inr (fun j => some (B + (28 + 7 * (f j).toNatClampNeg)))))))
def sh (B : Nat) (cA : cAt) (k : Nat) (f : Nat → Int32) : va_E := shk (kd k) B cA k f
abbrev tysL (cA : cAt) : List (ClassId × FieldType) := [(cA 0, .int), (cA 1, .object RX4), (cA 2, .object RX5), (cA 3, .object RX2), (cA 4, .boolean)]
def WL (B : Nat) (cA : cAt) (M : Mem) : va_W := (List.range 249).map fun k => (B + k, sh B cA k (M k))
theorem WL_get {B : Nat} {cA : cAt} {M : Mem} {k : Nat} (hk : k < 249) : (WL B cA M)[k]? = some (B + k, sh B cA k (M k)) := by
  simp [WL, List.getElem?_map, List.getElem?_range hk]
theorem WL_get_inv {B : Nat} {cA : cAt} {M : Mem} {k : Nat} {q : Nat × va_E} (h : (WL B cA M)[k]? = some q) : k < 249 ∧ q = (B + k, sh B cA k (M k)) := by
  have hl : k < 249 := by
    have h1 := (List.getElem?_eq_some_iff.mp h).1
    simpa [WL] using h1
  exact ⟨hl, Option.some.inj (h.symm.trans (WL_get hl))⟩
theorem WL_set {B : Nat} {cA : cAt} {M : Mem} {q : Nat} (hq : q < 249) (f : Nat → Int32) : (WL B cA M).set q (B + q, sh B cA q f) = WL B cA (mrow M q f) := by
  apply List.ext_getElem?
  intro k
  by_cases hk : k < 249
  · rw [WL_get hk]
    by_cases e : k = q
    · subst e
      rw [List.getElem?_set_self (by simpa [WL] using hk)]
      simp [mrow]
    · rw [List.getElem?_set_ne (Ne.symm e), WL_get hk]
      simp [mrow, e]
  · have h1 : ((WL B cA M).set q (B + q, sh B cA q f)).length ≤ k := by simp [WL]; omega
    have h2 : (WL B cA (mrow M q f)).length ≤ k := by simp [WL]; omega
    rw [List.getElem?_eq_none h1, List.getElem?_eq_none h2]
theorem WL_D {B : Nat} {cA : cAt} {M : Mem} : va_D (fun q => B ≤ q) (WL B cA M) := by
  refine ⟨fun i j p q hi hj h => ?_, fun k q hk => ?_⟩
  · obtain ⟨-, rfl⟩ := WL_get_inv hi
    obtain ⟨-, rfl⟩ := WL_get_inv hj
    simpa using h
  · obtain ⟨-, rfl⟩ := WL_get_inv hk
    exact Nat.le_add_right _ _
theorem kd_lt {q c : Nat} (h : kd q = c) (hc : c ≠ 99) : q < 249 := by
  by_cases hq : q < 249
  · exact hq
  · refine absurd ?_ hc
    rw [← h]
    unfold kd
    rw [List.getD_eq_getElem?_getD, List.getElem?_eq_none (by have h2 : kds.length = 249 := by decide +kernel
                                                              omega)]
    rfl
/-! which words: those that go with a call as they stand (TG), those of nest mates (NW) -/
def TG : List Cond := lw_tbl.filter goodWord
theorem tg_mem {w : Cond} (i : Nat) (h : lw_tbl[i]? = some w) (hg : goodWord w = true) : w ∈ TG := List.mem_filter.mpr ⟨List.mem_of_getElem? h, hg⟩
theorem tg_in {ws : List Cond} (h : ∀ w ∈ ws, w ∈ lw_tbl) (hg : ws.all goodWord = true) : ∀ w ∈ ws, w ∈ TG := fun w hw => List.mem_filter.mpr ⟨h w hw, List.all_eq_true.mp hg w hw⟩
def isNest : Cond → Bool
  | .fieldLinkNest _ _ _ _ _ _ => true
  | .methodLinkNest _ _ _ _ => true
  | _ => false
def NW : List Cond := tables_1.filter isNest
theorem nw_mem {w : Cond} (i : Nat) (h : tables_1[i]? = some w) (hg : isNest w = true) : w ∈ NW := List.mem_filter.mpr ⟨List.mem_of_getElem? h, hg⟩
def wsf (y : MethodName) (cc : ByteArray) (maxL : Nat) (ret : Option FieldType) : List Cond := .code y cc maxL ret :: TG
theorem good_wsf {y : MethodName} {cc : ByteArray} {maxL : Nat} {ret : Option FieldType} (h : Cond.code y cc maxL ret ∈ TG) : GoodIn TG (wsf y cc maxL ret) := by
  intro w hw
  have hm : w ∈ TG := by
    rcases List.mem_cons.mp hw with rfl | hw
    · exact h
    · exact hw
  exact ⟨hm, good_of_word (List.mem_filter.mp hm).2⟩
abbrev rmd (d : Nat) : Room := { frames := d, cells := 0, slots := 0, locals := 40 * d }
/-! the strings of the class Tape -/
def sIx : List Nat := [50, 29, 42, 83, 85, 87, 89, 91]
def sTx : List String := ["law", "drain", "child", "small", "big", "shy", "glove", "apron"]
def sLen : List Nat := [3, 5, 5, 5, 3, 3, 5, 5]
def sByt : List (List Int32) := [[108, 97, 119], [100, 114, 97, 105, 110], [99, 104, 105, 108, 100], [115, 109, 97, 108, 108], [98, 105, 103], [115, 104, 121], [103, 108, 111, 118, 101], [97, 112, 114, 111, 110]]
/-- what holds at every point, whatever the memory is: kinds, nest mates, the strings, the statics of the JDK that are read -/
def Kz (D : va_G) (cA : cAt) (B : Nat) (aK aV : Nat → Nat) (U : State) : Prop :=
  va_K D vwCl (tysL cA) U ∧ (∀ w ∈ NW, va_Nw w U) ∧ vk_S 8 sLen sByt aK aV (fun q => B ≤ q) U U.heap ∧ (∀ i, i < 8 → vk_R RX6 (sIx.getD i 0) (sTx.getD i "") (aK i) U) ∧
  va_Z "java/lang/String" "COMPACT_STRINGS" "Z" (.int 1) (fun q => B ≤ q) U U.heap ∧ va_Zq "jdk/internal/util/Preconditions" "SIOOBE_FORMATTER" "Ljava/util/function/BiFunction;" (fun q => B ≤ q) U U.heap
theorem nw_warm {w : Cond} (hw : isNest w = true) {s U : State} (hW : s.WarmedH U.vm) (h : va_Nw w s) : va_Nw w U := by
  cases w <;> first | exact va_Nw.warmF hW h | exact va_Nw.warmM hW h | cases hw
theorem nw_on {w : Cond} (hw : isNest w = true) : w.onTables = true := by
  cases w <;> first | rfl | cases hw
theorem Kz.moved {D : va_G} {cA : cAt} {B : Nat} {aK aV : Nat → Nat} {s U : State} {locs : List Loc} (hW : s.WarmedH U.vm) (hS : va_S (fun q => B ≤ q) s.heap U.heap locs) (h : Kz D cA B aK aV s) : Kz D cA B aK aV U := by
  obtain ⟨h1, h2, h3, h4, h5, h6⟩ := h
  exact ⟨va_K.moved hW.alike h1, fun w hw => nw_warm (List.mem_filter.mp hw).2 hW (h2 w hw), (h3.moved hW.alike).kept hS.2.1, fun i hi => (h4 i hi).warm hW, (h5.moved hW.alike).kept hS.2.1, (h6.moved hW.alike).kept hS.2.1⟩
theorem Kz.same {D : va_G} {cA : cAt} {B : Nat} {aK aV : Nat → Nat} {u U : State} (hv : u.vm = U.vm) (hh : U.heap = u.heap) (h : Kz D cA B aK aV u) : Kz D cA B aK aV U := by
  obtain ⟨h1, h2, h3, h4, h5, h6⟩ := h
  have ha : u.vm.Alike U.vm := by rw [hv]; exact Vm.Alike.refl _
  unfold Kz
  rw [hh]
  exact ⟨va_K.moved ha h1, fun w hw => va_Nw.same (nw_on (List.mem_filter.mp hw).2) hv (h2 w hw), h3.moved ha, fun i hi => (h4 i hi).same hv.symm, h5.moved ha, h6.moved ha⟩
/-! ## the judgement -/
def Pcw (D : va_G) (cA : cAt) (B : Nat) (aK aV : Nat → Nat) (avs : List Value) (M : Mem) : Array Value → State → Prop := va_Pc avs (fun U => va_P D vwCl (WL B cA M) U.heap ∧ Kz D cA B aK aV U)
theorem Pcw.blind {D : va_G} {cA : cAt} {B : Nat} {aK aV : Nat → Nat} {avs : List Value} {M : Mem} : FrameBlind (Pcw D cA B aK aV avs M) := by
  intro a U g mk h
  obtain ⟨h1, h2, h3⟩ := h
  exact ⟨h1, h2, Kz.same (u := U) (U := U.calling g mk a) rfl rfl h3⟩
abbrev Qci (D : va_G) (cA : cAt) (B : Nat) (r : Int32) (M : Mem) := va_Qi (fun (r' : Int32) (_ : Unit) => r' = r) (fun _ t => va_P D vwCl (WL B cA M) t.heap) (fun q => B ≤ q)
abbrev Qcl (D : va_G) (cA : cAt) (B : Nat) (r : Int64) (M : Mem) := va_Ql (fun (r' : Int64) (_ : Unit) => r' = r) (fun _ t => va_P D vwCl (WL B cA M) t.heap) (fun q => B ≤ q)
abbrev Qcv (D : va_G) (cA : cAt) (B : Nat) (M : Mem) := va_Qv (fun (_ : Unit) => True) (fun _ t => va_P D vwCl (WL B cA M) t.heap) (fun q => B ≤ q)
abbrev Qcq (D : va_G) (cA : cAt) (B : Nat) (r : Option Nat) (M : Mem) := va_Qq (fun (r' : Option Nat) (_ : Unit) => r' = r.map (fun x => B + x)) (fun _ t => va_P D vwCl (WL B cA M) t.heap) (fun q => B ≤ q)
/-- a reference that may be null, as an offset -/
abbrev rv (B : Nat) (r : Option Nat) : Value := va_rf (r.map (fun x => B + x))
def CI (l : Launch) (D : va_G) (cA : cAt) (B : Nat) (aK aV : Nat → Nat) (y : MethodName) (cc : ByteArray) (maxL : Nat) (ret : FieldType) (d : Nat) (avs : List Value) (M : Mem) (r : Int32) (M' : Mem) : Prop :=
  Met l y (wsf y cc maxL (some ret)) (rmd d) (Pcw D cA B aK aV avs M) (Qci D cA B r M') 0 0 (fun q => B ≤ q)
def CL (l : Launch) (D : va_G) (cA : cAt) (B : Nat) (aK aV : Nat → Nat) (y : MethodName) (cc : ByteArray) (maxL : Nat) (ret : FieldType) (d : Nat) (avs : List Value) (M : Mem) (r : Int64) (M' : Mem) : Prop :=
  Met l y (wsf y cc maxL (some ret)) (rmd d) (Pcw D cA B aK aV avs M) (Qcl D cA B r M') 0 0 (fun q => B ≤ q)
def CV (l : Launch) (D : va_G) (cA : cAt) (B : Nat) (aK aV : Nat → Nat) (y : MethodName) (cc : ByteArray) (maxL : Nat) (d : Nat) (avs : List Value) (M : Mem) (M' : Mem) : Prop :=
  Met l y (wsf y cc maxL none) (rmd d) (Pcw D cA B aK aV avs M) (Qcv D cA B M') 0 0 (fun q => B ≤ q)
def CQ (l : Launch) (D : va_G) (cA : cAt) (B : Nat) (aK aV : Nat → Nat) (y : MethodName) (cc : ByteArray) (maxL : Nat) (ret : FieldType) (d : Nat) (avs : List Value) (M : Mem) (r : Option Nat) (M' : Mem) : Prop :=
  Met l y (wsf y cc maxL (some ret)) (rmd d) (Pcw D cA B aK aV avs M) (Qcq D cA B r M') 0 0 (fun q => B ≤ q)
/-- what a walk stands on -/
def Cx (p : Program) (R : Room) (s : State) (m : MethodId) (args : Array Value) (c : Code) (kc ks : Nat) (D : va_G) (cA : cAt) (B : Nat) (aK aV : Nat → Nat) (cc : ByteArray) (nL : Nat) (own : String) : Prop :=
  p.tables.exec = Jvm.exec ∧ c.code = cc ∧ c.maxLocals = nL ∧ s.vm.findClass own = some m.cls ∧ (∀ w ∈ TG, w.before args s = true) ∧ Kz D cA B aK aV s ∧ kc ≤ R.cells ∧ ks ≤ R.slots
def V (p : Program) (l : Launch) (e : Env) (R : Room) (s : State) (m : MethodId) (args : Array Value) (below : List Frame) (meth : Method) (c : Code) (kc ks : Nat) (D : va_G) (cA : cAt) (B : Nat) (nL : Nat) (Q : State → Prop) (M : Mem) (pc : Nat) (L : List (Nat × Value)) (st : List Value) : Prop :=
  ∀ (H : Heap) (locs : List Loc) (ls : Array Slot), va_P D vwCl (WL B cA M) H → va_S (fun q => B ≤ q) s.heap H locs → lv_has ls nL L → W p l e R s m args below meth c H locs kc ks Q (F0 m pc ls st)
