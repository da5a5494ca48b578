/-! ## what holds at the start: the classes, the arrays, the strings, the statics -/
theorem st_in0 : (Cond.instantiable "HotPennies$Acts" (2 : Nat)) ∈ lw_tbl := List.mem_of_getElem? (i := 228) (by decide +kernel)
theorem st_in1 : (Cond.instantiable "HotPennies$Asks" (2 : Nat)) ∈ lw_tbl := List.mem_of_getElem? (i := 258) (by decide +kernel)
theorem st_in2 : (Cond.instantiable "HotPennies$Child" (5 : Nat)) ∈ lw_tbl := List.mem_of_getElem? (i := 170) (by decide +kernel)
theorem st_in3 : (Cond.instantiable "HotPennies$Landing" (2 : Nat)) ∈ lw_tbl := List.mem_of_getElem? (i := 244) (by decide +kernel)
theorem st_in4 : (Cond.instantiable "HotPennies$Row" (3 : Nat)) ∈ lw_tbl := List.mem_of_getElem? (i := 271) (by decide +kernel)
theorem st_in5 : (Cond.instantiable "HotPennies$Square" (5 : Nat)) ∈ lw_tbl := List.mem_of_getElem? (i := 163) (by decide +kernel)
theorem st_in6 : (Cond.instantiable "HotPennies$Tape" (7 : Nat)) ∈ lw_tbl := List.mem_of_getElem? (i := 131) (by decide +kernel)
theorem st_in7 : (Cond.instantiable "HotPennies" (15 : Nat)) ∈ lw_tbl := List.mem_of_getElem? (i := 121) (by decide +kernel)
theorem st_in8 : (Cond.instantiable "HotPenniesModel" (26 : Nat)) ∈ lw_tbl := List.mem_of_getElem? (i := 887) (by decide +kernel)
theorem st_ai : (Cond.arrayClass ClassFile.FieldType.int) ∈ lw_tbl := List.mem_of_getElem? (i := 161) (by decide +kernel)
theorem st_az : (Cond.arrayClass ClassFile.FieldType.boolean) ∈ lw_tbl := List.mem_of_getElem? (i := 971) (by decide +kernel)
theorem st_o4 : (Cond.arrayOver (ClassFile.FieldType.object "HotPennies$Row")) ∈ lw_tbl := List.mem_of_getElem? (i := 129) (by decide +kernel)
theorem st_o5 : (Cond.arrayOver (ClassFile.FieldType.object "HotPennies$Square")) ∈ lw_tbl := List.mem_of_getElem? (i := 226) (by decide +kernel)
theorem st_o2 : (Cond.arrayOver (ClassFile.FieldType.object "HotPennies$Child")) ∈ lw_tbl := List.mem_of_getElem? (i := 169) (by decide +kernel)
theorem st_cs : (Cond.laysStatic "java/lang/String" "COMPACT_STRINGS" "Z") ∈ lw_tbl := List.mem_of_getElem? (i := 452) (by decide +kernel)
theorem st_ps : (Cond.laysStatic "jdk/internal/util/Preconditions" "SIOOBE_FORMATTER" "Ljava/util/function/BiFunction;") ∈ lw_tbl := List.mem_of_getElem? (i := 468) (by decide +kernel)
theorem st_ci : (Cond.initialized "java/lang/String") ∈ lw_tbl := List.mem_of_getElem? (i := 114) (by decide +kernel)
theorem st_pi : (Cond.initialized "jdk/internal/util/Preconditions") ∈ lw_tbl := List.mem_of_getElem? (i := 116) (by decide +kernel)
theorem st_c {args : Array Value} {s : State} (hT : ∀ w ∈ TG, w.before args s = true) (hts : ∀ w ∈ lw_tbl, w.before args s = true) : ∃ D : va_G, ∀ (c : Nat) (q : vw_C), vwCl[c]? = some q → u_Kn s q.1 q.2.1 q.2.2 (D.1 c) (D.2 c) := by
  have h : ∀ c : Nat, ∃ x : ClassId × (Nat → Nat), ∀ q : vw_C, vwCl[c]? = some q → u_Kn s q.1 q.2.1 q.2.2 x.1 x.2 := by
    intro c
    match c with
    | 0 =>
      obtain ⟨c, i, h⟩ := u_known hT inT0 (hts _ st_in0)
      exact ⟨(c, i), fun q e => by cases e; exact h⟩
    | 1 =>
      obtain ⟨c, i, h⟩ := u_known hT inT1 (hts _ st_in1)
      exact ⟨(c, i), fun q e => by cases e; exact h⟩
    | 2 =>
      obtain ⟨c, i, h⟩ := u_known hT inT2 (hts _ st_in2)
      exact ⟨(c, i), fun q e => by cases e; exact h⟩
    | 3 =>
      obtain ⟨c, i, h⟩ := u_known hT inT3 (hts _ st_in3)
      exact ⟨(c, i), fun q e => by cases e; exact h⟩
    | 4 =>
      obtain ⟨c, i, h⟩ := u_known hT inT4 (hts _ st_in4)
      exact ⟨(c, i), fun q e => by cases e; exact h⟩
    | 5 =>
      obtain ⟨c, i, h⟩ := u_known hT inT5 (hts _ st_in5)
      exact ⟨(c, i), fun q e => by cases e; exact h⟩
    | 6 =>
      obtain ⟨c, i, h⟩ := u_known hT inT6 (hts _ st_in6)
      exact ⟨(c, i), fun q e => by cases e; exact h⟩
    | 7 =>
      obtain ⟨c, i, h⟩ := u_known hT inT7 (hts _ st_in7)
      exact ⟨(c, i), fun q e => by cases e; exact h⟩
    | 8 =>
      obtain ⟨c, i, h⟩ := u_known hT inT8 (hts _ st_in8)
      exact ⟨(c, i), fun q e => by cases e; exact h⟩
    | c + 9 => exact ⟨(0, fun _ => 0), fun q e => by simp at e⟩
  obtain ⟨d, hd⟩ := Classical.axiomOfChoice h
  exact ⟨(fun c => (d c).1, fun c => (d c).2), fun c q e => hd c q e⟩
theorem st_arr {args : Array Value} {s : State} {ty : FieldType} (h : (Cond.arrayClass ty).before args s = true) : ∃ c : ClassId, ArrOfT s c ty ∧ s.vm.findClass ("[" ++ ty.toString) = some c := by
  obtain ⟨cA, kA, comp, h1, h2, h3⟩ := Cond.arrayClass_spec h
  exact ⟨cA, fun n z => ⟨fun k h => (by cases h), kA, h2, comp, h3⟩, h1⟩
theorem st_over {args : Array Value} {s : State} {n : String} (h : (Cond.arrayOver (.object n)).before args s = true) : ∃ c : ClassId, ArrOfT s c (.object n) ∧ va_RA s c (.object n) := by
  obtain ⟨comp, c, k, h1, -, h3, h4, h5⟩ := Cond.arrayOver_spec h
  exact ⟨c, fun N z => ⟨(fun k h => by cases h), k, h3, comp, h4⟩, k, comp, h3, h4, h1, h5⟩
theorem st_K {args : Array Value} {s : State} (hT : ∀ w ∈ TG, w.before args s = true) (hts : ∀ w ∈ lw_tbl, w.before args s = true) : ∃ (D : va_G) (cA : cAt), va_K D vwCl (tysL cA) s := by
  obtain ⟨D, hD⟩ := st_c hT hts
  obtain ⟨c0, a0, b0⟩ := st_arr (hts _ st_ai)
  obtain ⟨c1, a1, b1⟩ := st_over (hts _ st_o4)
  obtain ⟨c2, a2, b2⟩ := st_over (hts _ st_o5)
  obtain ⟨c3, a3, b3⟩ := st_over (hts _ st_o2)
  obtain ⟨c4, a4, b4⟩ := st_arr (hts _ st_az)
  refine ⟨D, fun k => if k = 0 then c0 else if k = 1 then c1 else if k = 2 then c2 else if k = 3 then c3 else c4, hD, fun k q e => ?_⟩
  match k with
  | 0 => cases e; exact ⟨a0, b0⟩
  | 1 => cases e; exact ⟨a1, b1⟩
  | 2 => cases e; exact ⟨a2, b2⟩
  | 3 => cases e; exact ⟨a3, b3⟩
  | 4 => cases e; exact ⟨a4, b4⟩
  | k + 5 => simp at e
def sTm (i : Nat) : Term := .string RX6 (sIx.getD i 0)
def gvL : List Cond := flatC (Jvm.Cond.and given_1 narrow_1)
theorem st_S1 : ∀ i, i < 8 → Cond.exactly (sTm i) "java/lang/String" ∈ gvL := by decide +kernel
theorem st_S2 : ∀ i, i < 8 → Cond.eq (.field (sTm i) "java/lang/String" "coder" "B") (.int 0) ∈ gvL := by decide +kernel
theorem st_S3 : ∀ i, i < 8 → Cond.arrayOf (.field (sTm i) "java/lang/String" "value" "[B") .byte ∈ gvL := by decide +kernel
theorem st_S4 : ∀ i, i < 8 → Cond.eq (.length (.field (sTm i) "java/lang/String" "value" "[B")) (.int (Int32.ofNat (sLen.getD i 0))) ∈ gvL := by decide +kernel
theorem st_S5 : ∀ i, i < 8 → ∀ j, j < sLen.getD i 0 → Cond.eq (.elem (.field (sTm i) "java/lang/String" "value" "[B") (.int (Int32.ofNat j))) (.int ((sByt.getD i []).getD j 0)) ∈ gvL := by decide +kernel
theorem st_S6 : ∀ i, i < 8 → ∀ j, j < 8 → i ≠ j → Cond.not (Cond.eq (sTm i) (sTm j)) ∈ gvL ∨ Cond.not (Cond.eq (sTm j) (sTm i)) ∈ gvL := by decide +kernel
theorem st_S7 : ∀ i, i < 8 → Cond.stringRef RX6 (sIx.getD i 0) (sTx.getD i "") ∈ lw_tbl := by decide +kernel
theorem st_S8 : ∀ i, i < 8 → sLen.getD i 0 < 2 ^ 31 := by decide +kernel
theorem st_g1 : Cond.eq (.static "java/lang/String" "COMPACT_STRINGS" "Z") (.int 1) ∈ gvL := by decide +kernel
theorem st_g2 : Cond.isRef (.static "jdk/internal/util/Preconditions" "SIOOBE_FORMATTER" "Ljava/util/function/BiFunction;") ∈ gvL := by decide +kernel
theorem st_all {args : Array Value} {s : State} (hts : ∀ w ∈ lw_tbl, w.before args s = true) (hg : (Jvm.Cond.and given_1 narrow_1).before args s = true) : ∃ (D : va_G) (cA : cAt) (aK aV : Nat → Nat), Kz D cA s.heap.size aK aV s ∧ AO3 s := by
  have hT : ∀ w ∈ TG, w.before args s = true := fun w h => hts w (List.mem_filter.mp h).1
  have hs : ∀ c ∈ gvL, c.before args s = true := flat_of_before _ hg
  have hA : ∀ a : Nat, a < s.heap.size → ¬ (fun q => s.heap.size ≤ q) a := fun a h => Nat.not_le.mpr h
  obtain ⟨D, cA, hK⟩ := st_K hT hts
  obtain ⟨aK, aV, hS, hE⟩ := vk_Sof (args := args) (s := s) (N := 8) (tm := sTm) (len := sLen) (byt := sByt) (A := fun q => s.heap.size ≤ q) st_S8 (fun i hi => hs _ (st_S1 i hi)) (fun i hi => hs _ (st_S2 i hi)) (fun i hi => hs _ (st_S3 i hi)) (fun i hi => hs _ (st_S4 i hi)) (fun i hi j hj => hs _ (st_S5 i hi j hj)) (fun i j hi hj e => (st_S6 i hi j hj e).imp (hs _) (hs _)) hA
  refine ⟨D, cA, aK, aV, ⟨hK, fun w hw => ?_, hS, fun i hi => vk_R.of (hts _ (st_S7 i hi)) (hE i hi), va_Zof (hts _ st_cs) (hts _ st_ci) (va_eqi (hs _ st_g1)) hA, va_Zqof (hts _ st_ps) (hts _ st_pi) (hs _ st_g2) hA⟩, va_AO.of (hts _ st_o4), va_AO.of (hts _ st_o5), va_AO.of (hts _ st_o2)⟩
  exact va_Nw.of (nw_on (List.mem_filter.mp hw).2) (hts w (List.mem_append_right _ (List.mem_filter.mp hw).1))
