section VLAW
variable {p : Program} {l : Launch} {e : Env} {R : Room} {s : State} {m : MethodId} {args : Array Value} {below : List Frame} {meth : Method} {c : Code} {kc ks : Nat} {D : va_G} {cA : cAt} {B : Nat} {aK aV : Nat → Nat} {nL : Nat} {Q : State → Prop} {M : Mem} {pc : Nat} {L : List (Nat × Value)} {st : List Value} {cc : ByteArray} {own : String} {b N : Nat} {xs : Nat → Int32}
theorem v_sld (C : Cx p R s m args c kc ks D cA B aK aV cc nL own) (hX : va_X b N xs s s.heap) (hbl : b < s.heap.size ∧ b < B) {i : Int32} (hin : vp_in i N) (hdg : decode cc pc = .ok (.iaload, 1)) (k : V p l e R s m args below meth c kc ks D cA B nL Q M (pc + 1) L (.int (xs i.toNatClampNeg) :: st)) : V p l e R s m args below meth c kc ks D cA B nL Q M pc L (.int i :: .ref b :: st) := fun H locs ls h1 h2 h3 => va_sld C.1 C.2.1 hX hbl.1 (Nat.not_le.mpr hbl.2) h2 hin hdg (k H locs ls h1 h2 h3)
theorem v_slen (C : Cx p R s m args c kc ks D cA B aK aV cc nL own) (hX : va_X b N xs s s.heap) (hbl : b < s.heap.size ∧ b < B) (hdg : decode cc pc = .ok (.arraylength, 1)) (k : V p l e R s m args below meth c kc ks D cA B nL Q M (pc + 1) L (.int (Int32.ofNat N) :: st)) : V p l e R s m args below meth c kc ks D cA B nL Q M pc L (.ref b :: st) := fun H locs ls h1 h2 h3 => va_slen C.1 C.2.1 hX hbl.1 (Nat.not_le.mpr hbl.2) h2 hdg (k H locs ls h1 h2 h3)
end VLAW
def R_law : String := "HotPenniesLaw"
def lw_P (b : Addr) (xs : List Int32) (args : Array Value) (s : State) : Prop := args = #[.ref b] ∧ s.IntsAt b xs ∧ xs.length ≤ 3072 ∧ (Jvm.Cond.and given_1 narrow_1).before args s = true
def lw_Q (_ : Array Value) (s : State) (o : Outcome) (t : State) : Prop := o = .returned (some (.int 1)) ∧ Framed s o t [] 600000 7302250
def lw_Z (below : List Frame) (a : Array Value) (s : State) : State → Prop := fun t => ∃ o, t.status = .running ∧ Ended t below o ∧ lw_Q a s o t
/-- the law's own end, with 1 on the stack, nothing written that was there before, its room as the claim has it -/
theorem lw_ret {p : Program} {l : Launch} {e : Env} {s : State} {m : MethodId} {below : List Frame} {meth : Method} {c : Code} {b : Nat} (hx : p.tables.exec = Jvm.exec) (hb : c.code = code) (hr : meth.sig.returnType = ret) (hlocks : meth.locks = false) {pc : Nat} {H : Heap} {ls : Array Slot} (hdg : decode code pc = .ok (.ireturn, 1)) : W p l e room_1 s m #[Value.ref b] below meth c H [] 600000 7302250 (lw_Z below #[Value.ref b] s) (F0 m pc ls [.int 1]) := by
  intro T hT X
  obtain ⟨fs, hret, hrun, hended, hW, hframe⟩ := X.leave (v := some (.int 1)) (hlocks := hlocks) (fun h => by rw [hr] at h; cases h)
  have hmeth' : T.vm.method? m = some meth := X.method'
  refine ⟨T.setFrames fs, ?_, .returned (some (.int 1)), hrun, hended, rfl, ⟨_, rfl⟩, hW, hframe⟩
  jvm_step X.here [X.here.top, hx, hb, hdg, hmeth', hr, ret, narrow_b1]
  (try refine ⟨rfl, ?_⟩); (try refine ⟨rfl, ?_⟩)
  first | (intro acts; rw [hret _ acts rfl rfl rfl]) | rw [hret _ _ rfl rfl rfl]
  exact Steps.refl _
/-- what holds at the law's entry: the machine, the code, the tables' words (any of lw_tbl by 'hts w (by decide +kernel)'), the script of L ints xs at the cell b, what the Statement gives of the start (any of its parts by flat_of_before) -/
def lw_At (p : Program) (s : State) (m : MethodId) (meth : Method) (c : Code) (b L : Nat) (xs : Nat → Int32) : Prop :=
  p.tables.exec = Jvm.exec ∧ c.code = code ∧ meth.sig.returnType = ret ∧ c.maxLocals = 4 ∧ s.vm.findClass R_law = some m.cls ∧ (∀ w ∈ lw_tbl, w.before #[Value.ref b] s = true) ∧ va_X b L xs s s.heap ∧ b < s.heap.size ∧ meth.locks = false ∧ (Jvm.Cond.and given_1 narrow_1).before #[Value.ref b] s = true

theorem v_lawret {p : Program} {l : Launch} {e : Env} {s : State} {m : MethodId} {below : List Frame} {meth : Method} {c : Code} {D : va_G} {cA : cAt} {B b : Nat} {aK aV : Nat → Nat} {M : Mem} {pc : Nat} {L : List (Nat × Value)} (C : Cx p room_1 s m #[Value.ref b] c 600000 7302250 D cA B aK aV cL_law 4 RL) (hrt : meth.sig.returnType = ret ∧ B = s.heap.size) (hlk : meth.locks = false) (hdg : decode cL_law pc = .ok (.ireturn, 1)) : V p l e room_1 s m #[Value.ref b] below meth c 600000 7302250 D cA B 4 (lw_Z below #[Value.ref b] s) M pc L [.int 1] := fun H locs ls h1 h2 h3 => va_forget (fun q hq => by have h4 := h2.2.2 q hq; rw [hrt.2] at h4; exact h4) (lw_ret C.1 C.2.1 hrt.1 hlk hdg)
def b_L_law_18 (M : Mem) (xs : Nat → Int32) (N : Nat) (x3 : Int32) : Option ((Int32 × Mem) ⊕ (Mem ⊕ Int32)) :=
  if ((Int32.ofNat N) - 6) < x3 then (some (.inr (.inl M))) else (chk (inB x3 N) (if ((xs x3.toNatClampNeg) &&& 31) = 0 then (chk (inB (x3 + 1) N) (chk (inB (x3 + 2) N) (chk (inB (x3 + 3) N) ((m_X7_row M (xs (x3 + 1).toNatClampNeg) (xs (x3 + 2).toNatClampNeg) (xs (x3 + 3).toNatClampNeg)).bind fun r230 => chk (inB (x3 + 1) N) (chk (inB (x3 + 2) N) (chk (inB (x3 + 3) N) ((m_X8_row r230.2 (xs (x3 + 1).toNatClampNeg) (xs (x3 + 2).toNatClampNeg) (xs (x3 + 3).toNatClampNeg)).bind fun r234 => if r230.1 = r234.1 then (some (.inl (x3 + 6, r234.2))) else (some (.inr (.inr 0)))))))))) else (if ((xs x3.toNatClampNeg) &&& 31) = 1 then (chk (inB (x3 + 1) N) (chk (inB (x3 + 2) N) (chk (inB (x3 + 3) N) ((m_X7_set M (xs (x3 + 1).toNatClampNeg) (xs (x3 + 2).toNatClampNeg) (xs (x3 + 3).toNatClampNeg)).bind fun r222 => chk (inB (x3 + 1) N) (chk (inB (x3 + 2) N) (chk (inB (x3 + 3) N) ((m_X8_set r222.2 (xs (x3 + 1).toNatClampNeg) (xs (x3 + 2).toNatClampNeg) (xs (x3 + 3).toNatClampNeg)).bind fun r226 => if r222.1 = r226.1 then (some (.inl (x3 + 6, r226.2))) else (some (.inr (.inr 0)))))))))) else (if ((xs x3.toNatClampNeg) &&& 31) = 2 then (chk (inB (x3 + 1) N) (chk (inB (x3 + 2) N) (chk (inB (x3 + 3) N) (chk (inB (x3 + 4) N) (chk (inB (x3 + 5) N) ((m_X7_copy M (xs (x3 + 1).toNatClampNeg) (xs (x3 + 2).toNatClampNeg) (xs (x3 + 3).toNatClampNeg) (xs (x3 + 4).toNatClampNeg) (xs (x3 + 5).toNatClampNeg)).bind fun r212 => chk (inB (x3 + 1) N) (chk (inB (x3 + 2) N) (chk (inB (x3 + 3) N) (chk (inB (x3 + 4) N) (chk (inB (x3 + 5) N) ((m_X8_copy r212.2 (xs (x3 + 1).toNatClampNeg) (xs (x3 + 2).toNatClampNeg) (xs (x3 + 3).toNatClampNeg) (xs (x3 + 4).toNatClampNeg) (xs (x3 + 5).toNatClampNeg)).bind fun r218 => if r212.1 = r218.1 then (some (.inl (x3 + 6, r218.2))) else (some (.inr (.inr 0)))))))))))))) else (if ((xs x3.toNatClampNeg) &&& 31) = 3 then (chk (inB (x3 + 1) N) ((m_X7_drop M (xs (x3 + 1).toNatClampNeg)).bind fun r204 => chk (inB (x3 + 1) N) ((m_X8_drop r204.2 (xs (x3 + 1).toNatClampNeg)).bind fun r206 => if r204.1 = r206.1 then (some (.inl (x3 + 6, r206.2))) else (some (.inr (.inr 0)))))) else (if ((xs x3.toNatClampNeg) &&& 31) = 4 then (chk (inB (x3 + 1) N) (chk (inB (x3 + 2) N) (chk (inB (x3 + 3) N) ((m_X7_feed M ((((xs (x3 + 1).toNatClampNeg).toInt64) <<< ((32 : Int32).toInt64 &&& 63)) ||| (((xs (x3 + 2).toNatClampNeg).toInt64) &&& 4294967295)) (xs (x3 + 3).toNatClampNeg)).bind fun r198 => chk (inB (x3 + 1) N) (chk (inB (x3 + 2) N) (chk (inB (x3 + 3) N) ((m_X8_feed r198.2 ((((xs (x3 + 1).toNatClampNeg).toInt64) <<< ((32 : Int32).toInt64 &&& 63)) ||| (((xs (x3 + 2).toNatClampNeg).toInt64) &&& 4294967295)) (xs (x3 + 3).toNatClampNeg)).bind fun r202 => if r198.1 = r202.1 then (some (.inl (x3 + 6, r202.2))) else (some (.inr (.inr 0)))))))))) else (if ((xs x3.toNatClampNeg) &&& 31) = 5 then ((m_X7_square M).bind fun r193 => (m_X8_square r193.2).bind fun r194 => if r193.1 = r194.1 then (some (.inl (x3 + 6, r194.2))) else (some (.inr (.inr 0)))) else (if ((xs x3.toNatClampNeg) &&& 31) = 6 then ((m_X7_fault M).bind fun r191 => (m_X8_fault M).bind fun r192 => if r191 = r192 then (some (.inl (x3 + 6, M))) else (some (.inr (.inr 0)))) else (if ((xs x3.toNatClampNeg) &&& 31) = 7 then (chk (inB (x3 + 1) N) (chk (inB (x3 + 2) N) (chk (inB (x3 + 3) N) (chk (inB (x3 + 4) N) ((m_X7_toss M (xs (x3 + 1).toNatClampNeg) (xs (x3 + 2).toNatClampNeg) (xs (x3 + 3).toNatClampNeg) (xs (x3 + 4).toNatClampNeg)).bind fun r185 => chk (inB (x3 + 1) N) (chk (inB (x3 + 2) N) (chk (inB (x3 + 3) N) (chk (inB (x3 + 4) N) ((m_X8_toss r185.2 (xs (x3 + 1).toNatClampNeg) (xs (x3 + 2).toNatClampNeg) (xs (x3 + 3).toNatClampNeg) (xs (x3 + 4).toNatClampNeg)).bind fun r190 => if r185.1 = r190.1 then (some (.inl (x3 + 6, r190.2))) else (some (.inr (.inr 0)))))))))))) else (if ((xs x3.toNatClampNeg) &&& 31) = 8 then (chk (inB (x3 + 1) N) (chk (inB (x3 + 2) N) ((m_X7_run M (xs (x3 + 1).toNatClampNeg) (xs (x3 + 2).toNatClampNeg)).bind fun r177 => chk (inB (x3 + 1) N) (chk (inB (x3 + 2) N) ((m_X8_run r177.2 (xs (x3 + 1).toNatClampNeg) (xs (x3 + 2).toNatClampNeg)).bind fun r180 => if r177.1 = r180.1 then (some (.inl (x3 + 6, r180.2))) else (some (.inr (.inr 0)))))))) else (if ((xs x3.toNatClampNeg) &&& 31) = 9 then (chk (inB (x3 + 1) N) (chk (inB (x3 + 2) N) ((m_X7_corner M (xs (x3 + 1).toNatClampNeg) (xs (x3 + 2).toNatClampNeg)).bind fun r171 => chk (inB (x3 + 1) N) (chk (inB (x3 + 2) N) ((m_X8_corner r171.2 (xs (x3 + 1).toNatClampNeg) (xs (x3 + 2).toNatClampNeg)).bind fun r174 => if r171.1 = r174.1 then (some (.inl (x3 + 6, r174.2))) else (some (.inr (.inr 0)))))))) else (if ((xs x3.toNatClampNeg) &&& 31) = 10 then ((m_X7_undo M).bind fun r167 => (m_X8_undo r167.2).bind fun r168 => if r167.1 = r168.1 then (some (.inl (x3 + 6, r168.2))) else (some (.inr (.inr 0)))) else (if ((xs x3.toNatClampNeg) &&& 31) = 11 then (chk (inB (x3 + 1) N) (chk (inB (x3 + 2) N) ((m_X7_child M (xs (x3 + 1).toNatClampNeg) (xs (x3 + 2).toNatClampNeg)).bind fun r163 => chk (inB (x3 + 1) N) (chk (inB (x3 + 2) N) ((m_X8_child M (xs (x3 + 1).toNatClampNeg) (xs (x3 + 2).toNatClampNeg)).bind fun r166 => if r163 = r166 then (some (.inl (x3 + 6, M))) else (some (.inr (.inr 0)))))))) else (if ((xs x3.toNatClampNeg) &&& 31) = 12 then (chk (inB (x3 + 1) N) (chk (inB (x3 + 2) N) ((m_X7_cell M (xs (x3 + 1).toNatClampNeg) (xs (x3 + 2).toNatClampNeg)).bind fun r157 => chk (inB (x3 + 1) N) (chk (inB (x3 + 2) N) ((m_X8_cell_ M (xs (x3 + 1).toNatClampNeg) (xs (x3 + 2).toNatClampNeg)).bind fun r160 => if r157 = r160.1 then (some (.inl (x3 + 6, r160.2))) else (some (.inr (.inr 0)))))))) else (if ((xs x3.toNatClampNeg) &&& 31) = 13 then (chk (inB (x3 + 1) N) (chk (inB (x3 + 2) N) ((m_X7_power M (xs (x3 + 1).toNatClampNeg) (xs (x3 + 2).toNatClampNeg)).bind fun r151 => chk (inB (x3 + 1) N) (chk (inB (x3 + 2) N) ((m_X8_power M (xs (x3 + 1).toNatClampNeg) (xs (x3 + 2).toNatClampNeg)).bind fun r154 => if r151 = r154.1 then (some (.inl (x3 + 6, r154.2))) else (some (.inr (.inr 0)))))))) else (if ((xs x3.toNatClampNeg) &&& 31) = 14 then (chk (inB (x3 + 1) N) (chk (inB (x3 + 2) N) (chk (inB (x3 + 3) N) (chk (inB (x3 + 4) N) ((m_X7_mean M (xs (x3 + 1).toNatClampNeg) (xs (x3 + 2).toNatClampNeg) (xs (x3 + 3).toNatClampNeg) (xs (x3 + 4).toNatClampNeg)).bind fun r143 => chk (inB (x3 + 1) N) (chk (inB (x3 + 2) N) (chk (inB (x3 + 3) N) (chk (inB (x3 + 4) N) ((m_X8_mean r143.2 (xs (x3 + 1).toNatClampNeg) (xs (x3 + 2).toNatClampNeg) (xs (x3 + 3).toNatClampNeg) (xs (x3 + 4).toNatClampNeg)).bind fun r148 => if r143.1 = r148.1 then (some (.inl (x3 + 6, r148.2))) else (some (.inr (.inr 0)))))))))))) else (if ((xs x3.toNatClampNeg) &&& 31) = 15 then (chk (inB (x3 + 1) N) (chk (inB (x3 + 2) N) (chk (inB (x3 + 3) N) (chk (inB (x3 + 4) N) (chk (inB (x3 + 5) N) ((m_X7_some M (xs (x3 + 1).toNatClampNeg) (xs (x3 + 2).toNatClampNeg) (xs (x3 + 3).toNatClampNeg) (xs (x3 + 4).toNatClampNeg) (xs (x3 + 5).toNatClampNeg)).bind fun r132 => chk (inB (x3 + 1) N) (chk (inB (x3 + 2) N) (chk (inB (x3 + 3) N) (chk (inB (x3 + 4) N) (chk (inB (x3 + 5) N) ((m_X8_some r132.2 (xs (x3 + 1).toNatClampNeg) (xs (x3 + 2).toNatClampNeg) (xs (x3 + 3).toNatClampNeg) (xs (x3 + 4).toNatClampNeg) (xs (x3 + 5).toNatClampNeg)).bind fun r138 => if r132.1 = r138.1 then (some (.inl (x3 + 6, r138.2))) else (some (.inr (.inr 0)))))))))))))) else (if ((xs x3.toNatClampNeg) &&& 31) = 16 then (chk (inB (x3 + 1) N) (chk (inB (x3 + 2) N) (chk (inB (x3 + 3) N) ((m_X7_stand M (xs (x3 + 1).toNatClampNeg) (xs (x3 + 2).toNatClampNeg) (xs (x3 + 3).toNatClampNeg)).bind fun r122 => chk (inB (x3 + 1) N) (chk (inB (x3 + 2) N) (chk (inB (x3 + 3) N) ((m_X8_stand r122.2 (xs (x3 + 1).toNatClampNeg) (xs (x3 + 2).toNatClampNeg) (xs (x3 + 3).toNatClampNeg)).bind fun r126 => if r122.1 = r126.1 then (some (.inl (x3 + 6, r126.2))) else (some (.inr (.inr 0)))))))))) else (if ((xs x3.toNatClampNeg) &&& 31) = 17 then (chk (inB (x3 + 1) N) (chk (inB (x3 + 2) N) (chk (inB (x3 + 3) N) (chk (inB (x3 + 4) N) (chk (inB (x3 + 5) N) ((m_X7_brothers M (xs (x3 + 1).toNatClampNeg) (xs (x3 + 2).toNatClampNeg) (xs (x3 + 3).toNatClampNeg) (xs (x3 + 4).toNatClampNeg) (xs (x3 + 5).toNatClampNeg)).bind fun r112 => chk (inB (x3 + 1) N) (chk (inB (x3 + 2) N) (chk (inB (x3 + 3) N) (chk (inB (x3 + 4) N) (chk (inB (x3 + 5) N) ((m_X8_brothers r112.2 (xs (x3 + 1).toNatClampNeg) (xs (x3 + 2).toNatClampNeg) (xs (x3 + 3).toNatClampNeg) (xs (x3 + 4).toNatClampNeg) (xs (x3 + 5).toNatClampNeg)).bind fun r118 => if r112.1 = r118.1 then (some (.inl (x3 + 6, r118.2))) else (some (.inr (.inr 0)))))))))))))) else (if ((xs x3.toNatClampNeg) &&& 31) = 18 then (chk (inB (x3 + 1) N) (chk (inB (x3 + 2) N) (chk (inB (x3 + 3) N) ((m_X7_rounds M (xs (x3 + 1).toNatClampNeg) (xs (x3 + 2).toNatClampNeg) (xs (x3 + 3).toNatClampNeg)).bind fun r102 => chk (inB (x3 + 1) N) (chk (inB (x3 + 2) N) (chk (inB (x3 + 3) N) ((m_X8_rounds r102.2 (xs (x3 + 1).toNatClampNeg) (xs (x3 + 2).toNatClampNeg) (xs (x3 + 3).toNatClampNeg)).bind fun r106 => if r102.1 = r106.1 then (some (.inl (x3 + 6, r106.2))) else (some (.inr (.inr 0)))))))))) else (if ((xs x3.toNatClampNeg) &&& 31) = 19 then (chk (inB (x3 + 1) N) (chk (inB (x3 + 2) N) ((m_X7_aim M (xs (x3 + 1).toNatClampNeg) (xs (x3 + 2).toNatClampNeg)).bind fun r95 => chk (inB (x3 + 1) N) (chk (inB (x3 + 2) N) ((m_X8_aim r95.2 (xs (x3 + 1).toNatClampNeg) (xs (x3 + 2).toNatClampNeg)).bind fun r98 => if r95.1 = r98.1 then (some (.inl (x3 + 6, r98.2))) else (some (.inr (.inr 0)))))))) else (if ((xs x3.toNatClampNeg) &&& 31) = 20 then (chk (inB (x3 + 1) N) (chk (inB (x3 + 2) N) ((m_X7_throwsFor M (xs (x3 + 1).toNatClampNeg) (xs (x3 + 2).toNatClampNeg)).bind fun r89 => chk (inB (x3 + 1) N) (chk (inB (x3 + 2) N) ((m_X8_throwsFor r89.2 (xs (x3 + 1).toNatClampNeg) (xs (x3 + 2).toNatClampNeg)).bind fun r92 => if r89.1 = r92.1 then (some (.inl (x3 + 6, r92.2))) else (some (.inr (.inr 0)))))))) else (if ((xs x3.toNatClampNeg) &&& 31) = 21 then (chk (inB (x3 + 1) N) (chk (inB (x3 + 2) N) (chk (inB (x3 + 3) N) ((m_X7_cool M (xs (x3 + 1).toNatClampNeg) (xs (x3 + 2).toNatClampNeg) (xs (x3 + 3).toNatClampNeg)).bind fun r82 => chk (inB (x3 + 1) N) (chk (inB (x3 + 2) N) (chk (inB (x3 + 3) N) ((m_X8_cool r82.2 (xs (x3 + 1).toNatClampNeg) (xs (x3 + 2).toNatClampNeg) (xs (x3 + 3).toNatClampNeg)).bind fun r86 => if r82.1 = r86.1 then (some (.inl (x3 + 6, r86.2))) else (some (.inr (.inr 0)))))))))) else (if ((xs x3.toNatClampNeg) &&& 31) = 22 then (chk (inB (x3 + 1) N) (chk (inB (x3 + 2) N) (chk (inB (x3 + 3) N) (chk (inB (x3 + 4) N) (chk (inB (x3 + 5) N) ((m_X7_stood M (xs (x3 + 1).toNatClampNeg) (xs (x3 + 2).toNatClampNeg) (xs (x3 + 3).toNatClampNeg) (xs (x3 + 4).toNatClampNeg) (xs (x3 + 5).toNatClampNeg)).bind fun r72 => chk (inB (x3 + 1) N) (chk (inB (x3 + 2) N) (chk (inB (x3 + 3) N) (chk (inB (x3 + 4) N) (chk (inB (x3 + 5) N) ((m_X8_stood r72.2 (xs (x3 + 1).toNatClampNeg) (xs (x3 + 2).toNatClampNeg) (xs (x3 + 3).toNatClampNeg) (xs (x3 + 4).toNatClampNeg) (xs (x3 + 5).toNatClampNeg)).bind fun r78 => if r72.1 = r78.1 then (some (.inl (x3 + 6, r78.2))) else (some (.inr (.inr 0)))))))))))))) else (if ((xs x3.toNatClampNeg) &&& 31) = 23 then (chk (inB (x3 + 1) N) ((m_X7_image M (xs (x3 + 1).toNatClampNeg)).bind fun r64 => chk (inB (x3 + 1) N) ((m_X8_image r64.2 (xs (x3 + 1).toNatClampNeg)).bind fun r66 => if r64.1 = r66.1 then (some (.inl (x3 + 6, r66.2))) else (some (.inr (.inr 0)))))) else (if ((xs x3.toNatClampNeg) &&& 31) = 24 then (chk (inB (x3 + 1) N) ((m_X7_restore M (xs (x3 + 1).toNatClampNeg)).bind fun r60 => chk (inB (x3 + 1) N) ((m_X8_restore r60.2 (xs (x3 + 1).toNatClampNeg)).bind fun r62 => if r60.1 = r62.1 then (some (.inl (x3 + 6, r62.2))) else (some (.inr (.inr 0)))))) else (if ((xs x3.toNatClampNeg) &&& 31) = 25 then (chk (inB (x3 + 1) N) ((m_X7_kind M (xs (x3 + 1).toNatClampNeg)).bind fun r56 => chk (inB (x3 + 1) N) ((m_X8_kind M (xs (x3 + 1).toNatClampNeg)).bind fun r58 => if r56 = r58 then (some (.inl (x3 + 6, M))) else (some (.inr (.inr 0)))))) else (if ((xs x3.toNatClampNeg) &&& 31) = 26 then (chk (inB (x3 + 1) N) (chk (inB (x3 + 2) N) ((m_X7_as M (xs (x3 + 1).toNatClampNeg) (xs (x3 + 2).toNatClampNeg)).bind fun r51 => chk (inB (x3 + 1) N) (chk (inB (x3 + 2) N) ((m_X8_as r51.2 (xs (x3 + 1).toNatClampNeg) (xs (x3 + 2).toNatClampNeg)).bind fun r54 => if r51.1 = r54.1 then (some (.inl (x3 + 6, r54.2))) else (some (.inr (.inr 0)))))))) else (if ((xs x3.toNatClampNeg) &&& 31) = 27 then (chk (inB (x3 + 1) N) (chk (inB (x3 + 2) N) ((m_X7_ask M (xs (x3 + 1).toNatClampNeg) (xs (x3 + 2).toNatClampNeg)).bind fun r45 => chk (inB (x3 + 1) N) (chk (inB (x3 + 2) N) ((m_X8_ask r45.2 (xs (x3 + 1).toNatClampNeg) (xs (x3 + 2).toNatClampNeg)).bind fun r48 => if r45.1 = r48.1 then (some (.inl (x3 + 6, r48.2))) else (some (.inr (.inr 0)))))))) else (if ((xs x3.toNatClampNeg) &&& 31) = 28 then (chk (inB (x3 + 1) N) ((m_X7_trace M (xs (x3 + 1).toNatClampNeg)).bind fun r40 => chk (inB (x3 + 1) N) ((m_X8_trace M (xs (x3 + 1).toNatClampNeg)).bind fun r42 => if r40 = r42 then (some (.inl (x3 + 6, M))) else (some (.inr (.inr 0)))))) else (if ((xs x3.toNatClampNeg) &&& 31) = 29 then (chk (inB (x3 + 1) N) ((m_X7_count M (xs (x3 + 1).toNatClampNeg)).bind fun r36 => chk (inB (x3 + 1) N) ((m_X8_count M (xs (x3 + 1).toNatClampNeg)).bind fun r38 => if r36 = r38 then (some (.inl (x3 + 6, M))) else (some (.inr (.inr 0)))))) else (if ((xs x3.toNatClampNeg) &&& 31) = 30 then ((m_X7_status M).bind fun r33 => (m_X8_status M).bind fun r34 => if r33 = r34 then (some (.inl (x3 + 6, M))) else (some (.inr (.inr 0)))) else (some (.inl (x3 + 6, M)))))))))))))))))))))))))))))))))))
def m_law (M : Mem) (xs : Nat → Int32) (N : Nat) : Option Int32 :=
  (loopF (fun z => b_L_law_18 z.2 xs N z.1) FUEL (0, M)).bind fun z235 => sumC z235 (fun z236 => some 1) (fun z => some z)
set_option maxHeartbeats 8000000 in
set_option maxRecDepth 100000 in
theorem c_law {p : Program} {l : Launch} {e : Env} {s : State} {m : MethodId} {below : List Frame} {meth : Method} {c : Code} {D : va_G} {cA : cAt} {B b N : Nat} {aK aV : Nat → Nat} {xs : Nat → Int32} (C : Cx p room_1 s m #[Value.ref b] c 600000 7302250 D cA B aK aV cL_law 4 RL) (hrt : meth.sig.returnType = ret ∧ B = s.heap.size) (hlk : meth.locks = false) (hX : va_X b N xs s s.heap) (hbl : b < s.heap.size ∧ b < B) (M : Mem) (R : Int32) (hR1 : R = 1) (h : m_law M xs N = some R) : V p l e room_1 s m #[Value.ref b] below meth c 600000 7302250 D cA B 4 (lw_Z below #[Value.ref b] s) M 18 [(0, .ref b), (1, .ref (B + 0)), (2, .ref (B + 234)), (3, .int 0)] [] := by
  unfold m_law at h
  have LB18 : ∀ (M : Mem) (x3 : Int32) (o18 : (Int32 × Mem) ⊕ (Mem ⊕ Int32)) (h : b_L_law_18 M xs N x3 = some o18) (hc18 : ∀ z : Int32 × Mem, o18 = .inl z → V p l e room_1 s m #[Value.ref b] below meth c 600000 7302250 D cA B 4 (lw_Z below #[Value.ref b] s) z.2 18 [(0, .ref b), (1, .ref (B + 0)), (2, .ref (B + 234)), (3, .int z.1)] []) (he18 : ∀ z : Mem, o18 = .inr (.inl z) → V p l e room_1 s m #[Value.ref b] below meth c 600000 7302250 D cA B 4 (lw_Z below #[Value.ref b] s) z 1301 [] []) (hr18 : ∀ z : Int32, o18 = .inr (.inr z) → z = R), V p l e room_1 s m #[Value.ref b] below meth c 600000 7302250 D cA B 4 (lw_Z below #[Value.ref b] s) M 18 [(0, .ref b), (1, .ref (B + 0)), (2, .ref (B + 234)), (3, .int x3)] [] := by
    intro M x3 o18 h hc18 he18 hr18
    unfold b_L_law_18 at h
    refine v_iload_n (j := 3) C dL_law_18 rfl rfl ?_
    refine v_aload_nR (j := 0) C dL_law_19 rfl rfl ?_
    refine v_slen C hX hbl dL_law_20 ?_
    refine v_bipush C dL_law_21 ct_b_6 ?_
    refine v_isub C dL_law_23 ?_
    refine v_icmp_gt (tgt := 1301) C dL_law_24 (by decide) (fun g => ?_) (fun g => ?_)
    · replace h := ite_t g h
      replace h := Option.some.inj h; subst h
      refine v_sub [] rfl ?_
      exact he18 M rfl
    · replace h := ite_f g h
      refine v_pc (pc' := 27) rfl ?_
      refine v_aload_nR (j := 0) C dL_law_27 rfl rfl ?_
      refine v_iload_n (j := 3) C dL_law_28 rfl rfl ?_
      replace h := chk_some h; obtain ⟨g1, h⟩ := h
      refine v_sld C hX hbl (inB_vp g1) dL_law_29 ?_
      refine v_bipush C dL_law_30 ct_b_31 ?_
      refine v_iand C dL_law_32 ?_
      by_cases g2 : ((xs x3.toNatClampNeg) &&& 31) = 0
      · replace h := ite_t g2 h
        refine v_tableIn (off := 139) (tgt := 172) C dL_law_33 (by rw [g2]; decide) (by rw [g2]; decide) (by rw [g2] <;> rfl) (by decide) ?_
        refine v_aload_nR (j := 1) C dL_law_172 rfl rfl ?_
        refine v_aload_nR (j := 0) C dL_law_173 rfl rfl ?_
        refine v_iload_n (j := 3) C dL_law_174 rfl rfl ?_
        refine v_iconst C dL_law_175 ct_i_1 ?_
        refine v_iadd C dL_law_176 ?_
        replace h := chk_some h; obtain ⟨g227, h⟩ := h
        refine v_sld C hX hbl (inB_vp g227) dL_law_177 ?_
        refine v_pc (pc' := 178) rfl ?_
        refine v_aload_nR (j := 0) C dL_law_178 rfl rfl ?_
        refine v_iload_n (j := 3) C dL_law_179 rfl rfl ?_
        refine v_iconst C dL_law_180 ct_i_2 ?_
        refine v_iadd C dL_law_181 ?_
        replace h := chk_some h; obtain ⟨g228, h⟩ := h
        refine v_sld C hX hbl (inB_vp g228) dL_law_182 ?_
        refine v_aload_nR (j := 0) C dL_law_183 rfl rfl ?_
        refine v_iload_n (j := 3) C dL_law_184 rfl rfl ?_
        refine v_pc (pc' := 185) rfl ?_
        refine v_iconst C dL_law_185 ct_i_3 ?_
        refine v_iadd C dL_law_186 ?_
        replace h := chk_some h; obtain ⟨g229, h⟩ := h
        refine v_sld C hX hbl (inB_vp g229) dL_law_187 ?_
        replace h := bind_ex h; obtain ⟨r230, hr230, h⟩ := h
        refine cv_I C tw_338 tw_103 tw_335 tw_336 tw_337 pd_X7_row (Nat.le_of_ble_eq_true rfl) (Nat.le_of_ble_eq_true rfl) (q := 0) (kd_lt ks_0 (by decide)) (sh7 ks_0) rfl (As := [.int (xs (x3 + 1).toNatClampNeg), .int (xs (x3 + 2).toNatClampNeg), .int (xs (x3 + 3).toNatClampNeg)]) (rest := []) rfl rfl (Nat.le_of_ble_eq_true rfl) (c_X7_row l D cA B aK aV M (xs (x3 + 1).toNatClampNeg) (xs (x3 + 2).toNatClampNeg) (xs (x3 + 3).toNatClampNeg) r230 hr230) dL_law_188 ?_
        refine v_aload_nR (j := 2) C dL_law_191 rfl rfl ?_
        refine v_aload_nR (j := 0) C dL_law_192 rfl rfl ?_
        refine v_iload_n (j := 3) C dL_law_193 rfl rfl ?_
        refine v_pc (pc' := 194) rfl ?_
        refine v_iconst C dL_law_194 ct_i_1 ?_
        refine v_iadd C dL_law_195 ?_
        replace h := chk_some h; obtain ⟨g231, h⟩ := h
        refine v_sld C hX hbl (inB_vp g231) dL_law_196 ?_
        refine v_aload_nR (j := 0) C dL_law_197 rfl rfl ?_
        refine v_iload_n (j := 3) C dL_law_198 rfl rfl ?_
        refine v_iconst C dL_law_199 ct_i_2 ?_
        refine v_iadd C dL_law_200 ?_
        refine v_pc (pc' := 201) rfl ?_
        replace h := chk_some h; obtain ⟨g232, h⟩ := h
        refine v_sld C hX hbl (inB_vp g232) dL_law_201 ?_
        refine v_aload_nR (j := 0) C dL_law_202 rfl rfl ?_
        refine v_iload_n (j := 3) C dL_law_203 rfl rfl ?_
        refine v_iconst C dL_law_204 ct_i_3 ?_
        refine v_iadd C dL_law_205 ?_
        replace h := chk_some h; obtain ⟨g233, h⟩ := h
        refine v_sld C hX hbl (inB_vp g233) dL_law_206 ?_
        replace h := bind_ex h; obtain ⟨r234, hr234, h⟩ := h
        refine cv_I C tw_975 tw_111 tw_972 tw_973 tw_974 pd_X8_row (Nat.le_of_ble_eq_true rfl) (Nat.le_of_ble_eq_true rfl) (q := 234) (kd_lt ks_234 (by decide)) (sh8 ks_234) rfl (As := [.int (xs (x3 + 1).toNatClampNeg), .int (xs (x3 + 2).toNatClampNeg), .int (xs (x3 + 3).toNatClampNeg)]) (rest := [.int r230.1]) rfl rfl (Nat.le_of_ble_eq_true rfl) (c_X8_row l D cA B aK aV r230.2 (xs (x3 + 1).toNatClampNeg) (xs (x3 + 2).toNatClampNeg) (xs (x3 + 3).toNatClampNeg) r234 hr234) dL_law_207 ?_
        refine v_pc (pc' := 210) rfl ?_
        refine v_icmp_eq (tgt := 1295) C dL_law_210 (by decide) (fun g => ?_) (fun g => ?_)
        · replace h := ite_t g h
          refine v_iinc (j := 3) (L' := [(3, .int (x3 + 6)), (0, .ref b), (1, .ref (B + 0)), (2, .ref (B + 234))]) C dL_law_1295 rfl (congrArg (fun z => _ + z) ct_i_6) (by decide) rfl ?_
          refine v_goto (tgt := 18) C dL_law_1298 (by decide) ?_
          replace h := Option.some.inj h; subst h
          refine v_sub [1, 2, 3, 0] rfl ?_
          exact hc18 (x3 + 6, r234.2) rfl
        · replace h := ite_f g h
          refine v_iconst C dL_law_213 ct_i_0 ?_
          replace h := Option.some.inj h; subst h
          have hR := hr18 _ rfl
          exact absurd (hR.trans hR1) (by decide)
      · replace h := ite_f g2 h
        by_cases g3 : ((xs x3.toNatClampNeg) &&& 31) = 1
        · replace h := ite_t g3 h
          refine v_tableIn (off := 182) (tgt := 215) C dL_law_33 (by rw [g3]; decide) (by rw [g3]; decide) (by rw [g3] <;> rfl) (by decide) ?_
          refine v_aload_nR (j := 1) C dL_law_215 rfl rfl ?_
          refine v_aload_nR (j := 0) C dL_law_216 rfl rfl ?_
          refine v_iload_n (j := 3) C dL_law_217 rfl rfl ?_
          refine v_iconst C dL_law_218 ct_i_1 ?_
          refine v_iadd C dL_law_219 ?_
          replace h := chk_some h; obtain ⟨g219, h⟩ := h
          refine v_sld C hX hbl (inB_vp g219) dL_law_220 ?_
          refine v_pc (pc' := 221) rfl ?_
          refine v_aload_nR (j := 0) C dL_law_221 rfl rfl ?_
          refine v_iload_n (j := 3) C dL_law_222 rfl rfl ?_
          refine v_iconst C dL_law_223 ct_i_2 ?_
          refine v_iadd C dL_law_224 ?_
          replace h := chk_some h; obtain ⟨g220, h⟩ := h
          refine v_sld C hX hbl (inB_vp g220) dL_law_225 ?_
          refine v_aload_nR (j := 0) C dL_law_226 rfl rfl ?_
          refine v_iload_n (j := 3) C dL_law_227 rfl rfl ?_
          refine v_pc (pc' := 228) rfl ?_
          refine v_iconst C dL_law_228 ct_i_3 ?_
          refine v_iadd C dL_law_229 ?_
          replace h := chk_some h; obtain ⟨g221, h⟩ := h
          refine v_sld C hX hbl (inB_vp g221) dL_law_230 ?_
          replace h := bind_ex h; obtain ⟨r222, hr222, h⟩ := h
          refine cv_I C tw_363 tw_103 tw_360 tw_361 tw_362 pd_X7_set (Nat.le_of_ble_eq_true rfl) (Nat.le_of_ble_eq_true rfl) (q := 0) (kd_lt ks_0 (by decide)) (sh7 ks_0) rfl (As := [.int (xs (x3 + 1).toNatClampNeg), .int (xs (x3 + 2).toNatClampNeg), .int (xs (x3 + 3).toNatClampNeg)]) (rest := []) rfl rfl (Nat.le_of_ble_eq_true rfl) (c_X7_set l D cA B aK aV M (xs (x3 + 1).toNatClampNeg) (xs (x3 + 2).toNatClampNeg) (xs (x3 + 3).toNatClampNeg) r222 hr222) dL_law_231 ?_
          refine v_aload_nR (j := 2) C dL_law_234 rfl rfl ?_
          refine v_aload_nR (j := 0) C dL_law_235 rfl rfl ?_
          refine v_iload_n (j := 3) C dL_law_236 rfl rfl ?_
          refine v_pc (pc' := 237) rfl ?_
          refine v_iconst C dL_law_237 ct_i_1 ?_
          refine v_iadd C dL_law_238 ?_
          replace h := chk_some h; obtain ⟨g223, h⟩ := h
          refine v_sld C hX hbl (inB_vp g223) dL_law_239 ?_
          refine v_aload_nR (j := 0) C dL_law_240 rfl rfl ?_
          refine v_iload_n (j := 3) C dL_law_241 rfl rfl ?_
          refine v_iconst C dL_law_242 ct_i_2 ?_
          refine v_iadd C dL_law_243 ?_
          refine v_pc (pc' := 244) rfl ?_
          replace h := chk_some h; obtain ⟨g224, h⟩ := h
          refine v_sld C hX hbl (inB_vp g224) dL_law_244 ?_
          refine v_aload_nR (j := 0) C dL_law_245 rfl rfl ?_
          refine v_iload_n (j := 3) C dL_law_246 rfl rfl ?_
          refine v_iconst C dL_law_247 ct_i_3 ?_
          refine v_iadd C dL_law_248 ?_
          replace h := chk_some h; obtain ⟨g225, h⟩ := h
          refine v_sld C hX hbl (inB_vp g225) dL_law_249 ?_
          replace h := bind_ex h; obtain ⟨r226, hr226, h⟩ := h
          refine cv_I C tw_994 tw_111 tw_991 tw_992 tw_993 pd_X8_set (Nat.le_of_ble_eq_true rfl) (Nat.le_of_ble_eq_true rfl) (q := 234) (kd_lt ks_234 (by decide)) (sh8 ks_234) rfl (As := [.int (xs (x3 + 1).toNatClampNeg), .int (xs (x3 + 2).toNatClampNeg), .int (xs (x3 + 3).toNatClampNeg)]) (rest := [.int r222.1]) rfl rfl (Nat.le_of_ble_eq_true rfl) (c_X8_set l D cA B aK aV r222.2 (xs (x3 + 1).toNatClampNeg) (xs (x3 + 2).toNatClampNeg) (xs (x3 + 3).toNatClampNeg) r226 hr226) dL_law_250 ?_
          refine v_pc (pc' := 253) rfl ?_
          refine v_icmp_eq (tgt := 1295) C dL_law_253 (by decide) (fun g => ?_) (fun g => ?_)
          · replace h := ite_t g h
            refine v_iinc (j := 3) (L' := [(3, .int (x3 + 6)), (0, .ref b), (1, .ref (B + 0)), (2, .ref (B + 234))]) C dL_law_1295 rfl (congrArg (fun z => _ + z) ct_i_6) (by decide) rfl ?_
            refine v_goto (tgt := 18) C dL_law_1298 (by decide) ?_
            replace h := Option.some.inj h; subst h
            refine v_sub [1, 2, 3, 0] rfl ?_
            exact hc18 (x3 + 6, r226.2) rfl
          · replace h := ite_f g h
            refine v_iconst C dL_law_256 ct_i_0 ?_
            replace h := Option.some.inj h; subst h
            have hR := hr18 _ rfl
            exact absurd (hR.trans hR1) (by decide)
        · replace h := ite_f g3 h
          by_cases g4 : ((xs x3.toNatClampNeg) &&& 31) = 2
          · replace h := ite_t g4 h
            refine v_tableIn (off := 225) (tgt := 258) C dL_law_33 (by rw [g4]; decide) (by rw [g4]; decide) (by rw [g4] <;> rfl) (by decide) ?_
            refine v_aload_nR (j := 1) C dL_law_258 rfl rfl ?_
            refine v_aload_nR (j := 0) C dL_law_259 rfl rfl ?_
            refine v_iload_n (j := 3) C dL_law_260 rfl rfl ?_
            refine v_iconst C dL_law_261 ct_i_1 ?_
            refine v_iadd C dL_law_262 ?_
            replace h := chk_some h; obtain ⟨g207, h⟩ := h
            refine v_sld C hX hbl (inB_vp g207) dL_law_263 ?_
            refine v_pc (pc' := 264) rfl ?_
            refine v_aload_nR (j := 0) C dL_law_264 rfl rfl ?_
            refine v_iload_n (j := 3) C dL_law_265 rfl rfl ?_
            refine v_iconst C dL_law_266 ct_i_2 ?_
            refine v_iadd C dL_law_267 ?_
            replace h := chk_some h; obtain ⟨g208, h⟩ := h
            refine v_sld C hX hbl (inB_vp g208) dL_law_268 ?_
            refine v_aload_nR (j := 0) C dL_law_269 rfl rfl ?_
            refine v_iload_n (j := 3) C dL_law_270 rfl rfl ?_
            refine v_pc (pc' := 271) rfl ?_
            refine v_iconst C dL_law_271 ct_i_3 ?_
            refine v_iadd C dL_law_272 ?_
            replace h := chk_some h; obtain ⟨g209, h⟩ := h
            refine v_sld C hX hbl (inB_vp g209) dL_law_273 ?_
            refine v_aload_nR (j := 0) C dL_law_274 rfl rfl ?_
            refine v_iload_n (j := 3) C dL_law_275 rfl rfl ?_
            refine v_iconst C dL_law_276 ct_i_4 ?_
            refine v_iadd C dL_law_277 ?_
            refine v_pc (pc' := 278) rfl ?_
            replace h := chk_some h; obtain ⟨g210, h⟩ := h
            refine v_sld C hX hbl (inB_vp g210) dL_law_278 ?_
            refine v_aload_nR (j := 0) C dL_law_279 rfl rfl ?_
            refine v_iload_n (j := 3) C dL_law_280 rfl rfl ?_
            refine v_iconst C dL_law_281 ct_i_5 ?_
            refine v_iadd C dL_law_282 ?_
            replace h := chk_some h; obtain ⟨g211, h⟩ := h
            refine v_sld C hX hbl (inB_vp g211) dL_law_283 ?_
            replace h := bind_ex h; obtain ⟨r212, hr212, h⟩ := h
            refine cv_I C tw_379 tw_103 tw_376 tw_377 tw_378 pd_X7_copy (Nat.le_of_ble_eq_true rfl) (Nat.le_of_ble_eq_true rfl) (q := 0) (kd_lt ks_0 (by decide)) (sh7 ks_0) rfl (As := [.int (xs (x3 + 1).toNatClampNeg), .int (xs (x3 + 2).toNatClampNeg), .int (xs (x3 + 3).toNatClampNeg), .int (xs (x3 + 4).toNatClampNeg), .int (xs (x3 + 5).toNatClampNeg)]) (rest := []) rfl rfl (Nat.le_of_ble_eq_true rfl) (c_X7_copy l D cA B aK aV M (xs (x3 + 1).toNatClampNeg) (xs (x3 + 2).toNatClampNeg) (xs (x3 + 3).toNatClampNeg) (xs (x3 + 4).toNatClampNeg) (xs (x3 + 5).toNatClampNeg) r212 hr212) dL_law_284 ?_
            refine v_pc (pc' := 287) rfl ?_
            refine v_aload_nR (j := 2) C dL_law_287 rfl rfl ?_
            refine v_aload_nR (j := 0) C dL_law_288 rfl rfl ?_
            refine v_iload_n (j := 3) C dL_law_289 rfl rfl ?_
            refine v_iconst C dL_law_290 ct_i_1 ?_
            refine v_iadd C dL_law_291 ?_
            replace h := chk_some h; obtain ⟨g213, h⟩ := h
            refine v_sld C hX hbl (inB_vp g213) dL_law_292 ?_
            refine v_aload_nR (j := 0) C dL_law_293 rfl rfl ?_
            refine v_pc (pc' := 294) rfl ?_
            refine v_iload_n (j := 3) C dL_law_294 rfl rfl ?_
            refine v_iconst C dL_law_295 ct_i_2 ?_
            refine v_iadd C dL_law_296 ?_
            replace h := chk_some h; obtain ⟨g214, h⟩ := h
            refine v_sld C hX hbl (inB_vp g214) dL_law_297 ?_
            refine v_aload_nR (j := 0) C dL_law_298 rfl rfl ?_
            refine v_iload_n (j := 3) C dL_law_299 rfl rfl ?_
            refine v_iconst C dL_law_300 ct_i_3 ?_
            refine v_pc (pc' := 301) rfl ?_
            refine v_iadd C dL_law_301 ?_
            replace h := chk_some h; obtain ⟨g215, h⟩ := h
            refine v_sld C hX hbl (inB_vp g215) dL_law_302 ?_
            refine v_aload_nR (j := 0) C dL_law_303 rfl rfl ?_
            refine v_iload_n (j := 3) C dL_law_304 rfl rfl ?_
            refine v_iconst C dL_law_305 ct_i_4 ?_
            refine v_iadd C dL_law_306 ?_
            replace h := chk_some h; obtain ⟨g216, h⟩ := h
            refine v_sld C hX hbl (inB_vp g216) dL_law_307 ?_
            refine v_pc (pc' := 308) rfl ?_
            refine v_aload_nR (j := 0) C dL_law_308 rfl rfl ?_
            refine v_iload_n (j := 3) C dL_law_309 rfl rfl ?_
            refine v_iconst C dL_law_310 ct_i_5 ?_
            refine v_iadd C dL_law_311 ?_
            replace h := chk_some h; obtain ⟨g217, h⟩ := h
            refine v_sld C hX hbl (inB_vp g217) dL_law_312 ?_
            replace h := bind_ex h; obtain ⟨r218, hr218, h⟩ := h
            refine cv_I C tw_998 tw_111 tw_995 tw_996 tw_997 pd_X8_copy (Nat.le_of_ble_eq_true rfl) (Nat.le_of_ble_eq_true rfl) (q := 234) (kd_lt ks_234 (by decide)) (sh8 ks_234) rfl (As := [.int (xs (x3 + 1).toNatClampNeg), .int (xs (x3 + 2).toNatClampNeg), .int (xs (x3 + 3).toNatClampNeg), .int (xs (x3 + 4).toNatClampNeg), .int (xs (x3 + 5).toNatClampNeg)]) (rest := [.int r212.1]) rfl rfl (Nat.le_of_ble_eq_true rfl) (c_X8_copy l D cA B aK aV r212.2 (xs (x3 + 1).toNatClampNeg) (xs (x3 + 2).toNatClampNeg) (xs (x3 + 3).toNatClampNeg) (xs (x3 + 4).toNatClampNeg) (xs (x3 + 5).toNatClampNeg) r218 hr218) dL_law_313 ?_
            refine v_icmp_eq (tgt := 1295) C dL_law_316 (by decide) (fun g => ?_) (fun g => ?_)
            · replace h := ite_t g h
              refine v_iinc (j := 3) (L' := [(3, .int (x3 + 6)), (0, .ref b), (1, .ref (B + 0)), (2, .ref (B + 234))]) C dL_law_1295 rfl (congrArg (fun z => _ + z) ct_i_6) (by decide) rfl ?_
              refine v_goto (tgt := 18) C dL_law_1298 (by decide) ?_
              replace h := Option.some.inj h; subst h
              refine v_sub [1, 2, 3, 0] rfl ?_
              exact hc18 (x3 + 6, r218.2) rfl
            · replace h := ite_f g h
              refine v_pc (pc' := 319) rfl ?_
              refine v_iconst C dL_law_319 ct_i_0 ?_
              replace h := Option.some.inj h; subst h
              have hR := hr18 _ rfl
              exact absurd (hR.trans hR1) (by decide)
          · replace h := ite_f g4 h
            by_cases g5 : ((xs x3.toNatClampNeg) &&& 31) = 3
            · replace h := ite_t g5 h
              refine v_tableIn (off := 288) (tgt := 321) C dL_law_33 (by rw [g5]; decide) (by rw [g5]; decide) (by rw [g5] <;> rfl) (by decide) ?_
              refine v_aload_nR (j := 1) C dL_law_321 rfl rfl ?_
              refine v_aload_nR (j := 0) C dL_law_322 rfl rfl ?_
              refine v_iload_n (j := 3) C dL_law_323 rfl rfl ?_
              refine v_iconst C dL_law_324 ct_i_1 ?_
              refine v_iadd C dL_law_325 ?_
              replace h := chk_some h; obtain ⟨g203, h⟩ := h
              refine v_sld C hX hbl (inB_vp g203) dL_law_326 ?_
              refine v_pc (pc' := 327) rfl ?_
              replace h := bind_ex h; obtain ⟨r204, hr204, h⟩ := h
              refine cv_I C tw_386 tw_103 tw_383 tw_384 tw_385 pd_X7_drop (Nat.le_of_ble_eq_true rfl) (Nat.le_of_ble_eq_true rfl) (q := 0) (kd_lt ks_0 (by decide)) (sh7 ks_0) rfl (As := [.int (xs (x3 + 1).toNatClampNeg)]) (rest := []) rfl rfl (Nat.le_of_ble_eq_true rfl) (c_X7_drop l D cA B aK aV M (xs (x3 + 1).toNatClampNeg) r204 hr204) dL_law_327 ?_
              refine v_aload_nR (j := 2) C dL_law_330 rfl rfl ?_
              refine v_aload_nR (j := 0) C dL_law_331 rfl rfl ?_
              refine v_iload_n (j := 3) C dL_law_332 rfl rfl ?_
              refine v_iconst C dL_law_333 ct_i_1 ?_
              refine v_iadd C dL_law_334 ?_
              replace h := chk_some h; obtain ⟨g205, h⟩ := h
              refine v_sld C hX hbl (inB_vp g205) dL_law_335 ?_
              refine v_pc (pc' := 336) rfl ?_
              replace h := bind_ex h; obtain ⟨r206, hr206, h⟩ := h
              refine cv_I C tw_1002 tw_111 tw_999 tw_1000 tw_1001 pd_X8_drop (Nat.le_of_ble_eq_true rfl) (Nat.le_of_ble_eq_true rfl) (q := 234) (kd_lt ks_234 (by decide)) (sh8 ks_234) rfl (As := [.int (xs (x3 + 1).toNatClampNeg)]) (rest := [.int r204.1]) rfl rfl (Nat.le_of_ble_eq_true rfl) (c_X8_drop l D cA B aK aV r204.2 (xs (x3 + 1).toNatClampNeg) r206 hr206) dL_law_336 ?_
              refine v_icmp_eq (tgt := 1295) C dL_law_339 (by decide) (fun g => ?_) (fun g => ?_)
              · replace h := ite_t g h
                refine v_iinc (j := 3) (L' := [(3, .int (x3 + 6)), (0, .ref b), (1, .ref (B + 0)), (2, .ref (B + 234))]) C dL_law_1295 rfl (congrArg (fun z => _ + z) ct_i_6) (by decide) rfl ?_
                refine v_goto (tgt := 18) C dL_law_1298 (by decide) ?_
                replace h := Option.some.inj h; subst h
                refine v_sub [1, 2, 3, 0] rfl ?_
                exact hc18 (x3 + 6, r206.2) rfl
              · replace h := ite_f g h
                refine v_iconst C dL_law_342 ct_i_0 ?_
                replace h := Option.some.inj h; subst h
                have hR := hr18 _ rfl
                exact absurd (hR.trans hR1) (by decide)
            · replace h := ite_f g5 h
              by_cases g6 : ((xs x3.toNatClampNeg) &&& 31) = 4
              · replace h := ite_t g6 h
                refine v_tableIn (off := 311) (tgt := 344) C dL_law_33 (by rw [g6]; decide) (by rw [g6]; decide) (by rw [g6] <;> rfl) (by decide) ?_
                refine v_aload_nR (j := 1) C dL_law_344 rfl rfl ?_
                refine v_aload_nR (j := 0) C dL_law_345 rfl rfl ?_
                refine v_iload_n (j := 3) C dL_law_346 rfl rfl ?_
                refine v_iconst C dL_law_347 ct_i_1 ?_
                refine v_iadd C dL_law_348 ?_
                replace h := chk_some h; obtain ⟨g195, h⟩ := h
                refine v_sld C hX hbl (inB_vp g195) dL_law_349 ?_
                refine v_pc (pc' := 350) rfl ?_
                refine v_i2l C dL_law_350 ?_
                refine v_bipush C dL_law_351 ct_b_32 ?_
                refine v_lshl C dL_law_353 ?_
                refine v_aload_nR (j := 0) C dL_law_354 rfl rfl ?_
                refine v_iload_n (j := 3) C dL_law_355 rfl rfl ?_
                refine v_iconst C dL_law_356 ct_i_2 ?_
                refine v_iadd C dL_law_357 ?_
                refine v_pc (pc' := 358) rfl ?_
                replace h := chk_some h; obtain ⟨g196, h⟩ := h
                refine v_sld C hX hbl (inB_vp g196) dL_law_358 ?_
                refine v_i2l C dL_law_359 ?_
                refine v_ldc2 C tw_1272 dL_law_360 ?_
                refine v_land C dL_law_363 ?_
                refine v_lor C dL_law_364 ?_
                refine v_aload_nR (j := 0) C dL_law_365 rfl rfl ?_
                refine v_iload_n (j := 3) C dL_law_366 rfl rfl ?_
                refine v_pc (pc' := 367) rfl ?_
                refine v_iconst C dL_law_367 ct_i_3 ?_
                refine v_iadd C dL_law_368 ?_
                replace h := chk_some h; obtain ⟨g197, h⟩ := h
                refine v_sld C hX hbl (inB_vp g197) dL_law_369 ?_
                replace h := bind_ex h; obtain ⟨r198, hr198, h⟩ := h
                refine cv_I C tw_390 tw_103 tw_387 tw_388 tw_389 pd_X7_feed (Nat.le_of_ble_eq_true rfl) (Nat.le_of_ble_eq_true rfl) (q := 0) (kd_lt ks_0 (by decide)) (sh7 ks_0) rfl (As := [.long ((((xs (x3 + 1).toNatClampNeg).toInt64) <<< ((32 : Int32).toInt64 &&& 63)) ||| (((xs (x3 + 2).toNatClampNeg).toInt64) &&& 4294967295)), .int (xs (x3 + 3).toNatClampNeg)]) (rest := []) rfl rfl (Nat.le_of_ble_eq_true rfl) (c_X7_feed l D cA B aK aV M ((((xs (x3 + 1).toNatClampNeg).toInt64) <<< ((32 : Int32).toInt64 &&& 63)) ||| (((xs (x3 + 2).toNatClampNeg).toInt64) &&& 4294967295)) (xs (x3 + 3).toNatClampNeg) r198 hr198) dL_law_370 ?_
                refine v_aload_nR (j := 2) C dL_law_373 rfl rfl ?_
                refine v_aload_nR (j := 0) C dL_law_374 rfl rfl ?_
                refine v_iload_n (j := 3) C dL_law_375 rfl rfl ?_
                refine v_pc (pc' := 376) rfl ?_
                refine v_iconst C dL_law_376 ct_i_1 ?_
                refine v_iadd C dL_law_377 ?_
                replace h := chk_some h; obtain ⟨g199, h⟩ := h
                refine v_sld C hX hbl (inB_vp g199) dL_law_378 ?_
                refine v_i2l C dL_law_379 ?_
                refine v_bipush C dL_law_380 ct_b_32 ?_
                refine v_lshl C dL_law_382 ?_
                refine v_aload_nR (j := 0) C dL_law_383 rfl rfl ?_
                refine v_pc (pc' := 384) rfl ?_
                refine v_iload_n (j := 3) C dL_law_384 rfl rfl ?_
                refine v_iconst C dL_law_385 ct_i_2 ?_
                refine v_iadd C dL_law_386 ?_
                replace h := chk_some h; obtain ⟨g200, h⟩ := h
                refine v_sld C hX hbl (inB_vp g200) dL_law_387 ?_
                refine v_i2l C dL_law_388 ?_
                refine v_ldc2 C tw_1272 dL_law_389 ?_
                refine v_land C dL_law_392 ?_
                refine v_pc (pc' := 393) rfl ?_
                refine v_lor C dL_law_393 ?_
                refine v_aload_nR (j := 0) C dL_law_394 rfl rfl ?_
                refine v_iload_n (j := 3) C dL_law_395 rfl rfl ?_
                refine v_iconst C dL_law_396 ct_i_3 ?_
                refine v_iadd C dL_law_397 ?_
                replace h := chk_some h; obtain ⟨g201, h⟩ := h
                refine v_sld C hX hbl (inB_vp g201) dL_law_398 ?_
                replace h := bind_ex h; obtain ⟨r202, hr202, h⟩ := h
                refine cv_I C tw_1006 tw_111 tw_1003 tw_1004 tw_1005 pd_X8_feed (Nat.le_of_ble_eq_true rfl) (Nat.le_of_ble_eq_true rfl) (q := 234) (kd_lt ks_234 (by decide)) (sh8 ks_234) rfl (As := [.long ((((xs (x3 + 1).toNatClampNeg).toInt64) <<< ((32 : Int32).toInt64 &&& 63)) ||| (((xs (x3 + 2).toNatClampNeg).toInt64) &&& 4294967295)), .int (xs (x3 + 3).toNatClampNeg)]) (rest := [.int r198.1]) rfl rfl (Nat.le_of_ble_eq_true rfl) (c_X8_feed l D cA B aK aV r198.2 ((((xs (x3 + 1).toNatClampNeg).toInt64) <<< ((32 : Int32).toInt64 &&& 63)) ||| (((xs (x3 + 2).toNatClampNeg).toInt64) &&& 4294967295)) (xs (x3 + 3).toNatClampNeg) r202 hr202) dL_law_399 ?_
                refine v_pc (pc' := 402) rfl ?_
                refine v_icmp_eq (tgt := 1295) C dL_law_402 (by decide) (fun g => ?_) (fun g => ?_)
                · replace h := ite_t g h
                  refine v_iinc (j := 3) (L' := [(3, .int (x3 + 6)), (0, .ref b), (1, .ref (B + 0)), (2, .ref (B + 234))]) C dL_law_1295 rfl (congrArg (fun z => _ + z) ct_i_6) (by decide) rfl ?_
                  refine v_goto (tgt := 18) C dL_law_1298 (by decide) ?_
                  replace h := Option.some.inj h; subst h
                  refine v_sub [1, 2, 3, 0] rfl ?_
                  exact hc18 (x3 + 6, r202.2) rfl
                · replace h := ite_f g h
                  refine v_iconst C dL_law_405 ct_i_0 ?_
                  replace h := Option.some.inj h; subst h
                  have hR := hr18 _ rfl
                  exact absurd (hR.trans hR1) (by decide)
              · replace h := ite_f g6 h
                by_cases g7 : ((xs x3.toNatClampNeg) &&& 31) = 5
                · replace h := ite_t g7 h
                  refine v_tableIn (off := 374) (tgt := 407) C dL_law_33 (by rw [g7]; decide) (by rw [g7]; decide) (by rw [g7] <;> rfl) (by decide) ?_
                  refine v_aload_nR (j := 1) C dL_law_407 rfl rfl ?_
                  replace h := bind_ex h; obtain ⟨r193, hr193, h⟩ := h
                  refine cv_I C tw_403 tw_103 tw_400 tw_401 tw_402 pd_X7_square (Nat.le_of_ble_eq_true rfl) (Nat.le_of_ble_eq_true rfl) (q := 0) (kd_lt ks_0 (by decide)) (sh7 ks_0) rfl (As := []) (rest := []) rfl rfl (Nat.le_of_ble_eq_true rfl) (c_X7_square l D cA B aK aV M r193 hr193) dL_law_408 ?_
                  refine v_aload_nR (j := 2) C dL_law_411 rfl rfl ?_
                  replace h := bind_ex h; obtain ⟨r194, hr194, h⟩ := h
                  refine cv_I C tw_1013 tw_111 tw_1010 tw_1011 tw_1012 pd_X8_square (Nat.le_of_ble_eq_true rfl) (Nat.le_of_ble_eq_true rfl) (q := 234) (kd_lt ks_234 (by decide)) (sh8 ks_234) rfl (As := []) (rest := [.int r193.1]) rfl rfl (Nat.le_of_ble_eq_true rfl) (c_X8_square l D cA B aK aV r193.2 r194 hr194) dL_law_412 ?_
                  refine v_icmp_eq (tgt := 1295) C dL_law_415 (by decide) (fun g => ?_) (fun g => ?_)
                  · replace h := ite_t g h
                    refine v_iinc (j := 3) (L' := [(3, .int (x3 + 6)), (0, .ref b), (1, .ref (B + 0)), (2, .ref (B + 234))]) C dL_law_1295 rfl (congrArg (fun z => _ + z) ct_i_6) (by decide) rfl ?_
                    refine v_goto (tgt := 18) C dL_law_1298 (by decide) ?_
                    replace h := Option.some.inj h; subst h
                    refine v_sub [1, 2, 3, 0] rfl ?_
                    exact hc18 (x3 + 6, r194.2) rfl
                  · replace h := ite_f g h
                    refine v_iconst C dL_law_418 ct_i_0 ?_
                    refine v_pc (pc' := 419) rfl ?_
                    replace h := Option.some.inj h; subst h
                    have hR := hr18 _ rfl
                    exact absurd (hR.trans hR1) (by decide)
                · replace h := ite_f g7 h
                  by_cases g8 : ((xs x3.toNatClampNeg) &&& 31) = 6
                  · replace h := ite_t g8 h
                    refine v_tableIn (off := 387) (tgt := 420) C dL_law_33 (by rw [g8]; decide) (by rw [g8]; decide) (by rw [g8] <;> rfl) (by decide) ?_
                    refine v_aload_nR (j := 1) C dL_law_420 rfl rfl ?_
                    replace h := bind_ex h; obtain ⟨r191, hr191, h⟩ := h
                    refine cv_I C tw_548 tw_103 tw_545 tw_546 tw_547 pd_X7_fault (Nat.le_of_ble_eq_true rfl) (Nat.le_of_ble_eq_true rfl) (q := 0) (kd_lt ks_0 (by decide)) (sh7 ks_0) rfl (As := []) (rest := []) rfl rfl (Nat.le_of_ble_eq_true rfl) (c_X7_fault l D cA B aK aV M r191 hr191) dL_law_421 ?_
                    refine v_aload_nR (j := 2) C dL_law_424 rfl rfl ?_
                    replace h := bind_ex h; obtain ⟨r192, hr192, h⟩ := h
                    refine cv_I C tw_1074 tw_111 tw_1071 tw_1072 tw_1073 pd_X8_fault (Nat.le_of_ble_eq_true rfl) (Nat.le_of_ble_eq_true rfl) (q := 234) (kd_lt ks_234 (by decide)) (sh8 ks_234) rfl (As := []) (rest := [.int r191]) rfl rfl (Nat.le_of_ble_eq_true rfl) (c_X8_fault l D cA B aK aV M r192 hr192) dL_law_425 ?_
                    refine v_icmp_eq (tgt := 1295) C dL_law_428 (by decide) (fun g => ?_) (fun g => ?_)
                    · replace h := ite_t g h
                      refine v_iinc (j := 3) (L' := [(3, .int (x3 + 6)), (0, .ref b), (1, .ref (B + 0)), (2, .ref (B + 234))]) C dL_law_1295 rfl (congrArg (fun z => _ + z) ct_i_6) (by decide) rfl ?_
                      refine v_goto (tgt := 18) C dL_law_1298 (by decide) ?_
                      replace h := Option.some.inj h; subst h
                      refine v_sub [1, 2, 3, 0] rfl ?_
                      exact hc18 (x3 + 6, M) rfl
                    · replace h := ite_f g h
                      refine v_iconst C dL_law_431 ct_i_0 ?_
                      refine v_pc (pc' := 432) rfl ?_
                      replace h := Option.some.inj h; subst h
                      have hR := hr18 _ rfl
                      exact absurd (hR.trans hR1) (by decide)
                  · replace h := ite_f g8 h
                    by_cases g9 : ((xs x3.toNatClampNeg) &&& 31) = 7
                    · replace h := ite_t g9 h
                      refine v_tableIn (off := 400) (tgt := 433) C dL_law_33 (by rw [g9]; decide) (by rw [g9]; decide) (by rw [g9] <;> rfl) (by decide) ?_
                      refine v_aload_nR (j := 1) C dL_law_433 rfl rfl ?_
                      refine v_aload_nR (j := 0) C dL_law_434 rfl rfl ?_
                      refine v_iload_n (j := 3) C dL_law_435 rfl rfl ?_
                      refine v_iconst C dL_law_436 ct_i_1 ?_
                      refine v_iadd C dL_law_437 ?_
                      replace h := chk_some h; obtain ⟨g181, h⟩ := h
                      refine v_sld C hX hbl (inB_vp g181) dL_law_438 ?_
                      refine v_pc (pc' := 439) rfl ?_
                      refine v_aload_nR (j := 0) C dL_law_439 rfl rfl ?_
                      refine v_iload_n (j := 3) C dL_law_440 rfl rfl ?_
                      refine v_iconst C dL_law_441 ct_i_2 ?_
                      refine v_iadd C dL_law_442 ?_
                      replace h := chk_some h; obtain ⟨g182, h⟩ := h
                      refine v_sld C hX hbl (inB_vp g182) dL_law_443 ?_
                      refine v_aload_nR (j := 0) C dL_law_444 rfl rfl ?_
                      refine v_iload_n (j := 3) C dL_law_445 rfl rfl ?_
                      refine v_pc (pc' := 446) rfl ?_
                      refine v_iconst C dL_law_446 ct_i_3 ?_
                      refine v_iadd C dL_law_447 ?_
                      replace h := chk_some h; obtain ⟨g183, h⟩ := h
                      refine v_sld C hX hbl (inB_vp g183) dL_law_448 ?_
                      refine v_aload_nR (j := 0) C dL_law_449 rfl rfl ?_
                      refine v_iload_n (j := 3) C dL_law_450 rfl rfl ?_
                      refine v_iconst C dL_law_451 ct_i_4 ?_
                      refine v_iadd C dL_law_452 ?_
                      refine v_pc (pc' := 453) rfl ?_
                      replace h := chk_some h; obtain ⟨g184, h⟩ := h
                      refine v_sld C hX hbl (inB_vp g184) dL_law_453 ?_
                      replace h := bind_ex h; obtain ⟨r185, hr185, h⟩ := h
                      refine cv_I C tw_552 tw_103 tw_549 tw_550 tw_551 pd_X7_toss (Nat.le_of_ble_eq_true rfl) (Nat.le_of_ble_eq_true rfl) (q := 0) (kd_lt ks_0 (by decide)) (sh7 ks_0) rfl (As := [.int (xs (x3 + 1).toNatClampNeg), .int (xs (x3 + 2).toNatClampNeg), .int (xs (x3 + 3).toNatClampNeg), .int (xs (x3 + 4).toNatClampNeg)]) (rest := []) rfl rfl (Nat.le_of_ble_eq_true rfl) (c_X7_toss l D cA B aK aV M (xs (x3 + 1).toNatClampNeg) (xs (x3 + 2).toNatClampNeg) (xs (x3 + 3).toNatClampNeg) (xs (x3 + 4).toNatClampNeg) r185 hr185) dL_law_454 ?_
                      refine v_aload_nR (j := 2) C dL_law_457 rfl rfl ?_
                      refine v_aload_nR (j := 0) C dL_law_458 rfl rfl ?_
                      refine v_iload_n (j := 3) C dL_law_459 rfl rfl ?_
                      refine v_iconst C dL_law_460 ct_i_1 ?_
                      refine v_iadd C dL_law_461 ?_
                      refine v_pc (pc' := 462) rfl ?_
                      replace h := chk_some h; obtain ⟨g186, h⟩ := h
                      refine v_sld C hX hbl (inB_vp g186) dL_law_462 ?_
                      refine v_aload_nR (j := 0) C dL_law_463 rfl rfl ?_
                      refine v_iload_n (j := 3) C dL_law_464 rfl rfl ?_
                      refine v_iconst C dL_law_465 ct_i_2 ?_
                      refine v_iadd C dL_law_466 ?_
                      replace h := chk_some h; obtain ⟨g187, h⟩ := h
                      refine v_sld C hX hbl (inB_vp g187) dL_law_467 ?_
                      refine v_aload_nR (j := 0) C dL_law_468 rfl rfl ?_
                      refine v_pc (pc' := 469) rfl ?_
                      refine v_iload_n (j := 3) C dL_law_469 rfl rfl ?_
                      refine v_iconst C dL_law_470 ct_i_3 ?_
                      refine v_iadd C dL_law_471 ?_
                      replace h := chk_some h; obtain ⟨g188, h⟩ := h
                      refine v_sld C hX hbl (inB_vp g188) dL_law_472 ?_
                      refine v_aload_nR (j := 0) C dL_law_473 rfl rfl ?_
                      refine v_iload_n (j := 3) C dL_law_474 rfl rfl ?_
                      refine v_iconst C dL_law_475 ct_i_4 ?_
                      refine v_pc (pc' := 476) rfl ?_
                      refine v_iadd C dL_law_476 ?_
                      replace h := chk_some h; obtain ⟨g189, h⟩ := h
                      refine v_sld C hX hbl (inB_vp g189) dL_law_477 ?_
                      replace h := bind_ex h; obtain ⟨r190, hr190, h⟩ := h
                      refine cv_I C tw_1078 tw_111 tw_1075 tw_1076 tw_1077 pd_X8_toss (Nat.le_of_ble_eq_true rfl) (Nat.le_of_ble_eq_true rfl) (q := 234) (kd_lt ks_234 (by decide)) (sh8 ks_234) rfl (As := [.int (xs (x3 + 1).toNatClampNeg), .int (xs (x3 + 2).toNatClampNeg), .int (xs (x3 + 3).toNatClampNeg), .int (xs (x3 + 4).toNatClampNeg)]) (rest := [.int r185.1]) rfl rfl (Nat.le_of_ble_eq_true rfl) (c_X8_toss l D cA B aK aV r185.2 (xs (x3 + 1).toNatClampNeg) (xs (x3 + 2).toNatClampNeg) (xs (x3 + 3).toNatClampNeg) (xs (x3 + 4).toNatClampNeg) r190 hr190) dL_law_478 ?_
                      refine v_icmp_eq (tgt := 1295) C dL_law_481 (by decide) (fun g => ?_) (fun g => ?_)
                      · replace h := ite_t g h
                        refine v_iinc (j := 3) (L' := [(3, .int (x3 + 6)), (0, .ref b), (1, .ref (B + 0)), (2, .ref (B + 234))]) C dL_law_1295 rfl (congrArg (fun z => _ + z) ct_i_6) (by decide) rfl ?_
                        refine v_goto (tgt := 18) C dL_law_1298 (by decide) ?_
                        replace h := Option.some.inj h; subst h
                        refine v_sub [1, 2, 3, 0] rfl ?_
                        exact hc18 (x3 + 6, r190.2) rfl
                      · replace h := ite_f g h
                        refine v_iconst C dL_law_484 ct_i_0 ?_
                        replace h := Option.some.inj h; subst h
                        have hR := hr18 _ rfl
                        exact absurd (hR.trans hR1) (by decide)
                    · replace h := ite_f g9 h
                      by_cases g10 : ((xs x3.toNatClampNeg) &&& 31) = 8
                      · replace h := ite_t g10 h
                        refine v_tableIn (off := 453) (tgt := 486) C dL_law_33 (by rw [g10]; decide) (by rw [g10]; decide) (by rw [g10] <;> rfl) (by decide) ?_
                        refine v_aload_nR (j := 1) C dL_law_486 rfl rfl ?_
                        refine v_aload_nR (j := 0) C dL_law_487 rfl rfl ?_
                        refine v_iload_n (j := 3) C dL_law_488 rfl rfl ?_
                        refine v_iconst C dL_law_489 ct_i_1 ?_
                        refine v_iadd C dL_law_490 ?_
                        replace h := chk_some h; obtain ⟨g175, h⟩ := h
                        refine v_sld C hX hbl (inB_vp g175) dL_law_491 ?_
                        refine v_pc (pc' := 492) rfl ?_
                        refine v_aload_nR (j := 0) C dL_law_492 rfl rfl ?_
                        refine v_iload_n (j := 3) C dL_law_493 rfl rfl ?_
                        refine v_iconst C dL_law_494 ct_i_2 ?_
                        refine v_iadd C dL_law_495 ?_
                        replace h := chk_some h; obtain ⟨g176, h⟩ := h
                        refine v_sld C hX hbl (inB_vp g176) dL_law_496 ?_
                        replace h := bind_ex h; obtain ⟨r177, hr177, h⟩ := h
                        refine cv_I C tw_638 tw_103 tw_635 tw_636 tw_637 pd_X7_run (Nat.le_of_ble_eq_true rfl) (Nat.le_of_ble_eq_true rfl) (q := 0) (kd_lt ks_0 (by decide)) (sh7 ks_0) rfl (As := [.int (xs (x3 + 1).toNatClampNeg), .int (xs (x3 + 2).toNatClampNeg)]) (rest := []) rfl rfl (Nat.le_of_ble_eq_true rfl) (c_X7_run l D cA B aK aV M (xs (x3 + 1).toNatClampNeg) (xs (x3 + 2).toNatClampNeg) r177 hr177) dL_law_497 ?_
                        refine v_aload_nR (j := 2) C dL_law_500 rfl rfl ?_
                        refine v_pc (pc' := 501) rfl ?_
                        refine v_aload_nR (j := 0) C dL_law_501 rfl rfl ?_
                        refine v_iload_n (j := 3) C dL_law_502 rfl rfl ?_
                        refine v_iconst C dL_law_503 ct_i_1 ?_
                        refine v_iadd C dL_law_504 ?_
                        replace h := chk_some h; obtain ⟨g178, h⟩ := h
                        refine v_sld C hX hbl (inB_vp g178) dL_law_505 ?_
                        refine v_aload_nR (j := 0) C dL_law_506 rfl rfl ?_
                        refine v_iload_n (j := 3) C dL_law_507 rfl rfl ?_
                        refine v_pc (pc' := 508) rfl ?_
                        refine v_iconst C dL_law_508 ct_i_2 ?_
                        refine v_iadd C dL_law_509 ?_
                        replace h := chk_some h; obtain ⟨g179, h⟩ := h
                        refine v_sld C hX hbl (inB_vp g179) dL_law_510 ?_
                        replace h := bind_ex h; obtain ⟨r180, hr180, h⟩ := h
                        refine cv_I C tw_1124 tw_111 tw_1121 tw_1122 tw_1123 pd_X8_run (Nat.le_of_ble_eq_true rfl) (Nat.le_of_ble_eq_true rfl) (q := 234) (kd_lt ks_234 (by decide)) (sh8 ks_234) rfl (As := [.int (xs (x3 + 1).toNatClampNeg), .int (xs (x3 + 2).toNatClampNeg)]) (rest := [.int r177.1]) rfl rfl (Nat.le_of_ble_eq_true rfl) (c_X8_run l D cA B aK aV r177.2 (xs (x3 + 1).toNatClampNeg) (xs (x3 + 2).toNatClampNeg) r180 hr180) dL_law_511 ?_
                        refine v_icmp_eq (tgt := 1295) C dL_law_514 (by decide) (fun g => ?_) (fun g => ?_)
                        · replace h := ite_t g h
                          refine v_iinc (j := 3) (L' := [(3, .int (x3 + 6)), (0, .ref b), (1, .ref (B + 0)), (2, .ref (B + 234))]) C dL_law_1295 rfl (congrArg (fun z => _ + z) ct_i_6) (by decide) rfl ?_
                          refine v_goto (tgt := 18) C dL_law_1298 (by decide) ?_
                          replace h := Option.some.inj h; subst h
                          refine v_sub [1, 2, 3, 0] rfl ?_
                          exact hc18 (x3 + 6, r180.2) rfl
                        · replace h := ite_f g h
                          refine v_iconst C dL_law_517 ct_i_0 ?_
                          replace h := Option.some.inj h; subst h
                          have hR := hr18 _ rfl
                          exact absurd (hR.trans hR1) (by decide)
                      · replace h := ite_f g10 h
                        by_cases g11 : ((xs x3.toNatClampNeg) &&& 31) = 9
                        · replace h := ite_t g11 h
                          refine v_tableIn (off := 486) (tgt := 519) C dL_law_33 (by rw [g11]; decide) (by rw [g11]; decide) (by rw [g11] <;> rfl) (by decide) ?_
                          refine v_aload_nR (j := 1) C dL_law_519 rfl rfl ?_
                          refine v_aload_nR (j := 0) C dL_law_520 rfl rfl ?_
                          refine v_iload_n (j := 3) C dL_law_521 rfl rfl ?_
                          refine v_iconst C dL_law_522 ct_i_1 ?_
                          refine v_iadd C dL_law_523 ?_
                          replace h := chk_some h; obtain ⟨g169, h⟩ := h
                          refine v_sld C hX hbl (inB_vp g169) dL_law_524 ?_
                          refine v_pc (pc' := 525) rfl ?_
                          refine v_aload_nR (j := 0) C dL_law_525 rfl rfl ?_
                          refine v_iload_n (j := 3) C dL_law_526 rfl rfl ?_
                          refine v_iconst C dL_law_527 ct_i_2 ?_
                          refine v_iadd C dL_law_528 ?_
                          replace h := chk_some h; obtain ⟨g170, h⟩ := h
                          refine v_sld C hX hbl (inB_vp g170) dL_law_529 ?_
                          replace h := bind_ex h; obtain ⟨r171, hr171, h⟩ := h
                          refine cv_I C tw_643 tw_103 tw_640 tw_641 tw_642 pd_X7_corner (Nat.le_of_ble_eq_true rfl) (Nat.le_of_ble_eq_true rfl) (q := 0) (kd_lt ks_0 (by decide)) (sh7 ks_0) rfl (As := [.int (xs (x3 + 1).toNatClampNeg), .int (xs (x3 + 2).toNatClampNeg)]) (rest := []) rfl rfl (Nat.le_of_ble_eq_true rfl) (c_X7_corner l D cA B aK aV M (xs (x3 + 1).toNatClampNeg) (xs (x3 + 2).toNatClampNeg) r171 hr171) dL_law_530 ?_
                          refine v_aload_nR (j := 2) C dL_law_533 rfl rfl ?_
                          refine v_pc (pc' := 534) rfl ?_
                          refine v_aload_nR (j := 0) C dL_law_534 rfl rfl ?_
                          refine v_iload_n (j := 3) C dL_law_535 rfl rfl ?_
                          refine v_iconst C dL_law_536 ct_i_1 ?_
                          refine v_iadd C dL_law_537 ?_
                          replace h := chk_some h; obtain ⟨g172, h⟩ := h
                          refine v_sld C hX hbl (inB_vp g172) dL_law_538 ?_
                          refine v_aload_nR (j := 0) C dL_law_539 rfl rfl ?_
                          refine v_iload_n (j := 3) C dL_law_540 rfl rfl ?_
                          refine v_pc (pc' := 541) rfl ?_
                          refine v_iconst C dL_law_541 ct_i_2 ?_
                          refine v_iadd C dL_law_542 ?_
                          replace h := chk_some h; obtain ⟨g173, h⟩ := h
                          refine v_sld C hX hbl (inB_vp g173) dL_law_543 ?_
                          replace h := bind_ex h; obtain ⟨r174, hr174, h⟩ := h
                          refine cv_I C tw_1132 tw_111 tw_1129 tw_1130 tw_1131 pd_X8_corner (Nat.le_of_ble_eq_true rfl) (Nat.le_of_ble_eq_true rfl) (q := 234) (kd_lt ks_234 (by decide)) (sh8 ks_234) rfl (As := [.int (xs (x3 + 1).toNatClampNeg), .int (xs (x3 + 2).toNatClampNeg)]) (rest := [.int r171.1]) rfl rfl (Nat.le_of_ble_eq_true rfl) (c_X8_corner l D cA B aK aV r171.2 (xs (x3 + 1).toNatClampNeg) (xs (x3 + 2).toNatClampNeg) r174 hr174) dL_law_544 ?_
                          refine v_icmp_eq (tgt := 1295) C dL_law_547 (by decide) (fun g => ?_) (fun g => ?_)
                          · replace h := ite_t g h
                            refine v_iinc (j := 3) (L' := [(3, .int (x3 + 6)), (0, .ref b), (1, .ref (B + 0)), (2, .ref (B + 234))]) C dL_law_1295 rfl (congrArg (fun z => _ + z) ct_i_6) (by decide) rfl ?_
                            refine v_goto (tgt := 18) C dL_law_1298 (by decide) ?_
                            replace h := Option.some.inj h; subst h
                            refine v_sub [1, 2, 3, 0] rfl ?_
                            exact hc18 (x3 + 6, r174.2) rfl
                          · replace h := ite_f g h
                            refine v_iconst C dL_law_550 ct_i_0 ?_
                            replace h := Option.some.inj h; subst h
                            have hR := hr18 _ rfl
                            exact absurd (hR.trans hR1) (by decide)
                        · replace h := ite_f g11 h
                          by_cases g12 : ((xs x3.toNatClampNeg) &&& 31) = 10
                          · replace h := ite_t g12 h
                            refine v_tableIn (off := 519) (tgt := 552) C dL_law_33 (by rw [g12]; decide) (by rw [g12]; decide) (by rw [g12] <;> rfl) (by decide) ?_
                            refine v_aload_nR (j := 1) C dL_law_552 rfl rfl ?_
                            replace h := bind_ex h; obtain ⟨r167, hr167, h⟩ := h
                            refine cv_I C tw_648 tw_103 tw_645 tw_646 tw_647 pd_X7_undo (Nat.le_of_ble_eq_true rfl) (Nat.le_of_ble_eq_true rfl) (q := 0) (kd_lt ks_0 (by decide)) (sh7 ks_0) rfl (As := []) (rest := []) rfl rfl (Nat.le_of_ble_eq_true rfl) (c_X7_undo l D cA B aK aV M r167 hr167) dL_law_553 ?_
                            refine v_aload_nR (j := 2) C dL_law_556 rfl rfl ?_
                            replace h := bind_ex h; obtain ⟨r168, hr168, h⟩ := h
                            refine cv_I C tw_1140 tw_111 tw_1137 tw_1138 tw_1139 pd_X8_undo (Nat.le_of_ble_eq_true rfl) (Nat.le_of_ble_eq_true rfl) (q := 234) (kd_lt ks_234 (by decide)) (sh8 ks_234) rfl (As := []) (rest := [.int r167.1]) rfl rfl (Nat.le_of_ble_eq_true rfl) (c_X8_undo l D cA B aK aV r167.2 r168 hr168) dL_law_557 ?_
                            refine v_icmp_eq (tgt := 1295) C dL_law_560 (by decide) (fun g => ?_) (fun g => ?_)
                            · replace h := ite_t g h
                              refine v_iinc (j := 3) (L' := [(3, .int (x3 + 6)), (0, .ref b), (1, .ref (B + 0)), (2, .ref (B + 234))]) C dL_law_1295 rfl (congrArg (fun z => _ + z) ct_i_6) (by decide) rfl ?_
                              refine v_goto (tgt := 18) C dL_law_1298 (by decide) ?_
                              replace h := Option.some.inj h; subst h
                              refine v_sub [1, 2, 3, 0] rfl ?_
                              exact hc18 (x3 + 6, r168.2) rfl
                            · replace h := ite_f g h
                              refine v_iconst C dL_law_563 ct_i_0 ?_
                              refine v_pc (pc' := 564) rfl ?_
                              replace h := Option.some.inj h; subst h
                              have hR := hr18 _ rfl
                              exact absurd (hR.trans hR1) (by decide)
                          · replace h := ite_f g12 h
                            by_cases g13 : ((xs x3.toNatClampNeg) &&& 31) = 11
                            · replace h := ite_t g13 h
                              refine v_tableIn (off := 532) (tgt := 565) C dL_law_33 (by rw [g13]; decide) (by rw [g13]; decide) (by rw [g13] <;> rfl) (by decide) ?_
                              refine v_aload_nR (j := 1) C dL_law_565 rfl rfl ?_
                              refine v_aload_nR (j := 0) C dL_law_566 rfl rfl ?_
                              refine v_iload_n (j := 3) C dL_law_567 rfl rfl ?_
                              refine v_iconst C dL_law_568 ct_i_1 ?_
                              refine v_iadd C dL_law_569 ?_
                              replace h := chk_some h; obtain ⟨g161, h⟩ := h
                              refine v_sld C hX hbl (inB_vp g161) dL_law_570 ?_
                              refine v_pc (pc' := 571) rfl ?_
                              refine v_aload_nR (j := 0) C dL_law_571 rfl rfl ?_
                              refine v_iload_n (j := 3) C dL_law_572 rfl rfl ?_
                              refine v_iconst C dL_law_573 ct_i_2 ?_
                              refine v_iadd C dL_law_574 ?_
                              replace h := chk_some h; obtain ⟨g162, h⟩ := h
                              refine v_sld C hX hbl (inB_vp g162) dL_law_575 ?_
                              replace h := bind_ex h; obtain ⟨r163, hr163, h⟩ := h
                              refine cv_I C tw_656 tw_103 tw_653 tw_654 tw_655 pd_X7_child (Nat.le_of_ble_eq_true rfl) (Nat.le_of_ble_eq_true rfl) (q := 0) (kd_lt ks_0 (by decide)) (sh7 ks_0) rfl (As := [.int (xs (x3 + 1).toNatClampNeg), .int (xs (x3 + 2).toNatClampNeg)]) (rest := []) rfl rfl (Nat.le_of_ble_eq_true rfl) (c_X7_child l D cA B aK aV M (xs (x3 + 1).toNatClampNeg) (xs (x3 + 2).toNatClampNeg) r163 hr163) dL_law_576 ?_
                              refine v_aload_nR (j := 2) C dL_law_579 rfl rfl ?_
                              refine v_pc (pc' := 580) rfl ?_
                              refine v_aload_nR (j := 0) C dL_law_580 rfl rfl ?_
                              refine v_iload_n (j := 3) C dL_law_581 rfl rfl ?_
                              refine v_iconst C dL_law_582 ct_i_1 ?_
                              refine v_iadd C dL_law_583 ?_
                              replace h := chk_some h; obtain ⟨g164, h⟩ := h
                              refine v_sld C hX hbl (inB_vp g164) dL_law_584 ?_
                              refine v_aload_nR (j := 0) C dL_law_585 rfl rfl ?_
                              refine v_iload_n (j := 3) C dL_law_586 rfl rfl ?_
                              refine v_pc (pc' := 587) rfl ?_
                              refine v_iconst C dL_law_587 ct_i_2 ?_
                              refine v_iadd C dL_law_588 ?_
                              replace h := chk_some h; obtain ⟨g165, h⟩ := h
                              refine v_sld C hX hbl (inB_vp g165) dL_law_589 ?_
                              replace h := bind_ex h; obtain ⟨r166, hr166, h⟩ := h
                              refine cv_I C tw_1144 tw_111 tw_1141 tw_1142 tw_1143 pd_X8_child (Nat.le_of_ble_eq_true rfl) (Nat.le_of_ble_eq_true rfl) (q := 234) (kd_lt ks_234 (by decide)) (sh8 ks_234) rfl (As := [.int (xs (x3 + 1).toNatClampNeg), .int (xs (x3 + 2).toNatClampNeg)]) (rest := [.int r163]) rfl rfl (Nat.le_of_ble_eq_true rfl) (c_X8_child l D cA B aK aV M (xs (x3 + 1).toNatClampNeg) (xs (x3 + 2).toNatClampNeg) r166 hr166) dL_law_590 ?_
                              refine v_icmp_eq (tgt := 1295) C dL_law_593 (by decide) (fun g => ?_) (fun g => ?_)
                              · replace h := ite_t g h
                                refine v_iinc (j := 3) (L' := [(3, .int (x3 + 6)), (0, .ref b), (1, .ref (B + 0)), (2, .ref (B + 234))]) C dL_law_1295 rfl (congrArg (fun z => _ + z) ct_i_6) (by decide) rfl ?_
                                refine v_goto (tgt := 18) C dL_law_1298 (by decide) ?_
                                replace h := Option.some.inj h; subst h
                                refine v_sub [1, 2, 3, 0] rfl ?_
                                exact hc18 (x3 + 6, M) rfl
                              · replace h := ite_f g h
                                refine v_iconst C dL_law_596 ct_i_0 ?_
                                replace h := Option.some.inj h; subst h
                                have hR := hr18 _ rfl
                                exact absurd (hR.trans hR1) (by decide)
                            · replace h := ite_f g13 h
                              by_cases g14 : ((xs x3.toNatClampNeg) &&& 31) = 12
                              · replace h := ite_t g14 h
                                refine v_tableIn (off := 565) (tgt := 598) C dL_law_33 (by rw [g14]; decide) (by rw [g14]; decide) (by rw [g14] <;> rfl) (by decide) ?_
                                refine v_aload_nR (j := 1) C dL_law_598 rfl rfl ?_
                                refine v_aload_nR (j := 0) C dL_law_599 rfl rfl ?_
                                refine v_iload_n (j := 3) C dL_law_600 rfl rfl ?_
                                refine v_iconst C dL_law_601 ct_i_1 ?_
                                refine v_iadd C dL_law_602 ?_
                                replace h := chk_some h; obtain ⟨g155, h⟩ := h
                                refine v_sld C hX hbl (inB_vp g155) dL_law_603 ?_
                                refine v_pc (pc' := 604) rfl ?_
                                refine v_aload_nR (j := 0) C dL_law_604 rfl rfl ?_
                                refine v_iload_n (j := 3) C dL_law_605 rfl rfl ?_
                                refine v_iconst C dL_law_606 ct_i_2 ?_
                                refine v_iadd C dL_law_607 ?_
                                replace h := chk_some h; obtain ⟨g156, h⟩ := h
                                refine v_sld C hX hbl (inB_vp g156) dL_law_608 ?_
                                replace h := bind_ex h; obtain ⟨r157, hr157, h⟩ := h
                                refine cv_I C tw_660 tw_103 tw_657 tw_658 tw_659 pd_X7_cell (Nat.le_of_ble_eq_true rfl) (Nat.le_of_ble_eq_true rfl) (q := 0) (kd_lt ks_0 (by decide)) (sh7 ks_0) rfl (As := [.int (xs (x3 + 1).toNatClampNeg), .int (xs (x3 + 2).toNatClampNeg)]) (rest := []) rfl rfl (Nat.le_of_ble_eq_true rfl) (c_X7_cell l D cA B aK aV M (xs (x3 + 1).toNatClampNeg) (xs (x3 + 2).toNatClampNeg) r157 hr157) dL_law_609 ?_
                                refine v_aload_nR (j := 2) C dL_law_612 rfl rfl ?_
                                refine v_pc (pc' := 613) rfl ?_
                                refine v_aload_nR (j := 0) C dL_law_613 rfl rfl ?_
                                refine v_iload_n (j := 3) C dL_law_614 rfl rfl ?_
                                refine v_iconst C dL_law_615 ct_i_1 ?_
                                refine v_iadd C dL_law_616 ?_
                                replace h := chk_some h; obtain ⟨g158, h⟩ := h
                                refine v_sld C hX hbl (inB_vp g158) dL_law_617 ?_
                                refine v_aload_nR (j := 0) C dL_law_618 rfl rfl ?_
                                refine v_iload_n (j := 3) C dL_law_619 rfl rfl ?_
                                refine v_pc (pc' := 620) rfl ?_
                                refine v_iconst C dL_law_620 ct_i_2 ?_
                                refine v_iadd C dL_law_621 ?_
                                replace h := chk_some h; obtain ⟨g159, h⟩ := h
                                refine v_sld C hX hbl (inB_vp g159) dL_law_622 ?_
                                replace h := bind_ex h; obtain ⟨r160, hr160, h⟩ := h
                                refine cv_I C tw_1148 tw_111 tw_1145 tw_1146 tw_1147 pd_X8_cell_ (Nat.le_of_ble_eq_true rfl) (Nat.le_of_ble_eq_true rfl) (q := 234) (kd_lt ks_234 (by decide)) (sh8 ks_234) rfl (As := [.int (xs (x3 + 1).toNatClampNeg), .int (xs (x3 + 2).toNatClampNeg)]) (rest := [.int r157]) rfl rfl (Nat.le_of_ble_eq_true rfl) (c_X8_cell_ l D cA B aK aV M (xs (x3 + 1).toNatClampNeg) (xs (x3 + 2).toNatClampNeg) r160 hr160) dL_law_623 ?_
                                refine v_icmp_eq (tgt := 1295) C dL_law_626 (by decide) (fun g => ?_) (fun g => ?_)
                                · replace h := ite_t g h
                                  refine v_iinc (j := 3) (L' := [(3, .int (x3 + 6)), (0, .ref b), (1, .ref (B + 0)), (2, .ref (B + 234))]) C dL_law_1295 rfl (congrArg (fun z => _ + z) ct_i_6) (by decide) rfl ?_
                                  refine v_goto (tgt := 18) C dL_law_1298 (by decide) ?_
                                  replace h := Option.some.inj h; subst h
                                  refine v_sub [1, 2, 3, 0] rfl ?_
                                  exact hc18 (x3 + 6, r160.2) rfl
                                · replace h := ite_f g h
                                  refine v_iconst C dL_law_629 ct_i_0 ?_
                                  replace h := Option.some.inj h; subst h
                                  have hR := hr18 _ rfl
                                  exact absurd (hR.trans hR1) (by decide)
                              · replace h := ite_f g14 h
                                by_cases g15 : ((xs x3.toNatClampNeg) &&& 31) = 13
                                · replace h := ite_t g15 h
                                  refine v_tableIn (off := 598) (tgt := 631) C dL_law_33 (by rw [g15]; decide) (by rw [g15]; decide) (by rw [g15] <;> rfl) (by decide) ?_
                                  refine v_aload_nR (j := 1) C dL_law_631 rfl rfl ?_
                                  refine v_aload_nR (j := 0) C dL_law_632 rfl rfl ?_
                                  refine v_iload_n (j := 3) C dL_law_633 rfl rfl ?_
                                  refine v_iconst C dL_law_634 ct_i_1 ?_
                                  refine v_iadd C dL_law_635 ?_
                                  replace h := chk_some h; obtain ⟨g149, h⟩ := h
                                  refine v_sld C hX hbl (inB_vp g149) dL_law_636 ?_
                                  refine v_pc (pc' := 637) rfl ?_
                                  refine v_aload_nR (j := 0) C dL_law_637 rfl rfl ?_
                                  refine v_iload_n (j := 3) C dL_law_638 rfl rfl ?_
                                  refine v_iconst C dL_law_639 ct_i_2 ?_
                                  refine v_iadd C dL_law_640 ?_
                                  replace h := chk_some h; obtain ⟨g150, h⟩ := h
                                  refine v_sld C hX hbl (inB_vp g150) dL_law_641 ?_
                                  replace h := bind_ex h; obtain ⟨r151, hr151, h⟩ := h
                                  refine cv_I C tw_669 tw_103 tw_666 tw_667 tw_668 pd_X7_power (Nat.le_of_ble_eq_true rfl) (Nat.le_of_ble_eq_true rfl) (q := 0) (kd_lt ks_0 (by decide)) (sh7 ks_0) rfl (As := [.int (xs (x3 + 1).toNatClampNeg), .int (xs (x3 + 2).toNatClampNeg)]) (rest := []) rfl rfl (Nat.le_of_ble_eq_true rfl) (c_X7_power l D cA B aK aV M (xs (x3 + 1).toNatClampNeg) (xs (x3 + 2).toNatClampNeg) r151 hr151) dL_law_642 ?_
                                  refine v_aload_nR (j := 2) C dL_law_645 rfl rfl ?_
                                  refine v_pc (pc' := 646) rfl ?_
                                  refine v_aload_nR (j := 0) C dL_law_646 rfl rfl ?_
                                  refine v_iload_n (j := 3) C dL_law_647 rfl rfl ?_
                                  refine v_iconst C dL_law_648 ct_i_1 ?_
                                  refine v_iadd C dL_law_649 ?_
                                  replace h := chk_some h; obtain ⟨g152, h⟩ := h
                                  refine v_sld C hX hbl (inB_vp g152) dL_law_650 ?_
                                  refine v_aload_nR (j := 0) C dL_law_651 rfl rfl ?_
                                  refine v_iload_n (j := 3) C dL_law_652 rfl rfl ?_
                                  refine v_pc (pc' := 653) rfl ?_
                                  refine v_iconst C dL_law_653 ct_i_2 ?_
                                  refine v_iadd C dL_law_654 ?_
                                  replace h := chk_some h; obtain ⟨g153, h⟩ := h
                                  refine v_sld C hX hbl (inB_vp g153) dL_law_655 ?_
                                  replace h := bind_ex h; obtain ⟨r154, hr154, h⟩ := h
                                  refine cv_I C tw_1152 tw_111 tw_1149 tw_1150 tw_1151 pd_X8_power (Nat.le_of_ble_eq_true rfl) (Nat.le_of_ble_eq_true rfl) (q := 234) (kd_lt ks_234 (by decide)) (sh8 ks_234) rfl (As := [.int (xs (x3 + 1).toNatClampNeg), .int (xs (x3 + 2).toNatClampNeg)]) (rest := [.int r151]) rfl rfl (Nat.le_of_ble_eq_true rfl) (c_X8_power l D cA B aK aV M (xs (x3 + 1).toNatClampNeg) (xs (x3 + 2).toNatClampNeg) r154 hr154) dL_law_656 ?_
                                  refine v_icmp_eq (tgt := 1295) C dL_law_659 (by decide) (fun g => ?_) (fun g => ?_)
                                  · replace h := ite_t g h
                                    refine v_iinc (j := 3) (L' := [(3, .int (x3 + 6)), (0, .ref b), (1, .ref (B + 0)), (2, .ref (B + 234))]) C dL_law_1295 rfl (congrArg (fun z => _ + z) ct_i_6) (by decide) rfl ?_
                                    refine v_goto (tgt := 18) C dL_law_1298 (by decide) ?_
                                    replace h := Option.some.inj h; subst h
                                    refine v_sub [1, 2, 3, 0] rfl ?_
                                    exact hc18 (x3 + 6, r154.2) rfl
                                  · replace h := ite_f g h
                                    refine v_iconst C dL_law_662 ct_i_0 ?_
                                    replace h := Option.some.inj h; subst h
                                    have hR := hr18 _ rfl
                                    exact absurd (hR.trans hR1) (by decide)
                                · replace h := ite_f g15 h
                                  by_cases g16 : ((xs x3.toNatClampNeg) &&& 31) = 14
                                  · replace h := ite_t g16 h
                                    refine v_tableIn (off := 631) (tgt := 664) C dL_law_33 (by rw [g16]; decide) (by rw [g16]; decide) (by rw [g16] <;> rfl) (by decide) ?_
                                    refine v_aload_nR (j := 1) C dL_law_664 rfl rfl ?_
                                    refine v_aload_nR (j := 0) C dL_law_665 rfl rfl ?_
                                    refine v_iload_n (j := 3) C dL_law_666 rfl rfl ?_
                                    refine v_iconst C dL_law_667 ct_i_1 ?_
                                    refine v_iadd C dL_law_668 ?_
                                    replace h := chk_some h; obtain ⟨g139, h⟩ := h
                                    refine v_sld C hX hbl (inB_vp g139) dL_law_669 ?_
                                    refine v_pc (pc' := 670) rfl ?_
                                    refine v_aload_nR (j := 0) C dL_law_670 rfl rfl ?_
                                    refine v_iload_n (j := 3) C dL_law_671 rfl rfl ?_
                                    refine v_iconst C dL_law_672 ct_i_2 ?_
                                    refine v_iadd C dL_law_673 ?_
                                    replace h := chk_some h; obtain ⟨g140, h⟩ := h
                                    refine v_sld C hX hbl (inB_vp g140) dL_law_674 ?_
                                    refine v_aload_nR (j := 0) C dL_law_675 rfl rfl ?_
                                    refine v_iload_n (j := 3) C dL_law_676 rfl rfl ?_
                                    refine v_pc (pc' := 677) rfl ?_
                                    refine v_iconst C dL_law_677 ct_i_3 ?_
                                    refine v_iadd C dL_law_678 ?_
                                    replace h := chk_some h; obtain ⟨g141, h⟩ := h
                                    refine v_sld C hX hbl (inB_vp g141) dL_law_679 ?_
                                    refine v_aload_nR (j := 0) C dL_law_680 rfl rfl ?_
                                    refine v_iload_n (j := 3) C dL_law_681 rfl rfl ?_
                                    refine v_iconst C dL_law_682 ct_i_4 ?_
                                    refine v_iadd C dL_law_683 ?_
                                    refine v_pc (pc' := 684) rfl ?_
                                    replace h := chk_some h; obtain ⟨g142, h⟩ := h
                                    refine v_sld C hX hbl (inB_vp g142) dL_law_684 ?_
                                    replace h := bind_ex h; obtain ⟨r143, hr143, h⟩ := h
                                    refine cv_I C tw_674 tw_103 tw_671 tw_672 tw_673 pd_X7_mean (Nat.le_of_ble_eq_true rfl) (Nat.le_of_ble_eq_true rfl) (q := 0) (kd_lt ks_0 (by decide)) (sh7 ks_0) rfl (As := [.int (xs (x3 + 1).toNatClampNeg), .int (xs (x3 + 2).toNatClampNeg), .int (xs (x3 + 3).toNatClampNeg), .int (xs (x3 + 4).toNatClampNeg)]) (rest := []) rfl rfl (Nat.le_of_ble_eq_true rfl) (c_X7_mean l D cA B aK aV M (xs (x3 + 1).toNatClampNeg) (xs (x3 + 2).toNatClampNeg) (xs (x3 + 3).toNatClampNeg) (xs (x3 + 4).toNatClampNeg) r143 hr143) dL_law_685 ?_
                                    refine v_aload_nR (j := 2) C dL_law_688 rfl rfl ?_
                                    refine v_aload_nR (j := 0) C dL_law_689 rfl rfl ?_
                                    refine v_iload_n (j := 3) C dL_law_690 rfl rfl ?_
                                    refine v_iconst C dL_law_691 ct_i_1 ?_
                                    refine v_iadd C dL_law_692 ?_
                                    refine v_pc (pc' := 693) rfl ?_
                                    replace h := chk_some h; obtain ⟨g144, h⟩ := h
                                    refine v_sld C hX hbl (inB_vp g144) dL_law_693 ?_
                                    refine v_aload_nR (j := 0) C dL_law_694 rfl rfl ?_
                                    refine v_iload_n (j := 3) C dL_law_695 rfl rfl ?_
                                    refine v_iconst C dL_law_696 ct_i_2 ?_
                                    refine v_iadd C dL_law_697 ?_
                                    replace h := chk_some h; obtain ⟨g145, h⟩ := h
                                    refine v_sld C hX hbl (inB_vp g145) dL_law_698 ?_
                                    refine v_aload_nR (j := 0) C dL_law_699 rfl rfl ?_
                                    refine v_pc (pc' := 700) rfl ?_
                                    refine v_iload_n (j := 3) C dL_law_700 rfl rfl ?_
                                    refine v_iconst C dL_law_701 ct_i_3 ?_
                                    refine v_iadd C dL_law_702 ?_
                                    replace h := chk_some h; obtain ⟨g146, h⟩ := h
                                    refine v_sld C hX hbl (inB_vp g146) dL_law_703 ?_
                                    refine v_aload_nR (j := 0) C dL_law_704 rfl rfl ?_
                                    refine v_iload_n (j := 3) C dL_law_705 rfl rfl ?_
                                    refine v_iconst C dL_law_706 ct_i_4 ?_
                                    refine v_pc (pc' := 707) rfl ?_
                                    refine v_iadd C dL_law_707 ?_
                                    replace h := chk_some h; obtain ⟨g147, h⟩ := h
                                    refine v_sld C hX hbl (inB_vp g147) dL_law_708 ?_
                                    replace h := bind_ex h; obtain ⟨r148, hr148, h⟩ := h
                                    refine cv_I C tw_1156 tw_111 tw_1153 tw_1154 tw_1155 pd_X8_mean (Nat.le_of_ble_eq_true rfl) (Nat.le_of_ble_eq_true rfl) (q := 234) (kd_lt ks_234 (by decide)) (sh8 ks_234) rfl (As := [.int (xs (x3 + 1).toNatClampNeg), .int (xs (x3 + 2).toNatClampNeg), .int (xs (x3 + 3).toNatClampNeg), .int (xs (x3 + 4).toNatClampNeg)]) (rest := [.int r143.1]) rfl rfl (Nat.le_of_ble_eq_true rfl) (c_X8_mean l D cA B aK aV r143.2 (xs (x3 + 1).toNatClampNeg) (xs (x3 + 2).toNatClampNeg) (xs (x3 + 3).toNatClampNeg) (xs (x3 + 4).toNatClampNeg) r148 hr148) dL_law_709 ?_
                                    refine v_icmp_eq (tgt := 1295) C dL_law_712 (by decide) (fun g => ?_) (fun g => ?_)
                                    · replace h := ite_t g h
                                      refine v_iinc (j := 3) (L' := [(3, .int (x3 + 6)), (0, .ref b), (1, .ref (B + 0)), (2, .ref (B + 234))]) C dL_law_1295 rfl (congrArg (fun z => _ + z) ct_i_6) (by decide) rfl ?_
                                      refine v_goto (tgt := 18) C dL_law_1298 (by decide) ?_
                                      replace h := Option.some.inj h; subst h
                                      refine v_sub [1, 2, 3, 0] rfl ?_
                                      exact hc18 (x3 + 6, r148.2) rfl
                                    · replace h := ite_f g h
                                      refine v_iconst C dL_law_715 ct_i_0 ?_
                                      replace h := Option.some.inj h; subst h
                                      have hR := hr18 _ rfl
                                      exact absurd (hR.trans hR1) (by decide)
                                  · replace h := ite_f g16 h
                                    by_cases g17 : ((xs x3.toNatClampNeg) &&& 31) = 15
                                    · replace h := ite_t g17 h
                                      refine v_tableIn (off := 684) (tgt := 717) C dL_law_33 (by rw [g17]; decide) (by rw [g17]; decide) (by rw [g17] <;> rfl) (by decide) ?_
                                      refine v_aload_nR (j := 1) C dL_law_717 rfl rfl ?_
                                      refine v_aload_nR (j := 0) C dL_law_718 rfl rfl ?_
                                      refine v_iload_n (j := 3) C dL_law_719 rfl rfl ?_
                                      refine v_iconst C dL_law_720 ct_i_1 ?_
                                      refine v_iadd C dL_law_721 ?_
                                      replace h := chk_some h; obtain ⟨g127, h⟩ := h
                                      refine v_sld C hX hbl (inB_vp g127) dL_law_722 ?_
                                      refine v_pc (pc' := 723) rfl ?_
                                      refine v_aload_nR (j := 0) C dL_law_723 rfl rfl ?_
                                      refine v_iload_n (j := 3) C dL_law_724 rfl rfl ?_
                                      refine v_iconst C dL_law_725 ct_i_2 ?_
                                      refine v_iadd C dL_law_726 ?_
                                      replace h := chk_some h; obtain ⟨g128, h⟩ := h
                                      refine v_sld C hX hbl (inB_vp g128) dL_law_727 ?_
                                      refine v_aload_nR (j := 0) C dL_law_728 rfl rfl ?_
                                      refine v_iload_n (j := 3) C dL_law_729 rfl rfl ?_
                                      refine v_pc (pc' := 730) rfl ?_
                                      refine v_iconst C dL_law_730 ct_i_3 ?_
                                      refine v_iadd C dL_law_731 ?_
                                      replace h := chk_some h; obtain ⟨g129, h⟩ := h
                                      refine v_sld C hX hbl (inB_vp g129) dL_law_732 ?_
                                      refine v_aload_nR (j := 0) C dL_law_733 rfl rfl ?_
                                      refine v_iload_n (j := 3) C dL_law_734 rfl rfl ?_
                                      refine v_iconst C dL_law_735 ct_i_4 ?_
                                      refine v_iadd C dL_law_736 ?_
                                      refine v_pc (pc' := 737) rfl ?_
                                      replace h := chk_some h; obtain ⟨g130, h⟩ := h
                                      refine v_sld C hX hbl (inB_vp g130) dL_law_737 ?_
                                      refine v_aload_nR (j := 0) C dL_law_738 rfl rfl ?_
                                      refine v_iload_n (j := 3) C dL_law_739 rfl rfl ?_
                                      refine v_iconst C dL_law_740 ct_i_5 ?_
                                      refine v_iadd C dL_law_741 ?_
                                      replace h := chk_some h; obtain ⟨g131, h⟩ := h
                                      refine v_sld C hX hbl (inB_vp g131) dL_law_742 ?_
                                      replace h := bind_ex h; obtain ⟨r132, hr132, h⟩ := h
                                      refine cv_I C tw_689 tw_103 tw_686 tw_687 tw_688 pd_X7_some (Nat.le_of_ble_eq_true rfl) (Nat.le_of_ble_eq_true rfl) (q := 0) (kd_lt ks_0 (by decide)) (sh7 ks_0) rfl (As := [.int (xs (x3 + 1).toNatClampNeg), .int (xs (x3 + 2).toNatClampNeg), .int (xs (x3 + 3).toNatClampNeg), .int (xs (x3 + 4).toNatClampNeg), .int (xs (x3 + 5).toNatClampNeg)]) (rest := []) rfl rfl (Nat.le_of_ble_eq_true rfl) (c_X7_some l D cA B aK aV M (xs (x3 + 1).toNatClampNeg) (xs (x3 + 2).toNatClampNeg) (xs (x3 + 3).toNatClampNeg) (xs (x3 + 4).toNatClampNeg) (xs (x3 + 5).toNatClampNeg) r132 hr132) dL_law_743 ?_
                                      refine v_pc (pc' := 746) rfl ?_
                                      refine v_aload_nR (j := 2) C dL_law_746 rfl rfl ?_
                                      refine v_aload_nR (j := 0) C dL_law_747 rfl rfl ?_
                                      refine v_iload_n (j := 3) C dL_law_748 rfl rfl ?_
                                      refine v_iconst C dL_law_749 ct_i_1 ?_
                                      refine v_iadd C dL_law_750 ?_
                                      replace h := chk_some h; obtain ⟨g133, h⟩ := h
                                      refine v_sld C hX hbl (inB_vp g133) dL_law_751 ?_
                                      refine v_aload_nR (j := 0) C dL_law_752 rfl rfl ?_
                                      refine v_pc (pc' := 753) rfl ?_
                                      refine v_iload_n (j := 3) C dL_law_753 rfl rfl ?_
                                      refine v_iconst C dL_law_754 ct_i_2 ?_
                                      refine v_iadd C dL_law_755 ?_
                                      replace h := chk_some h; obtain ⟨g134, h⟩ := h
                                      refine v_sld C hX hbl (inB_vp g134) dL_law_756 ?_
                                      refine v_aload_nR (j := 0) C dL_law_757 rfl rfl ?_
                                      refine v_iload_n (j := 3) C dL_law_758 rfl rfl ?_
                                      refine v_iconst C dL_law_759 ct_i_3 ?_
                                      refine v_pc (pc' := 760) rfl ?_
                                      refine v_iadd C dL_law_760 ?_
                                      replace h := chk_some h; obtain ⟨g135, h⟩ := h
                                      refine v_sld C hX hbl (inB_vp g135) dL_law_761 ?_
                                      refine v_aload_nR (j := 0) C dL_law_762 rfl rfl ?_
                                      refine v_iload_n (j := 3) C dL_law_763 rfl rfl ?_
                                      refine v_iconst C dL_law_764 ct_i_4 ?_
                                      refine v_iadd C dL_law_765 ?_
                                      replace h := chk_some h; obtain ⟨g136, h⟩ := h
                                      refine v_sld C hX hbl (inB_vp g136) dL_law_766 ?_
                                      refine v_pc (pc' := 767) rfl ?_
                                      refine v_aload_nR (j := 0) C dL_law_767 rfl rfl ?_
                                      refine v_iload_n (j := 3) C dL_law_768 rfl rfl ?_
                                      refine v_iconst C dL_law_769 ct_i_5 ?_
                                      refine v_iadd C dL_law_770 ?_
                                      replace h := chk_some h; obtain ⟨g137, h⟩ := h
                                      refine v_sld C hX hbl (inB_vp g137) dL_law_771 ?_
                                      replace h := bind_ex h; obtain ⟨r138, hr138, h⟩ := h
                                      refine cv_I C tw_1167 tw_111 tw_1164 tw_1165 tw_1166 pd_X8_some (Nat.le_of_ble_eq_true rfl) (Nat.le_of_ble_eq_true rfl) (q := 234) (kd_lt ks_234 (by decide)) (sh8 ks_234) rfl (As := [.int (xs (x3 + 1).toNatClampNeg), .int (xs (x3 + 2).toNatClampNeg), .int (xs (x3 + 3).toNatClampNeg), .int (xs (x3 + 4).toNatClampNeg), .int (xs (x3 + 5).toNatClampNeg)]) (rest := [.int r132.1]) rfl rfl (Nat.le_of_ble_eq_true rfl) (c_X8_some l D cA B aK aV r132.2 (xs (x3 + 1).toNatClampNeg) (xs (x3 + 2).toNatClampNeg) (xs (x3 + 3).toNatClampNeg) (xs (x3 + 4).toNatClampNeg) (xs (x3 + 5).toNatClampNeg) r138 hr138) dL_law_772 ?_
                                      refine v_icmp_eq (tgt := 1295) C dL_law_775 (by decide) (fun g => ?_) (fun g => ?_)
                                      · replace h := ite_t g h
                                        refine v_iinc (j := 3) (L' := [(3, .int (x3 + 6)), (0, .ref b), (1, .ref (B + 0)), (2, .ref (B + 234))]) C dL_law_1295 rfl (congrArg (fun z => _ + z) ct_i_6) (by decide) rfl ?_
                                        refine v_goto (tgt := 18) C dL_law_1298 (by decide) ?_
                                        replace h := Option.some.inj h; subst h
                                        refine v_sub [1, 2, 3, 0] rfl ?_
                                        exact hc18 (x3 + 6, r138.2) rfl
                                      · replace h := ite_f g h
                                        refine v_pc (pc' := 778) rfl ?_
                                        refine v_iconst C dL_law_778 ct_i_0 ?_
                                        replace h := Option.some.inj h; subst h
                                        have hR := hr18 _ rfl
                                        exact absurd (hR.trans hR1) (by decide)
                                    · replace h := ite_f g17 h
                                      by_cases g18 : ((xs x3.toNatClampNeg) &&& 31) = 16
                                      · replace h := ite_t g18 h
                                        refine v_tableIn (off := 747) (tgt := 780) C dL_law_33 (by rw [g18]; decide) (by rw [g18]; decide) (by rw [g18] <;> rfl) (by decide) ?_
                                        refine v_aload_nR (j := 1) C dL_law_780 rfl rfl ?_
                                        refine v_aload_nR (j := 0) C dL_law_781 rfl rfl ?_
                                        refine v_iload_n (j := 3) C dL_law_782 rfl rfl ?_
                                        refine v_iconst C dL_law_783 ct_i_1 ?_
                                        refine v_iadd C dL_law_784 ?_
                                        replace h := chk_some h; obtain ⟨g119, h⟩ := h
                                        refine v_sld C hX hbl (inB_vp g119) dL_law_785 ?_
                                        refine v_pc (pc' := 786) rfl ?_
                                        refine v_aload_nR (j := 0) C dL_law_786 rfl rfl ?_
                                        refine v_iload_n (j := 3) C dL_law_787 rfl rfl ?_
                                        refine v_iconst C dL_law_788 ct_i_2 ?_
                                        refine v_iadd C dL_law_789 ?_
                                        replace h := chk_some h; obtain ⟨g120, h⟩ := h
                                        refine v_sld C hX hbl (inB_vp g120) dL_law_790 ?_
                                        refine v_aload_nR (j := 0) C dL_law_791 rfl rfl ?_
                                        refine v_iload_n (j := 3) C dL_law_792 rfl rfl ?_
                                        refine v_pc (pc' := 793) rfl ?_
                                        refine v_iconst C dL_law_793 ct_i_3 ?_
                                        refine v_iadd C dL_law_794 ?_
                                        replace h := chk_some h; obtain ⟨g121, h⟩ := h
                                        refine v_sld C hX hbl (inB_vp g121) dL_law_795 ?_
                                        replace h := bind_ex h; obtain ⟨r122, hr122, h⟩ := h
                                        refine cv_I C tw_693 tw_103 tw_690 tw_691 tw_692 pd_X7_stand (Nat.le_of_ble_eq_true rfl) (Nat.le_of_ble_eq_true rfl) (q := 0) (kd_lt ks_0 (by decide)) (sh7 ks_0) rfl (As := [.int (xs (x3 + 1).toNatClampNeg), .int (xs (x3 + 2).toNatClampNeg), .int (xs (x3 + 3).toNatClampNeg)]) (rest := []) rfl rfl (Nat.le_of_ble_eq_true rfl) (c_X7_stand l D cA B aK aV M (xs (x3 + 1).toNatClampNeg) (xs (x3 + 2).toNatClampNeg) (xs (x3 + 3).toNatClampNeg) r122 hr122) dL_law_796 ?_
                                        refine v_aload_nR (j := 2) C dL_law_799 rfl rfl ?_
                                        refine v_aload_nR (j := 0) C dL_law_800 rfl rfl ?_
                                        refine v_iload_n (j := 3) C dL_law_801 rfl rfl ?_
                                        refine v_pc (pc' := 802) rfl ?_
                                        refine v_iconst C dL_law_802 ct_i_1 ?_
                                        refine v_iadd C dL_law_803 ?_
                                        replace h := chk_some h; obtain ⟨g123, h⟩ := h
                                        refine v_sld C hX hbl (inB_vp g123) dL_law_804 ?_
                                        refine v_aload_nR (j := 0) C dL_law_805 rfl rfl ?_
                                        refine v_iload_n (j := 3) C dL_law_806 rfl rfl ?_
                                        refine v_iconst C dL_law_807 ct_i_2 ?_
                                        refine v_iadd C dL_law_808 ?_
                                        refine v_pc (pc' := 809) rfl ?_
                                        replace h := chk_some h; obtain ⟨g124, h⟩ := h
                                        refine v_sld C hX hbl (inB_vp g124) dL_law_809 ?_
                                        refine v_aload_nR (j := 0) C dL_law_810 rfl rfl ?_
                                        refine v_iload_n (j := 3) C dL_law_811 rfl rfl ?_
                                        refine v_iconst C dL_law_812 ct_i_3 ?_
                                        refine v_iadd C dL_law_813 ?_
                                        replace h := chk_some h; obtain ⟨g125, h⟩ := h
                                        refine v_sld C hX hbl (inB_vp g125) dL_law_814 ?_
                                        replace h := bind_ex h; obtain ⟨r126, hr126, h⟩ := h
                                        refine cv_I C tw_1172 tw_111 tw_1169 tw_1170 tw_1171 pd_X8_stand (Nat.le_of_ble_eq_true rfl) (Nat.le_of_ble_eq_true rfl) (q := 234) (kd_lt ks_234 (by decide)) (sh8 ks_234) rfl (As := [.int (xs (x3 + 1).toNatClampNeg), .int (xs (x3 + 2).toNatClampNeg), .int (xs (x3 + 3).toNatClampNeg)]) (rest := [.int r122.1]) rfl rfl (Nat.le_of_ble_eq_true rfl) (c_X8_stand l D cA B aK aV r122.2 (xs (x3 + 1).toNatClampNeg) (xs (x3 + 2).toNatClampNeg) (xs (x3 + 3).toNatClampNeg) r126 hr126) dL_law_815 ?_
                                        refine v_pc (pc' := 818) rfl ?_
                                        refine v_icmp_eq (tgt := 1295) C dL_law_818 (by decide) (fun g => ?_) (fun g => ?_)
                                        · replace h := ite_t g h
                                          refine v_iinc (j := 3) (L' := [(3, .int (x3 + 6)), (0, .ref b), (1, .ref (B + 0)), (2, .ref (B + 234))]) C dL_law_1295 rfl (congrArg (fun z => _ + z) ct_i_6) (by decide) rfl ?_
                                          refine v_goto (tgt := 18) C dL_law_1298 (by decide) ?_
                                          replace h := Option.some.inj h; subst h
                                          refine v_sub [1, 2, 3, 0] rfl ?_
                                          exact hc18 (x3 + 6, r126.2) rfl
                                        · replace h := ite_f g h
                                          refine v_iconst C dL_law_821 ct_i_0 ?_
                                          replace h := Option.some.inj h; subst h
                                          have hR := hr18 _ rfl
                                          exact absurd (hR.trans hR1) (by decide)
                                      · replace h := ite_f g18 h
                                        by_cases g19 : ((xs x3.toNatClampNeg) &&& 31) = 17
                                        · replace h := ite_t g19 h
                                          refine v_tableIn (off := 790) (tgt := 823) C dL_law_33 (by rw [g19]; decide) (by rw [g19]; decide) (by rw [g19] <;> rfl) (by decide) ?_
                                          refine v_aload_nR (j := 1) C dL_law_823 rfl rfl ?_
                                          refine v_aload_nR (j := 0) C dL_law_824 rfl rfl ?_
                                          refine v_iload_n (j := 3) C dL_law_825 rfl rfl ?_
                                          refine v_iconst C dL_law_826 ct_i_1 ?_
                                          refine v_iadd C dL_law_827 ?_
                                          replace h := chk_some h; obtain ⟨g107, h⟩ := h
                                          refine v_sld C hX hbl (inB_vp g107) dL_law_828 ?_
                                          refine v_pc (pc' := 829) rfl ?_
                                          refine v_aload_nR (j := 0) C dL_law_829 rfl rfl ?_
                                          refine v_iload_n (j := 3) C dL_law_830 rfl rfl ?_
                                          refine v_iconst C dL_law_831 ct_i_2 ?_
                                          refine v_iadd C dL_law_832 ?_
                                          replace h := chk_some h; obtain ⟨g108, h⟩ := h
                                          refine v_sld C hX hbl (inB_vp g108) dL_law_833 ?_
                                          refine v_aload_nR (j := 0) C dL_law_834 rfl rfl ?_
                                          refine v_iload_n (j := 3) C dL_law_835 rfl rfl ?_
                                          refine v_pc (pc' := 836) rfl ?_
                                          refine v_iconst C dL_law_836 ct_i_3 ?_
                                          refine v_iadd C dL_law_837 ?_
                                          replace h := chk_some h; obtain ⟨g109, h⟩ := h
                                          refine v_sld C hX hbl (inB_vp g109) dL_law_838 ?_
                                          refine v_aload_nR (j := 0) C dL_law_839 rfl rfl ?_
                                          refine v_iload_n (j := 3) C dL_law_840 rfl rfl ?_
                                          refine v_iconst C dL_law_841 ct_i_4 ?_
                                          refine v_iadd C dL_law_842 ?_
                                          refine v_pc (pc' := 843) rfl ?_
                                          replace h := chk_some h; obtain ⟨g110, h⟩ := h
                                          refine v_sld C hX hbl (inB_vp g110) dL_law_843 ?_
                                          refine v_aload_nR (j := 0) C dL_law_844 rfl rfl ?_
                                          refine v_iload_n (j := 3) C dL_law_845 rfl rfl ?_
                                          refine v_iconst C dL_law_846 ct_i_5 ?_
                                          refine v_iadd C dL_law_847 ?_
                                          replace h := chk_some h; obtain ⟨g111, h⟩ := h
                                          refine v_sld C hX hbl (inB_vp g111) dL_law_848 ?_
                                          replace h := bind_ex h; obtain ⟨r112, hr112, h⟩ := h
                                          refine cv_I C tw_722 tw_103 tw_719 tw_720 tw_721 pd_X7_brothers (Nat.le_of_ble_eq_true rfl) (Nat.le_of_ble_eq_true rfl) (q := 0) (kd_lt ks_0 (by decide)) (sh7 ks_0) rfl (As := [.int (xs (x3 + 1).toNatClampNeg), .int (xs (x3 + 2).toNatClampNeg), .int (xs (x3 + 3).toNatClampNeg), .int (xs (x3 + 4).toNatClampNeg), .int (xs (x3 + 5).toNatClampNeg)]) (rest := []) rfl rfl (Nat.le_of_ble_eq_true rfl) (c_X7_brothers l D cA B aK aV M (xs (x3 + 1).toNatClampNeg) (xs (x3 + 2).toNatClampNeg) (xs (x3 + 3).toNatClampNeg) (xs (x3 + 4).toNatClampNeg) (xs (x3 + 5).toNatClampNeg) r112 hr112) dL_law_849 ?_
                                          refine v_pc (pc' := 852) rfl ?_
                                          refine v_aload_nR (j := 2) C dL_law_852 rfl rfl ?_
                                          refine v_aload_nR (j := 0) C dL_law_853 rfl rfl ?_
                                          refine v_iload_n (j := 3) C dL_law_854 rfl rfl ?_
                                          refine v_iconst C dL_law_855 ct_i_1 ?_
                                          refine v_iadd C dL_law_856 ?_
                                          replace h := chk_some h; obtain ⟨g113, h⟩ := h
                                          refine v_sld C hX hbl (inB_vp g113) dL_law_857 ?_
                                          refine v_aload_nR (j := 0) C dL_law_858 rfl rfl ?_
                                          refine v_pc (pc' := 859) rfl ?_
                                          refine v_iload_n (j := 3) C dL_law_859 rfl rfl ?_
                                          refine v_iconst C dL_law_860 ct_i_2 ?_
                                          refine v_iadd C dL_law_861 ?_
                                          replace h := chk_some h; obtain ⟨g114, h⟩ := h
                                          refine v_sld C hX hbl (inB_vp g114) dL_law_862 ?_
                                          refine v_aload_nR (j := 0) C dL_law_863 rfl rfl ?_
                                          refine v_iload_n (j := 3) C dL_law_864 rfl rfl ?_
                                          refine v_iconst C dL_law_865 ct_i_3 ?_
                                          refine v_pc (pc' := 866) rfl ?_
                                          refine v_iadd C dL_law_866 ?_
                                          replace h := chk_some h; obtain ⟨g115, h⟩ := h
                                          refine v_sld C hX hbl (inB_vp g115) dL_law_867 ?_
                                          refine v_aload_nR (j := 0) C dL_law_868 rfl rfl ?_
                                          refine v_iload_n (j := 3) C dL_law_869 rfl rfl ?_
                                          refine v_iconst C dL_law_870 ct_i_4 ?_
                                          refine v_iadd C dL_law_871 ?_
                                          replace h := chk_some h; obtain ⟨g116, h⟩ := h
                                          refine v_sld C hX hbl (inB_vp g116) dL_law_872 ?_
                                          refine v_pc (pc' := 873) rfl ?_
                                          refine v_aload_nR (j := 0) C dL_law_873 rfl rfl ?_
                                          refine v_iload_n (j := 3) C dL_law_874 rfl rfl ?_
                                          refine v_iconst C dL_law_875 ct_i_5 ?_
                                          refine v_iadd C dL_law_876 ?_
                                          replace h := chk_some h; obtain ⟨g117, h⟩ := h
                                          refine v_sld C hX hbl (inB_vp g117) dL_law_877 ?_
                                          replace h := bind_ex h; obtain ⟨r118, hr118, h⟩ := h
                                          refine cv_I C tw_1180 tw_111 tw_1177 tw_1178 tw_1179 pd_X8_brothers (Nat.le_of_ble_eq_true rfl) (Nat.le_of_ble_eq_true rfl) (q := 234) (kd_lt ks_234 (by decide)) (sh8 ks_234) rfl (As := [.int (xs (x3 + 1).toNatClampNeg), .int (xs (x3 + 2).toNatClampNeg), .int (xs (x3 + 3).toNatClampNeg), .int (xs (x3 + 4).toNatClampNeg), .int (xs (x3 + 5).toNatClampNeg)]) (rest := [.int r112.1]) rfl rfl (Nat.le_of_ble_eq_true rfl) (c_X8_brothers l D cA B aK aV r112.2 (xs (x3 + 1).toNatClampNeg) (xs (x3 + 2).toNatClampNeg) (xs (x3 + 3).toNatClampNeg) (xs (x3 + 4).toNatClampNeg) (xs (x3 + 5).toNatClampNeg) r118 hr118) dL_law_878 ?_
                                          refine v_icmp_eq (tgt := 1295) C dL_law_881 (by decide) (fun g => ?_) (fun g => ?_)
                                          · replace h := ite_t g h
                                            refine v_iinc (j := 3) (L' := [(3, .int (x3 + 6)), (0, .ref b), (1, .ref (B + 0)), (2, .ref (B + 234))]) C dL_law_1295 rfl (congrArg (fun z => _ + z) ct_i_6) (by decide) rfl ?_
                                            refine v_goto (tgt := 18) C dL_law_1298 (by decide) ?_
                                            replace h := Option.some.inj h; subst h
                                            refine v_sub [1, 2, 3, 0] rfl ?_
                                            exact hc18 (x3 + 6, r118.2) rfl
                                          · replace h := ite_f g h
                                            refine v_pc (pc' := 884) rfl ?_
                                            refine v_iconst C dL_law_884 ct_i_0 ?_
                                            replace h := Option.some.inj h; subst h
                                            have hR := hr18 _ rfl
                                            exact absurd (hR.trans hR1) (by decide)
                                        · replace h := ite_f g19 h
                                          by_cases g20 : ((xs x3.toNatClampNeg) &&& 31) = 18
                                          · replace h := ite_t g20 h
                                            refine v_tableIn (off := 853) (tgt := 886) C dL_law_33 (by rw [g20]; decide) (by rw [g20]; decide) (by rw [g20] <;> rfl) (by decide) ?_
                                            refine v_aload_nR (j := 1) C dL_law_886 rfl rfl ?_
                                            refine v_aload_nR (j := 0) C dL_law_887 rfl rfl ?_
                                            refine v_iload_n (j := 3) C dL_law_888 rfl rfl ?_
                                            refine v_iconst C dL_law_889 ct_i_1 ?_
                                            refine v_iadd C dL_law_890 ?_
                                            replace h := chk_some h; obtain ⟨g99, h⟩ := h
                                            refine v_sld C hX hbl (inB_vp g99) dL_law_891 ?_
                                            refine v_pc (pc' := 892) rfl ?_
                                            refine v_aload_nR (j := 0) C dL_law_892 rfl rfl ?_
                                            refine v_iload_n (j := 3) C dL_law_893 rfl rfl ?_
                                            refine v_iconst C dL_law_894 ct_i_2 ?_
                                            refine v_iadd C dL_law_895 ?_
                                            replace h := chk_some h; obtain ⟨g100, h⟩ := h
                                            refine v_sld C hX hbl (inB_vp g100) dL_law_896 ?_
                                            refine v_aload_nR (j := 0) C dL_law_897 rfl rfl ?_
                                            refine v_iload_n (j := 3) C dL_law_898 rfl rfl ?_
                                            refine v_pc (pc' := 899) rfl ?_
                                            refine v_iconst C dL_law_899 ct_i_3 ?_
                                            refine v_iadd C dL_law_900 ?_
                                            replace h := chk_some h; obtain ⟨g101, h⟩ := h
                                            refine v_sld C hX hbl (inB_vp g101) dL_law_901 ?_
                                            replace h := bind_ex h; obtain ⟨r102, hr102, h⟩ := h
                                            refine cv_I C tw_730 tw_103 tw_727 tw_728 tw_729 pd_X7_rounds (Nat.le_of_ble_eq_true rfl) (Nat.le_of_ble_eq_true rfl) (q := 0) (kd_lt ks_0 (by decide)) (sh7 ks_0) rfl (As := [.int (xs (x3 + 1).toNatClampNeg), .int (xs (x3 + 2).toNatClampNeg), .int (xs (x3 + 3).toNatClampNeg)]) (rest := []) rfl rfl (Nat.le_of_ble_eq_true rfl) (c_X7_rounds l D cA B aK aV M (xs (x3 + 1).toNatClampNeg) (xs (x3 + 2).toNatClampNeg) (xs (x3 + 3).toNatClampNeg) r102 hr102) dL_law_902 ?_
                                            refine v_aload_nR (j := 2) C dL_law_905 rfl rfl ?_
                                            refine v_aload_nR (j := 0) C dL_law_906 rfl rfl ?_
                                            refine v_iload_n (j := 3) C dL_law_907 rfl rfl ?_
                                            refine v_pc (pc' := 908) rfl ?_
                                            refine v_iconst C dL_law_908 ct_i_1 ?_
                                            refine v_iadd C dL_law_909 ?_
                                            replace h := chk_some h; obtain ⟨g103, h⟩ := h
                                            refine v_sld C hX hbl (inB_vp g103) dL_law_910 ?_
                                            refine v_aload_nR (j := 0) C dL_law_911 rfl rfl ?_
                                            refine v_iload_n (j := 3) C dL_law_912 rfl rfl ?_
                                            refine v_iconst C dL_law_913 ct_i_2 ?_
                                            refine v_iadd C dL_law_914 ?_
                                            refine v_pc (pc' := 915) rfl ?_
                                            replace h := chk_some h; obtain ⟨g104, h⟩ := h
                                            refine v_sld C hX hbl (inB_vp g104) dL_law_915 ?_
                                            refine v_aload_nR (j := 0) C dL_law_916 rfl rfl ?_
                                            refine v_iload_n (j := 3) C dL_law_917 rfl rfl ?_
                                            refine v_iconst C dL_law_918 ct_i_3 ?_
                                            refine v_iadd C dL_law_919 ?_
                                            replace h := chk_some h; obtain ⟨g105, h⟩ := h
                                            refine v_sld C hX hbl (inB_vp g105) dL_law_920 ?_
                                            replace h := bind_ex h; obtain ⟨r106, hr106, h⟩ := h
                                            refine cv_I C tw_1184 tw_111 tw_1181 tw_1182 tw_1183 pd_X8_rounds (Nat.le_of_ble_eq_true rfl) (Nat.le_of_ble_eq_true rfl) (q := 234) (kd_lt ks_234 (by decide)) (sh8 ks_234) rfl (As := [.int (xs (x3 + 1).toNatClampNeg), .int (xs (x3 + 2).toNatClampNeg), .int (xs (x3 + 3).toNatClampNeg)]) (rest := [.int r102.1]) rfl rfl (Nat.le_of_ble_eq_true rfl) (c_X8_rounds l D cA B aK aV r102.2 (xs (x3 + 1).toNatClampNeg) (xs (x3 + 2).toNatClampNeg) (xs (x3 + 3).toNatClampNeg) r106 hr106) dL_law_921 ?_
                                            refine v_pc (pc' := 924) rfl ?_
                                            refine v_icmp_eq (tgt := 1295) C dL_law_924 (by decide) (fun g => ?_) (fun g => ?_)
                                            · replace h := ite_t g h
                                              refine v_iinc (j := 3) (L' := [(3, .int (x3 + 6)), (0, .ref b), (1, .ref (B + 0)), (2, .ref (B + 234))]) C dL_law_1295 rfl (congrArg (fun z => _ + z) ct_i_6) (by decide) rfl ?_
                                              refine v_goto (tgt := 18) C dL_law_1298 (by decide) ?_
                                              replace h := Option.some.inj h; subst h
                                              refine v_sub [1, 2, 3, 0] rfl ?_
                                              exact hc18 (x3 + 6, r106.2) rfl
                                            · replace h := ite_f g h
                                              refine v_iconst C dL_law_927 ct_i_0 ?_
                                              replace h := Option.some.inj h; subst h
                                              have hR := hr18 _ rfl
                                              exact absurd (hR.trans hR1) (by decide)
                                          · replace h := ite_f g20 h
                                            by_cases g21 : ((xs x3.toNatClampNeg) &&& 31) = 19
                                            · replace h := ite_t g21 h
                                              refine v_tableIn (off := 896) (tgt := 929) C dL_law_33 (by rw [g21]; decide) (by rw [g21]; decide) (by rw [g21] <;> rfl) (by decide) ?_
                                              refine v_aload_nR (j := 1) C dL_law_929 rfl rfl ?_
                                              refine v_aload_nR (j := 0) C dL_law_930 rfl rfl ?_
                                              refine v_iload_n (j := 3) C dL_law_931 rfl rfl ?_
                                              refine v_iconst C dL_law_932 ct_i_1 ?_
                                              refine v_iadd C dL_law_933 ?_
                                              replace h := chk_some h; obtain ⟨g93, h⟩ := h
                                              refine v_sld C hX hbl (inB_vp g93) dL_law_934 ?_
                                              refine v_pc (pc' := 935) rfl ?_
                                              refine v_aload_nR (j := 0) C dL_law_935 rfl rfl ?_
                                              refine v_iload_n (j := 3) C dL_law_936 rfl rfl ?_
                                              refine v_iconst C dL_law_937 ct_i_2 ?_
                                              refine v_iadd C dL_law_938 ?_
                                              replace h := chk_some h; obtain ⟨g94, h⟩ := h
                                              refine v_sld C hX hbl (inB_vp g94) dL_law_939 ?_
                                              replace h := bind_ex h; obtain ⟨r95, hr95, h⟩ := h
                                              refine cv_I C tw_738 tw_103 tw_735 tw_736 tw_737 pd_X7_aim (Nat.le_of_ble_eq_true rfl) (Nat.le_of_ble_eq_true rfl) (q := 0) (kd_lt ks_0 (by decide)) (sh7 ks_0) rfl (As := [.int (xs (x3 + 1).toNatClampNeg), .int (xs (x3 + 2).toNatClampNeg)]) (rest := []) rfl rfl (Nat.le_of_ble_eq_true rfl) (c_X7_aim l D cA B aK aV M (xs (x3 + 1).toNatClampNeg) (xs (x3 + 2).toNatClampNeg) r95 hr95) dL_law_940 ?_
                                              refine v_aload_nR (j := 2) C dL_law_943 rfl rfl ?_
                                              refine v_pc (pc' := 944) rfl ?_
                                              refine v_aload_nR (j := 0) C dL_law_944 rfl rfl ?_
                                              refine v_iload_n (j := 3) C dL_law_945 rfl rfl ?_
                                              refine v_iconst C dL_law_946 ct_i_1 ?_
                                              refine v_iadd C dL_law_947 ?_
                                              replace h := chk_some h; obtain ⟨g96, h⟩ := h
                                              refine v_sld C hX hbl (inB_vp g96) dL_law_948 ?_
                                              refine v_aload_nR (j := 0) C dL_law_949 rfl rfl ?_
                                              refine v_iload_n (j := 3) C dL_law_950 rfl rfl ?_
                                              refine v_pc (pc' := 951) rfl ?_
                                              refine v_iconst C dL_law_951 ct_i_2 ?_
                                              refine v_iadd C dL_law_952 ?_
                                              replace h := chk_some h; obtain ⟨g97, h⟩ := h
                                              refine v_sld C hX hbl (inB_vp g97) dL_law_953 ?_
                                              replace h := bind_ex h; obtain ⟨r98, hr98, h⟩ := h
                                              refine cv_I C tw_1193 tw_111 tw_1190 tw_1191 tw_1192 pd_X8_aim (Nat.le_of_ble_eq_true rfl) (Nat.le_of_ble_eq_true rfl) (q := 234) (kd_lt ks_234 (by decide)) (sh8 ks_234) rfl (As := [.int (xs (x3 + 1).toNatClampNeg), .int (xs (x3 + 2).toNatClampNeg)]) (rest := [.int r95.1]) rfl rfl (Nat.le_of_ble_eq_true rfl) (c_X8_aim l D cA B aK aV r95.2 (xs (x3 + 1).toNatClampNeg) (xs (x3 + 2).toNatClampNeg) r98 hr98) dL_law_954 ?_
                                              refine v_icmp_eq (tgt := 1295) C dL_law_957 (by decide) (fun g => ?_) (fun g => ?_)
                                              · replace h := ite_t g h
                                                refine v_iinc (j := 3) (L' := [(3, .int (x3 + 6)), (0, .ref b), (1, .ref (B + 0)), (2, .ref (B + 234))]) C dL_law_1295 rfl (congrArg (fun z => _ + z) ct_i_6) (by decide) rfl ?_
                                                refine v_goto (tgt := 18) C dL_law_1298 (by decide) ?_
                                                replace h := Option.some.inj h; subst h
                                                refine v_sub [1, 2, 3, 0] rfl ?_
                                                exact hc18 (x3 + 6, r98.2) rfl
                                              · replace h := ite_f g h
                                                refine v_iconst C dL_law_960 ct_i_0 ?_
                                                replace h := Option.some.inj h; subst h
                                                have hR := hr18 _ rfl
                                                exact absurd (hR.trans hR1) (by decide)
                                            · replace h := ite_f g21 h
                                              by_cases g22 : ((xs x3.toNatClampNeg) &&& 31) = 20
                                              · replace h := ite_t g22 h
                                                refine v_tableIn (off := 929) (tgt := 962) C dL_law_33 (by rw [g22]; decide) (by rw [g22]; decide) (by rw [g22] <;> rfl) (by decide) ?_
                                                refine v_aload_nR (j := 1) C dL_law_962 rfl rfl ?_
                                                refine v_aload_nR (j := 0) C dL_law_963 rfl rfl ?_
                                                refine v_iload_n (j := 3) C dL_law_964 rfl rfl ?_
                                                refine v_iconst C dL_law_965 ct_i_1 ?_
                                                refine v_iadd C dL_law_966 ?_
                                                replace h := chk_some h; obtain ⟨g87, h⟩ := h
                                                refine v_sld C hX hbl (inB_vp g87) dL_law_967 ?_
                                                refine v_pc (pc' := 968) rfl ?_
                                                refine v_aload_nR (j := 0) C dL_law_968 rfl rfl ?_
                                                refine v_iload_n (j := 3) C dL_law_969 rfl rfl ?_
                                                refine v_iconst C dL_law_970 ct_i_2 ?_
                                                refine v_iadd C dL_law_971 ?_
                                                replace h := chk_some h; obtain ⟨g88, h⟩ := h
                                                refine v_sld C hX hbl (inB_vp g88) dL_law_972 ?_
                                                replace h := bind_ex h; obtain ⟨r89, hr89, h⟩ := h
                                                refine cv_I C tw_750 tw_103 tw_747 tw_748 tw_749 pd_X7_throwsFor (Nat.le_of_ble_eq_true rfl) (Nat.le_of_ble_eq_true rfl) (q := 0) (kd_lt ks_0 (by decide)) (sh7 ks_0) rfl (As := [.int (xs (x3 + 1).toNatClampNeg), .int (xs (x3 + 2).toNatClampNeg)]) (rest := []) rfl rfl (Nat.le_of_ble_eq_true rfl) (c_X7_throwsFor l D cA B aK aV M (xs (x3 + 1).toNatClampNeg) (xs (x3 + 2).toNatClampNeg) r89 hr89) dL_law_973 ?_
                                                refine v_aload_nR (j := 2) C dL_law_976 rfl rfl ?_
                                                refine v_pc (pc' := 977) rfl ?_
                                                refine v_aload_nR (j := 0) C dL_law_977 rfl rfl ?_
                                                refine v_iload_n (j := 3) C dL_law_978 rfl rfl ?_
                                                refine v_iconst C dL_law_979 ct_i_1 ?_
                                                refine v_iadd C dL_law_980 ?_
                                                replace h := chk_some h; obtain ⟨g90, h⟩ := h
                                                refine v_sld C hX hbl (inB_vp g90) dL_law_981 ?_
                                                refine v_aload_nR (j := 0) C dL_law_982 rfl rfl ?_
                                                refine v_iload_n (j := 3) C dL_law_983 rfl rfl ?_
                                                refine v_pc (pc' := 984) rfl ?_
                                                refine v_iconst C dL_law_984 ct_i_2 ?_
                                                refine v_iadd C dL_law_985 ?_
                                                replace h := chk_some h; obtain ⟨g91, h⟩ := h
                                                refine v_sld C hX hbl (inB_vp g91) dL_law_986 ?_
                                                replace h := bind_ex h; obtain ⟨r92, hr92, h⟩ := h
                                                refine cv_I C tw_1204 tw_111 tw_1201 tw_1202 tw_1203 pd_X8_throwsFor (Nat.le_of_ble_eq_true rfl) (Nat.le_of_ble_eq_true rfl) (q := 234) (kd_lt ks_234 (by decide)) (sh8 ks_234) rfl (As := [.int (xs (x3 + 1).toNatClampNeg), .int (xs (x3 + 2).toNatClampNeg)]) (rest := [.int r89.1]) rfl rfl (Nat.le_of_ble_eq_true rfl) (c_X8_throwsFor l D cA B aK aV r89.2 (xs (x3 + 1).toNatClampNeg) (xs (x3 + 2).toNatClampNeg) r92 hr92) dL_law_987 ?_
                                                refine v_icmp_eq (tgt := 1295) C dL_law_990 (by decide) (fun g => ?_) (fun g => ?_)
                                                · replace h := ite_t g h
                                                  refine v_iinc (j := 3) (L' := [(3, .int (x3 + 6)), (0, .ref b), (1, .ref (B + 0)), (2, .ref (B + 234))]) C dL_law_1295 rfl (congrArg (fun z => _ + z) ct_i_6) (by decide) rfl ?_
                                                  refine v_goto (tgt := 18) C dL_law_1298 (by decide) ?_
                                                  replace h := Option.some.inj h; subst h
                                                  refine v_sub [1, 2, 3, 0] rfl ?_
                                                  exact hc18 (x3 + 6, r92.2) rfl
                                                · replace h := ite_f g h
                                                  refine v_iconst C dL_law_993 ct_i_0 ?_
                                                  replace h := Option.some.inj h; subst h
                                                  have hR := hr18 _ rfl
                                                  exact absurd (hR.trans hR1) (by decide)
                                              · replace h := ite_f g22 h
                                                by_cases g23 : ((xs x3.toNatClampNeg) &&& 31) = 21
                                                · replace h := ite_t g23 h
                                                  refine v_tableIn (off := 962) (tgt := 995) C dL_law_33 (by rw [g23]; decide) (by rw [g23]; decide) (by rw [g23] <;> rfl) (by decide) ?_
                                                  refine v_aload_nR (j := 1) C dL_law_995 rfl rfl ?_
                                                  refine v_aload_nR (j := 0) C dL_law_996 rfl rfl ?_
                                                  refine v_iload_n (j := 3) C dL_law_997 rfl rfl ?_
                                                  refine v_iconst C dL_law_998 ct_i_1 ?_
                                                  refine v_iadd C dL_law_999 ?_
                                                  replace h := chk_some h; obtain ⟨g79, h⟩ := h
                                                  refine v_sld C hX hbl (inB_vp g79) dL_law_1000 ?_
                                                  refine v_pc (pc' := 1001) rfl ?_
                                                  refine v_aload_nR (j := 0) C dL_law_1001 rfl rfl ?_
                                                  refine v_iload_n (j := 3) C dL_law_1002 rfl rfl ?_
                                                  refine v_iconst C dL_law_1003 ct_i_2 ?_
                                                  refine v_iadd C dL_law_1004 ?_
                                                  replace h := chk_some h; obtain ⟨g80, h⟩ := h
                                                  refine v_sld C hX hbl (inB_vp g80) dL_law_1005 ?_
                                                  refine v_aload_nR (j := 0) C dL_law_1006 rfl rfl ?_
                                                  refine v_iload_n (j := 3) C dL_law_1007 rfl rfl ?_
                                                  refine v_pc (pc' := 1008) rfl ?_
                                                  refine v_iconst C dL_law_1008 ct_i_3 ?_
                                                  refine v_iadd C dL_law_1009 ?_
                                                  replace h := chk_some h; obtain ⟨g81, h⟩ := h
                                                  refine v_sld C hX hbl (inB_vp g81) dL_law_1010 ?_
                                                  replace h := bind_ex h; obtain ⟨r82, hr82, h⟩ := h
                                                  refine cv_I C tw_775 tw_103 tw_772 tw_773 tw_774 pd_X7_cool (Nat.le_of_ble_eq_true rfl) (Nat.le_of_ble_eq_true rfl) (q := 0) (kd_lt ks_0 (by decide)) (sh7 ks_0) rfl (As := [.int (xs (x3 + 1).toNatClampNeg), .int (xs (x3 + 2).toNatClampNeg), .int (xs (x3 + 3).toNatClampNeg)]) (rest := []) rfl rfl (Nat.le_of_ble_eq_true rfl) (c_X7_cool l D cA B aK aV M (xs (x3 + 1).toNatClampNeg) (xs (x3 + 2).toNatClampNeg) (xs (x3 + 3).toNatClampNeg) r82 hr82) dL_law_1011 ?_
                                                  refine v_aload_nR (j := 2) C dL_law_1014 rfl rfl ?_
                                                  refine v_aload_nR (j := 0) C dL_law_1015 rfl rfl ?_
                                                  refine v_iload_n (j := 3) C dL_law_1016 rfl rfl ?_
                                                  refine v_pc (pc' := 1017) rfl ?_
                                                  refine v_iconst C dL_law_1017 ct_i_1 ?_
                                                  refine v_iadd C dL_law_1018 ?_
                                                  replace h := chk_some h; obtain ⟨g83, h⟩ := h
                                                  refine v_sld C hX hbl (inB_vp g83) dL_law_1019 ?_
                                                  refine v_aload_nR (j := 0) C dL_law_1020 rfl rfl ?_
                                                  refine v_iload_n (j := 3) C dL_law_1021 rfl rfl ?_
                                                  refine v_iconst C dL_law_1022 ct_i_2 ?_
                                                  refine v_iadd C dL_law_1023 ?_
                                                  refine v_pc (pc' := 1024) rfl ?_
                                                  replace h := chk_some h; obtain ⟨g84, h⟩ := h
                                                  refine v_sld C hX hbl (inB_vp g84) dL_law_1024 ?_
                                                  refine v_aload_nR (j := 0) C dL_law_1025 rfl rfl ?_
                                                  refine v_iload_n (j := 3) C dL_law_1026 rfl rfl ?_
                                                  refine v_iconst C dL_law_1027 ct_i_3 ?_
                                                  refine v_iadd C dL_law_1028 ?_
                                                  replace h := chk_some h; obtain ⟨g85, h⟩ := h
                                                  refine v_sld C hX hbl (inB_vp g85) dL_law_1029 ?_
                                                  replace h := bind_ex h; obtain ⟨r86, hr86, h⟩ := h
                                                  refine cv_I C tw_1212 tw_111 tw_1209 tw_1210 tw_1211 pd_X8_cool (Nat.le_of_ble_eq_true rfl) (Nat.le_of_ble_eq_true rfl) (q := 234) (kd_lt ks_234 (by decide)) (sh8 ks_234) rfl (As := [.int (xs (x3 + 1).toNatClampNeg), .int (xs (x3 + 2).toNatClampNeg), .int (xs (x3 + 3).toNatClampNeg)]) (rest := [.int r82.1]) rfl rfl (Nat.le_of_ble_eq_true rfl) (c_X8_cool l D cA B aK aV r82.2 (xs (x3 + 1).toNatClampNeg) (xs (x3 + 2).toNatClampNeg) (xs (x3 + 3).toNatClampNeg) r86 hr86) dL_law_1030 ?_
                                                  refine v_pc (pc' := 1033) rfl ?_
                                                  refine v_icmp_eq (tgt := 1295) C dL_law_1033 (by decide) (fun g => ?_) (fun g => ?_)
                                                  · replace h := ite_t g h
                                                    refine v_iinc (j := 3) (L' := [(3, .int (x3 + 6)), (0, .ref b), (1, .ref (B + 0)), (2, .ref (B + 234))]) C dL_law_1295 rfl (congrArg (fun z => _ + z) ct_i_6) (by decide) rfl ?_
                                                    refine v_goto (tgt := 18) C dL_law_1298 (by decide) ?_
                                                    replace h := Option.some.inj h; subst h
                                                    refine v_sub [1, 2, 3, 0] rfl ?_
                                                    exact hc18 (x3 + 6, r86.2) rfl
                                                  · replace h := ite_f g h
                                                    refine v_iconst C dL_law_1036 ct_i_0 ?_
                                                    replace h := Option.some.inj h; subst h
                                                    have hR := hr18 _ rfl
                                                    exact absurd (hR.trans hR1) (by decide)
                                                · replace h := ite_f g23 h
                                                  by_cases g24 : ((xs x3.toNatClampNeg) &&& 31) = 22
                                                  · replace h := ite_t g24 h
                                                    refine v_tableIn (off := 1005) (tgt := 1038) C dL_law_33 (by rw [g24]; decide) (by rw [g24]; decide) (by rw [g24] <;> rfl) (by decide) ?_
                                                    refine v_aload_nR (j := 1) C dL_law_1038 rfl rfl ?_
                                                    refine v_aload_nR (j := 0) C dL_law_1039 rfl rfl ?_
                                                    refine v_iload_n (j := 3) C dL_law_1040 rfl rfl ?_
                                                    refine v_iconst C dL_law_1041 ct_i_1 ?_
                                                    refine v_iadd C dL_law_1042 ?_
                                                    replace h := chk_some h; obtain ⟨g67, h⟩ := h
                                                    refine v_sld C hX hbl (inB_vp g67) dL_law_1043 ?_
                                                    refine v_pc (pc' := 1044) rfl ?_
                                                    refine v_aload_nR (j := 0) C dL_law_1044 rfl rfl ?_
                                                    refine v_iload_n (j := 3) C dL_law_1045 rfl rfl ?_
                                                    refine v_iconst C dL_law_1046 ct_i_2 ?_
                                                    refine v_iadd C dL_law_1047 ?_
                                                    replace h := chk_some h; obtain ⟨g68, h⟩ := h
                                                    refine v_sld C hX hbl (inB_vp g68) dL_law_1048 ?_
                                                    refine v_aload_nR (j := 0) C dL_law_1049 rfl rfl ?_
                                                    refine v_iload_n (j := 3) C dL_law_1050 rfl rfl ?_
                                                    refine v_pc (pc' := 1051) rfl ?_
                                                    refine v_iconst C dL_law_1051 ct_i_3 ?_
                                                    refine v_iadd C dL_law_1052 ?_
                                                    replace h := chk_some h; obtain ⟨g69, h⟩ := h
                                                    refine v_sld C hX hbl (inB_vp g69) dL_law_1053 ?_
                                                    refine v_aload_nR (j := 0) C dL_law_1054 rfl rfl ?_
                                                    refine v_iload_n (j := 3) C dL_law_1055 rfl rfl ?_
                                                    refine v_iconst C dL_law_1056 ct_i_4 ?_
                                                    refine v_iadd C dL_law_1057 ?_
                                                    refine v_pc (pc' := 1058) rfl ?_
                                                    replace h := chk_some h; obtain ⟨g70, h⟩ := h
                                                    refine v_sld C hX hbl (inB_vp g70) dL_law_1058 ?_
                                                    refine v_aload_nR (j := 0) C dL_law_1059 rfl rfl ?_
                                                    refine v_iload_n (j := 3) C dL_law_1060 rfl rfl ?_
                                                    refine v_iconst C dL_law_1061 ct_i_5 ?_
                                                    refine v_iadd C dL_law_1062 ?_
                                                    replace h := chk_some h; obtain ⟨g71, h⟩ := h
                                                    refine v_sld C hX hbl (inB_vp g71) dL_law_1063 ?_
                                                    replace h := bind_ex h; obtain ⟨r72, hr72, h⟩ := h
                                                    refine cv_I C tw_779 tw_103 tw_776 tw_777 tw_778 pd_X7_stood (Nat.le_of_ble_eq_true rfl) (Nat.le_of_ble_eq_true rfl) (q := 0) (kd_lt ks_0 (by decide)) (sh7 ks_0) rfl (As := [.int (xs (x3 + 1).toNatClampNeg), .int (xs (x3 + 2).toNatClampNeg), .int (xs (x3 + 3).toNatClampNeg), .int (xs (x3 + 4).toNatClampNeg), .int (xs (x3 + 5).toNatClampNeg)]) (rest := []) rfl rfl (Nat.le_of_ble_eq_true rfl) (c_X7_stood l D cA B aK aV M (xs (x3 + 1).toNatClampNeg) (xs (x3 + 2).toNatClampNeg) (xs (x3 + 3).toNatClampNeg) (xs (x3 + 4).toNatClampNeg) (xs (x3 + 5).toNatClampNeg) r72 hr72) dL_law_1064 ?_
                                                    refine v_pc (pc' := 1067) rfl ?_
                                                    refine v_aload_nR (j := 2) C dL_law_1067 rfl rfl ?_
                                                    refine v_aload_nR (j := 0) C dL_law_1068 rfl rfl ?_
                                                    refine v_iload_n (j := 3) C dL_law_1069 rfl rfl ?_
                                                    refine v_iconst C dL_law_1070 ct_i_1 ?_
                                                    refine v_iadd C dL_law_1071 ?_
                                                    replace h := chk_some h; obtain ⟨g73, h⟩ := h
                                                    refine v_sld C hX hbl (inB_vp g73) dL_law_1072 ?_
                                                    refine v_aload_nR (j := 0) C dL_law_1073 rfl rfl ?_
                                                    refine v_pc (pc' := 1074) rfl ?_
                                                    refine v_iload_n (j := 3) C dL_law_1074 rfl rfl ?_
                                                    refine v_iconst C dL_law_1075 ct_i_2 ?_
                                                    refine v_iadd C dL_law_1076 ?_
                                                    replace h := chk_some h; obtain ⟨g74, h⟩ := h
                                                    refine v_sld C hX hbl (inB_vp g74) dL_law_1077 ?_
                                                    refine v_aload_nR (j := 0) C dL_law_1078 rfl rfl ?_
                                                    refine v_iload_n (j := 3) C dL_law_1079 rfl rfl ?_
                                                    refine v_iconst C dL_law_1080 ct_i_3 ?_
                                                    refine v_pc (pc' := 1081) rfl ?_
                                                    refine v_iadd C dL_law_1081 ?_
                                                    replace h := chk_some h; obtain ⟨g75, h⟩ := h
                                                    refine v_sld C hX hbl (inB_vp g75) dL_law_1082 ?_
                                                    refine v_aload_nR (j := 0) C dL_law_1083 rfl rfl ?_
                                                    refine v_iload_n (j := 3) C dL_law_1084 rfl rfl ?_
                                                    refine v_iconst C dL_law_1085 ct_i_4 ?_
                                                    refine v_iadd C dL_law_1086 ?_
                                                    replace h := chk_some h; obtain ⟨g76, h⟩ := h
                                                    refine v_sld C hX hbl (inB_vp g76) dL_law_1087 ?_
                                                    refine v_pc (pc' := 1088) rfl ?_
                                                    refine v_aload_nR (j := 0) C dL_law_1088 rfl rfl ?_
                                                    refine v_iload_n (j := 3) C dL_law_1089 rfl rfl ?_
                                                    refine v_iconst C dL_law_1090 ct_i_5 ?_
                                                    refine v_iadd C dL_law_1091 ?_
                                                    replace h := chk_some h; obtain ⟨g77, h⟩ := h
                                                    refine v_sld C hX hbl (inB_vp g77) dL_law_1092 ?_
                                                    replace h := bind_ex h; obtain ⟨r78, hr78, h⟩ := h
                                                    refine cv_I C tw_1216 tw_111 tw_1213 tw_1214 tw_1215 pd_X8_stood (Nat.le_of_ble_eq_true rfl) (Nat.le_of_ble_eq_true rfl) (q := 234) (kd_lt ks_234 (by decide)) (sh8 ks_234) rfl (As := [.int (xs (x3 + 1).toNatClampNeg), .int (xs (x3 + 2).toNatClampNeg), .int (xs (x3 + 3).toNatClampNeg), .int (xs (x3 + 4).toNatClampNeg), .int (xs (x3 + 5).toNatClampNeg)]) (rest := [.int r72.1]) rfl rfl (Nat.le_of_ble_eq_true rfl) (c_X8_stood l D cA B aK aV r72.2 (xs (x3 + 1).toNatClampNeg) (xs (x3 + 2).toNatClampNeg) (xs (x3 + 3).toNatClampNeg) (xs (x3 + 4).toNatClampNeg) (xs (x3 + 5).toNatClampNeg) r78 hr78) dL_law_1093 ?_
                                                    refine v_icmp_eq (tgt := 1295) C dL_law_1096 (by decide) (fun g => ?_) (fun g => ?_)
                                                    · replace h := ite_t g h
                                                      refine v_iinc (j := 3) (L' := [(3, .int (x3 + 6)), (0, .ref b), (1, .ref (B + 0)), (2, .ref (B + 234))]) C dL_law_1295 rfl (congrArg (fun z => _ + z) ct_i_6) (by decide) rfl ?_
                                                      refine v_goto (tgt := 18) C dL_law_1298 (by decide) ?_
                                                      replace h := Option.some.inj h; subst h
                                                      refine v_sub [1, 2, 3, 0] rfl ?_
                                                      exact hc18 (x3 + 6, r78.2) rfl
                                                    · replace h := ite_f g h
                                                      refine v_pc (pc' := 1099) rfl ?_
                                                      refine v_iconst C dL_law_1099 ct_i_0 ?_
                                                      replace h := Option.some.inj h; subst h
                                                      have hR := hr18 _ rfl
                                                      exact absurd (hR.trans hR1) (by decide)
                                                  · replace h := ite_f g24 h
                                                    by_cases g25 : ((xs x3.toNatClampNeg) &&& 31) = 23
                                                    · replace h := ite_t g25 h
                                                      refine v_tableIn (off := 1068) (tgt := 1101) C dL_law_33 (by rw [g25]; decide) (by rw [g25]; decide) (by rw [g25] <;> rfl) (by decide) ?_
                                                      refine v_aload_nR (j := 1) C dL_law_1101 rfl rfl ?_
                                                      refine v_aload_nR (j := 0) C dL_law_1102 rfl rfl ?_
                                                      refine v_iload_n (j := 3) C dL_law_1103 rfl rfl ?_
                                                      refine v_iconst C dL_law_1104 ct_i_1 ?_
                                                      refine v_iadd C dL_law_1105 ?_
                                                      replace h := chk_some h; obtain ⟨g63, h⟩ := h
                                                      refine v_sld C hX hbl (inB_vp g63) dL_law_1106 ?_
                                                      refine v_pc (pc' := 1107) rfl ?_
                                                      replace h := bind_ex h; obtain ⟨r64, hr64, h⟩ := h
                                                      refine cv_I C tw_796 tw_103 tw_793 tw_794 tw_795 pd_X7_image (Nat.le_of_ble_eq_true rfl) (Nat.le_of_ble_eq_true rfl) (q := 0) (kd_lt ks_0 (by decide)) (sh7 ks_0) rfl (As := [.int (xs (x3 + 1).toNatClampNeg)]) (rest := []) rfl rfl (Nat.le_of_ble_eq_true rfl) (c_X7_image l D cA B aK aV M (xs (x3 + 1).toNatClampNeg) r64 hr64) dL_law_1107 ?_
                                                      refine v_aload_nR (j := 2) C dL_law_1110 rfl rfl ?_
                                                      refine v_aload_nR (j := 0) C dL_law_1111 rfl rfl ?_
                                                      refine v_iload_n (j := 3) C dL_law_1112 rfl rfl ?_
                                                      refine v_iconst C dL_law_1113 ct_i_1 ?_
                                                      refine v_iadd C dL_law_1114 ?_
                                                      replace h := chk_some h; obtain ⟨g65, h⟩ := h
                                                      refine v_sld C hX hbl (inB_vp g65) dL_law_1115 ?_
                                                      refine v_pc (pc' := 1116) rfl ?_
                                                      replace h := bind_ex h; obtain ⟨r66, hr66, h⟩ := h
                                                      refine cv_I C tw_1220 tw_111 tw_1217 tw_1218 tw_1219 pd_X8_image (Nat.le_of_ble_eq_true rfl) (Nat.le_of_ble_eq_true rfl) (q := 234) (kd_lt ks_234 (by decide)) (sh8 ks_234) rfl (As := [.int (xs (x3 + 1).toNatClampNeg)]) (rest := [.int r64.1]) rfl rfl (Nat.le_of_ble_eq_true rfl) (c_X8_image l D cA B aK aV r64.2 (xs (x3 + 1).toNatClampNeg) r66 hr66) dL_law_1116 ?_
                                                      refine v_icmp_eq (tgt := 1295) C dL_law_1119 (by decide) (fun g => ?_) (fun g => ?_)
                                                      · replace h := ite_t g h
                                                        refine v_iinc (j := 3) (L' := [(3, .int (x3 + 6)), (0, .ref b), (1, .ref (B + 0)), (2, .ref (B + 234))]) C dL_law_1295 rfl (congrArg (fun z => _ + z) ct_i_6) (by decide) rfl ?_
                                                        refine v_goto (tgt := 18) C dL_law_1298 (by decide) ?_
                                                        replace h := Option.some.inj h; subst h
                                                        refine v_sub [1, 2, 3, 0] rfl ?_
                                                        exact hc18 (x3 + 6, r66.2) rfl
                                                      · replace h := ite_f g h
                                                        refine v_iconst C dL_law_1122 ct_i_0 ?_
                                                        replace h := Option.some.inj h; subst h
                                                        have hR := hr18 _ rfl
                                                        exact absurd (hR.trans hR1) (by decide)
                                                    · replace h := ite_f g25 h
                                                      by_cases g26 : ((xs x3.toNatClampNeg) &&& 31) = 24
                                                      · replace h := ite_t g26 h
                                                        refine v_tableIn (off := 1091) (tgt := 1124) C dL_law_33 (by rw [g26]; decide) (by rw [g26]; decide) (by rw [g26] <;> rfl) (by decide) ?_
                                                        refine v_aload_nR (j := 1) C dL_law_1124 rfl rfl ?_
                                                        refine v_aload_nR (j := 0) C dL_law_1125 rfl rfl ?_
                                                        refine v_iload_n (j := 3) C dL_law_1126 rfl rfl ?_
                                                        refine v_iconst C dL_law_1127 ct_i_1 ?_
                                                        refine v_iadd C dL_law_1128 ?_
                                                        replace h := chk_some h; obtain ⟨g59, h⟩ := h
                                                        refine v_sld C hX hbl (inB_vp g59) dL_law_1129 ?_
                                                        refine v_pc (pc' := 1130) rfl ?_
                                                        replace h := bind_ex h; obtain ⟨r60, hr60, h⟩ := h
                                                        refine cv_I C tw_804 tw_103 tw_801 tw_802 tw_803 pd_X7_restore (Nat.le_of_ble_eq_true rfl) (Nat.le_of_ble_eq_true rfl) (q := 0) (kd_lt ks_0 (by decide)) (sh7 ks_0) rfl (As := [.int (xs (x3 + 1).toNatClampNeg)]) (rest := []) rfl rfl (Nat.le_of_ble_eq_true rfl) (c_X7_restore l D cA B aK aV M (xs (x3 + 1).toNatClampNeg) r60 hr60) dL_law_1130 ?_
                                                        refine v_aload_nR (j := 2) C dL_law_1133 rfl rfl ?_
                                                        refine v_aload_nR (j := 0) C dL_law_1134 rfl rfl ?_
                                                        refine v_iload_n (j := 3) C dL_law_1135 rfl rfl ?_
                                                        refine v_iconst C dL_law_1136 ct_i_1 ?_
                                                        refine v_iadd C dL_law_1137 ?_
                                                        replace h := chk_some h; obtain ⟨g61, h⟩ := h
                                                        refine v_sld C hX hbl (inB_vp g61) dL_law_1138 ?_
                                                        refine v_pc (pc' := 1139) rfl ?_
                                                        replace h := bind_ex h; obtain ⟨r62, hr62, h⟩ := h
                                                        refine cv_I C tw_1224 tw_111 tw_1221 tw_1222 tw_1223 pd_X8_restore (Nat.le_of_ble_eq_true rfl) (Nat.le_of_ble_eq_true rfl) (q := 234) (kd_lt ks_234 (by decide)) (sh8 ks_234) rfl (As := [.int (xs (x3 + 1).toNatClampNeg)]) (rest := [.int r60.1]) rfl rfl (Nat.le_of_ble_eq_true rfl) (c_X8_restore l D cA B aK aV r60.2 (xs (x3 + 1).toNatClampNeg) r62 hr62) dL_law_1139 ?_
                                                        refine v_icmp_eq (tgt := 1295) C dL_law_1142 (by decide) (fun g => ?_) (fun g => ?_)
                                                        · replace h := ite_t g h
                                                          refine v_iinc (j := 3) (L' := [(3, .int (x3 + 6)), (0, .ref b), (1, .ref (B + 0)), (2, .ref (B + 234))]) C dL_law_1295 rfl (congrArg (fun z => _ + z) ct_i_6) (by decide) rfl ?_
                                                          refine v_goto (tgt := 18) C dL_law_1298 (by decide) ?_
                                                          replace h := Option.some.inj h; subst h
                                                          refine v_sub [1, 2, 3, 0] rfl ?_
                                                          exact hc18 (x3 + 6, r62.2) rfl
                                                        · replace h := ite_f g h
                                                          refine v_iconst C dL_law_1145 ct_i_0 ?_
                                                          replace h := Option.some.inj h; subst h
                                                          have hR := hr18 _ rfl
                                                          exact absurd (hR.trans hR1) (by decide)
                                                      · replace h := ite_f g26 h
                                                        by_cases g27 : ((xs x3.toNatClampNeg) &&& 31) = 25
                                                        · replace h := ite_t g27 h
                                                          refine v_tableIn (off := 1114) (tgt := 1147) C dL_law_33 (by rw [g27]; decide) (by rw [g27]; decide) (by rw [g27] <;> rfl) (by decide) ?_
                                                          refine v_aload_nR (j := 1) C dL_law_1147 rfl rfl ?_
                                                          refine v_aload_nR (j := 0) C dL_law_1148 rfl rfl ?_
                                                          refine v_iload_n (j := 3) C dL_law_1149 rfl rfl ?_
                                                          refine v_iconst C dL_law_1150 ct_i_1 ?_
                                                          refine v_iadd C dL_law_1151 ?_
                                                          replace h := chk_some h; obtain ⟨g55, h⟩ := h
                                                          refine v_sld C hX hbl (inB_vp g55) dL_law_1152 ?_
                                                          refine v_pc (pc' := 1153) rfl ?_
                                                          replace h := bind_ex h; obtain ⟨r56, hr56, h⟩ := h
                                                          refine cv_I C tw_808 tw_103 tw_805 tw_806 tw_807 pd_X7_kind (Nat.le_of_ble_eq_true rfl) (Nat.le_of_ble_eq_true rfl) (q := 0) (kd_lt ks_0 (by decide)) (sh7 ks_0) rfl (As := [.int (xs (x3 + 1).toNatClampNeg)]) (rest := []) rfl rfl (Nat.le_of_ble_eq_true rfl) (c_X7_kind l D cA B aK aV M (xs (x3 + 1).toNatClampNeg) r56 hr56) dL_law_1153 ?_
                                                          refine v_aload_nR (j := 2) C dL_law_1156 rfl rfl ?_
                                                          refine v_aload_nR (j := 0) C dL_law_1157 rfl rfl ?_
                                                          refine v_iload_n (j := 3) C dL_law_1158 rfl rfl ?_
                                                          refine v_iconst C dL_law_1159 ct_i_1 ?_
                                                          refine v_iadd C dL_law_1160 ?_
                                                          replace h := chk_some h; obtain ⟨g57, h⟩ := h
                                                          refine v_sld C hX hbl (inB_vp g57) dL_law_1161 ?_
                                                          refine v_pc (pc' := 1162) rfl ?_
                                                          replace h := bind_ex h; obtain ⟨r58, hr58, h⟩ := h
                                                          refine cv_I C tw_1228 tw_111 tw_1225 tw_1226 tw_1227 pd_X8_kind (Nat.le_of_ble_eq_true rfl) (Nat.le_of_ble_eq_true rfl) (q := 234) (kd_lt ks_234 (by decide)) (sh8 ks_234) rfl (As := [.int (xs (x3 + 1).toNatClampNeg)]) (rest := [.int r56]) rfl rfl (Nat.le_of_ble_eq_true rfl) (c_X8_kind l D cA B aK aV M (xs (x3 + 1).toNatClampNeg) r58 hr58) dL_law_1162 ?_
                                                          refine v_icmp_eq (tgt := 1295) C dL_law_1165 (by decide) (fun g => ?_) (fun g => ?_)
                                                          · replace h := ite_t g h
                                                            refine v_iinc (j := 3) (L' := [(3, .int (x3 + 6)), (0, .ref b), (1, .ref (B + 0)), (2, .ref (B + 234))]) C dL_law_1295 rfl (congrArg (fun z => _ + z) ct_i_6) (by decide) rfl ?_
                                                            refine v_goto (tgt := 18) C dL_law_1298 (by decide) ?_
                                                            replace h := Option.some.inj h; subst h
                                                            refine v_sub [1, 2, 3, 0] rfl ?_
                                                            exact hc18 (x3 + 6, M) rfl
                                                          · replace h := ite_f g h
                                                            refine v_iconst C dL_law_1168 ct_i_0 ?_
                                                            replace h := Option.some.inj h; subst h
                                                            have hR := hr18 _ rfl
                                                            exact absurd (hR.trans hR1) (by decide)
                                                        · replace h := ite_f g27 h
                                                          by_cases g28 : ((xs x3.toNatClampNeg) &&& 31) = 26
                                                          · replace h := ite_t g28 h
                                                            refine v_tableIn (off := 1137) (tgt := 1170) C dL_law_33 (by rw [g28]; decide) (by rw [g28]; decide) (by rw [g28] <;> rfl) (by decide) ?_
                                                            refine v_aload_nR (j := 1) C dL_law_1170 rfl rfl ?_
                                                            refine v_aload_nR (j := 0) C dL_law_1171 rfl rfl ?_
                                                            refine v_iload_n (j := 3) C dL_law_1172 rfl rfl ?_
                                                            refine v_iconst C dL_law_1173 ct_i_1 ?_
                                                            refine v_iadd C dL_law_1174 ?_
                                                            replace h := chk_some h; obtain ⟨g49, h⟩ := h
                                                            refine v_sld C hX hbl (inB_vp g49) dL_law_1175 ?_
                                                            refine v_pc (pc' := 1176) rfl ?_
                                                            refine v_aload_nR (j := 0) C dL_law_1176 rfl rfl ?_
                                                            refine v_iload_n (j := 3) C dL_law_1177 rfl rfl ?_
                                                            refine v_iconst C dL_law_1178 ct_i_2 ?_
                                                            refine v_iadd C dL_law_1179 ?_
                                                            replace h := chk_some h; obtain ⟨g50, h⟩ := h
                                                            refine v_sld C hX hbl (inB_vp g50) dL_law_1180 ?_
                                                            replace h := bind_ex h; obtain ⟨r51, hr51, h⟩ := h
                                                            refine cv_I C tw_812 tw_103 tw_809 tw_810 tw_811 pd_X7_as (Nat.le_of_ble_eq_true rfl) (Nat.le_of_ble_eq_true rfl) (q := 0) (kd_lt ks_0 (by decide)) (sh7 ks_0) rfl (As := [.int (xs (x3 + 1).toNatClampNeg), .int (xs (x3 + 2).toNatClampNeg)]) (rest := []) rfl rfl (Nat.le_of_ble_eq_true rfl) (c_X7_as l D cA B aK aV M (xs (x3 + 1).toNatClampNeg) (xs (x3 + 2).toNatClampNeg) r51 hr51) dL_law_1181 ?_
                                                            refine v_aload_nR (j := 2) C dL_law_1184 rfl rfl ?_
                                                            refine v_pc (pc' := 1185) rfl ?_
                                                            refine v_aload_nR (j := 0) C dL_law_1185 rfl rfl ?_
                                                            refine v_iload_n (j := 3) C dL_law_1186 rfl rfl ?_
                                                            refine v_iconst C dL_law_1187 ct_i_1 ?_
                                                            refine v_iadd C dL_law_1188 ?_
                                                            replace h := chk_some h; obtain ⟨g52, h⟩ := h
                                                            refine v_sld C hX hbl (inB_vp g52) dL_law_1189 ?_
                                                            refine v_aload_nR (j := 0) C dL_law_1190 rfl rfl ?_
                                                            refine v_iload_n (j := 3) C dL_law_1191 rfl rfl ?_
                                                            refine v_pc (pc' := 1192) rfl ?_
                                                            refine v_iconst C dL_law_1192 ct_i_2 ?_
                                                            refine v_iadd C dL_law_1193 ?_
                                                            replace h := chk_some h; obtain ⟨g53, h⟩ := h
                                                            refine v_sld C hX hbl (inB_vp g53) dL_law_1194 ?_
                                                            replace h := bind_ex h; obtain ⟨r54, hr54, h⟩ := h
                                                            refine cv_I C tw_1232 tw_111 tw_1229 tw_1230 tw_1231 pd_X8_as (Nat.le_of_ble_eq_true rfl) (Nat.le_of_ble_eq_true rfl) (q := 234) (kd_lt ks_234 (by decide)) (sh8 ks_234) rfl (As := [.int (xs (x3 + 1).toNatClampNeg), .int (xs (x3 + 2).toNatClampNeg)]) (rest := [.int r51.1]) rfl rfl (Nat.le_of_ble_eq_true rfl) (c_X8_as l D cA B aK aV r51.2 (xs (x3 + 1).toNatClampNeg) (xs (x3 + 2).toNatClampNeg) r54 hr54) dL_law_1195 ?_
                                                            refine v_icmp_eq (tgt := 1295) C dL_law_1198 (by decide) (fun g => ?_) (fun g => ?_)
                                                            · replace h := ite_t g h
                                                              refine v_iinc (j := 3) (L' := [(3, .int (x3 + 6)), (0, .ref b), (1, .ref (B + 0)), (2, .ref (B + 234))]) C dL_law_1295 rfl (congrArg (fun z => _ + z) ct_i_6) (by decide) rfl ?_
                                                              refine v_goto (tgt := 18) C dL_law_1298 (by decide) ?_
                                                              replace h := Option.some.inj h; subst h
                                                              refine v_sub [1, 2, 3, 0] rfl ?_
                                                              exact hc18 (x3 + 6, r54.2) rfl
                                                            · replace h := ite_f g h
                                                              refine v_iconst C dL_law_1201 ct_i_0 ?_
                                                              replace h := Option.some.inj h; subst h
                                                              have hR := hr18 _ rfl
                                                              exact absurd (hR.trans hR1) (by decide)
                                                          · replace h := ite_f g28 h
                                                            by_cases g29 : ((xs x3.toNatClampNeg) &&& 31) = 27
                                                            · replace h := ite_t g29 h
                                                              refine v_tableIn (off := 1170) (tgt := 1203) C dL_law_33 (by rw [g29]; decide) (by rw [g29]; decide) (by rw [g29] <;> rfl) (by decide) ?_
                                                              refine v_aload_nR (j := 1) C dL_law_1203 rfl rfl ?_
                                                              refine v_aload_nR (j := 0) C dL_law_1204 rfl rfl ?_
                                                              refine v_iload_n (j := 3) C dL_law_1205 rfl rfl ?_
                                                              refine v_iconst C dL_law_1206 ct_i_1 ?_
                                                              refine v_iadd C dL_law_1207 ?_
                                                              replace h := chk_some h; obtain ⟨g43, h⟩ := h
                                                              refine v_sld C hX hbl (inB_vp g43) dL_law_1208 ?_
                                                              refine v_pc (pc' := 1209) rfl ?_
                                                              refine v_aload_nR (j := 0) C dL_law_1209 rfl rfl ?_
                                                              refine v_iload_n (j := 3) C dL_law_1210 rfl rfl ?_
                                                              refine v_iconst C dL_law_1211 ct_i_2 ?_
                                                              refine v_iadd C dL_law_1212 ?_
                                                              replace h := chk_some h; obtain ⟨g44, h⟩ := h
                                                              refine v_sld C hX hbl (inB_vp g44) dL_law_1213 ?_
                                                              replace h := bind_ex h; obtain ⟨r45, hr45, h⟩ := h
                                                              refine cv_I C tw_820 tw_103 tw_817 tw_818 tw_819 pd_X7_ask (Nat.le_of_ble_eq_true rfl) (Nat.le_of_ble_eq_true rfl) (q := 0) (kd_lt ks_0 (by decide)) (sh7 ks_0) rfl (As := [.int (xs (x3 + 1).toNatClampNeg), .int (xs (x3 + 2).toNatClampNeg)]) (rest := []) rfl rfl (Nat.le_of_ble_eq_true rfl) (c_X7_ask l D cA B aK aV M (xs (x3 + 1).toNatClampNeg) (xs (x3 + 2).toNatClampNeg) r45 hr45) dL_law_1214 ?_
                                                              refine v_aload_nR (j := 2) C dL_law_1217 rfl rfl ?_
                                                              refine v_pc (pc' := 1218) rfl ?_
                                                              refine v_aload_nR (j := 0) C dL_law_1218 rfl rfl ?_
                                                              refine v_iload_n (j := 3) C dL_law_1219 rfl rfl ?_
                                                              refine v_iconst C dL_law_1220 ct_i_1 ?_
                                                              refine v_iadd C dL_law_1221 ?_
                                                              replace h := chk_some h; obtain ⟨g46, h⟩ := h
                                                              refine v_sld C hX hbl (inB_vp g46) dL_law_1222 ?_
                                                              refine v_aload_nR (j := 0) C dL_law_1223 rfl rfl ?_
                                                              refine v_iload_n (j := 3) C dL_law_1224 rfl rfl ?_
                                                              refine v_pc (pc' := 1225) rfl ?_
                                                              refine v_iconst C dL_law_1225 ct_i_2 ?_
                                                              refine v_iadd C dL_law_1226 ?_
                                                              replace h := chk_some h; obtain ⟨g47, h⟩ := h
                                                              refine v_sld C hX hbl (inB_vp g47) dL_law_1227 ?_
                                                              replace h := bind_ex h; obtain ⟨r48, hr48, h⟩ := h
                                                              refine cv_I C tw_1239 tw_111 tw_1236 tw_1237 tw_1238 pd_X8_ask (Nat.le_of_ble_eq_true rfl) (Nat.le_of_ble_eq_true rfl) (q := 234) (kd_lt ks_234 (by decide)) (sh8 ks_234) rfl (As := [.int (xs (x3 + 1).toNatClampNeg), .int (xs (x3 + 2).toNatClampNeg)]) (rest := [.int r45.1]) rfl rfl (Nat.le_of_ble_eq_true rfl) (c_X8_ask l D cA B aK aV r45.2 (xs (x3 + 1).toNatClampNeg) (xs (x3 + 2).toNatClampNeg) r48 hr48) dL_law_1228 ?_
                                                              refine v_icmp_eq (tgt := 1295) C dL_law_1231 (by decide) (fun g => ?_) (fun g => ?_)
                                                              · replace h := ite_t g h
                                                                refine v_iinc (j := 3) (L' := [(3, .int (x3 + 6)), (0, .ref b), (1, .ref (B + 0)), (2, .ref (B + 234))]) C dL_law_1295 rfl (congrArg (fun z => _ + z) ct_i_6) (by decide) rfl ?_
                                                                refine v_goto (tgt := 18) C dL_law_1298 (by decide) ?_
                                                                replace h := Option.some.inj h; subst h
                                                                refine v_sub [1, 2, 3, 0] rfl ?_
                                                                exact hc18 (x3 + 6, r48.2) rfl
                                                              · replace h := ite_f g h
                                                                refine v_iconst C dL_law_1234 ct_i_0 ?_
                                                                replace h := Option.some.inj h; subst h
                                                                have hR := hr18 _ rfl
                                                                exact absurd (hR.trans hR1) (by decide)
                                                            · replace h := ite_f g29 h
                                                              by_cases g30 : ((xs x3.toNatClampNeg) &&& 31) = 28
                                                              · replace h := ite_t g30 h
                                                                refine v_tableIn (off := 1203) (tgt := 1236) C dL_law_33 (by rw [g30]; decide) (by rw [g30]; decide) (by rw [g30] <;> rfl) (by decide) ?_
                                                                refine v_aload_nR (j := 1) C dL_law_1236 rfl rfl ?_
                                                                refine v_aload_nR (j := 0) C dL_law_1237 rfl rfl ?_
                                                                refine v_iload_n (j := 3) C dL_law_1238 rfl rfl ?_
                                                                refine v_iconst C dL_law_1239 ct_i_1 ?_
                                                                refine v_iadd C dL_law_1240 ?_
                                                                replace h := chk_some h; obtain ⟨g39, h⟩ := h
                                                                refine v_sld C hX hbl (inB_vp g39) dL_law_1241 ?_
                                                                refine v_pc (pc' := 1242) rfl ?_
                                                                replace h := bind_ex h; obtain ⟨r40, hr40, h⟩ := h
                                                                refine cv_I C tw_864 tw_103 tw_861 tw_862 tw_863 pd_X7_trace (Nat.le_of_ble_eq_true rfl) (Nat.le_of_ble_eq_true rfl) (q := 0) (kd_lt ks_0 (by decide)) (sh7 ks_0) rfl (As := [.int (xs (x3 + 1).toNatClampNeg)]) (rest := []) rfl rfl (Nat.le_of_ble_eq_true rfl) (c_X7_trace l D cA B aK aV M (xs (x3 + 1).toNatClampNeg) r40 hr40) dL_law_1242 ?_
                                                                refine v_aload_nR (j := 2) C dL_law_1245 rfl rfl ?_
                                                                refine v_aload_nR (j := 0) C dL_law_1246 rfl rfl ?_
                                                                refine v_iload_n (j := 3) C dL_law_1247 rfl rfl ?_
                                                                refine v_iconst C dL_law_1248 ct_i_1 ?_
                                                                refine v_iadd C dL_law_1249 ?_
                                                                replace h := chk_some h; obtain ⟨g41, h⟩ := h
                                                                refine v_sld C hX hbl (inB_vp g41) dL_law_1250 ?_
                                                                refine v_pc (pc' := 1251) rfl ?_
                                                                replace h := bind_ex h; obtain ⟨r42, hr42, h⟩ := h
                                                                refine cv_I C tw_1263 tw_111 tw_1260 tw_1261 tw_1262 pd_X8_trace (Nat.le_of_ble_eq_true rfl) (Nat.le_of_ble_eq_true rfl) (q := 234) (kd_lt ks_234 (by decide)) (sh8 ks_234) rfl (As := [.int (xs (x3 + 1).toNatClampNeg)]) (rest := [.int r40]) rfl rfl (Nat.le_of_ble_eq_true rfl) (c_X8_trace l D cA B aK aV M (xs (x3 + 1).toNatClampNeg) r42 hr42) dL_law_1251 ?_
                                                                refine v_icmp_eq (tgt := 1295) C dL_law_1254 (by decide) (fun g => ?_) (fun g => ?_)
                                                                · replace h := ite_t g h
                                                                  refine v_iinc (j := 3) (L' := [(3, .int (x3 + 6)), (0, .ref b), (1, .ref (B + 0)), (2, .ref (B + 234))]) C dL_law_1295 rfl (congrArg (fun z => _ + z) ct_i_6) (by decide) rfl ?_
                                                                  refine v_goto (tgt := 18) C dL_law_1298 (by decide) ?_
                                                                  replace h := Option.some.inj h; subst h
                                                                  refine v_sub [1, 2, 3, 0] rfl ?_
                                                                  exact hc18 (x3 + 6, M) rfl
                                                                · replace h := ite_f g h
                                                                  refine v_iconst C dL_law_1257 ct_i_0 ?_
                                                                  replace h := Option.some.inj h; subst h
                                                                  have hR := hr18 _ rfl
                                                                  exact absurd (hR.trans hR1) (by decide)
                                                              · replace h := ite_f g30 h
                                                                by_cases g31 : ((xs x3.toNatClampNeg) &&& 31) = 29
                                                                · replace h := ite_t g31 h
                                                                  refine v_tableIn (off := 1226) (tgt := 1259) C dL_law_33 (by rw [g31]; decide) (by rw [g31]; decide) (by rw [g31] <;> rfl) (by decide) ?_
                                                                  refine v_aload_nR (j := 1) C dL_law_1259 rfl rfl ?_
                                                                  refine v_aload_nR (j := 0) C dL_law_1260 rfl rfl ?_
                                                                  refine v_iload_n (j := 3) C dL_law_1261 rfl rfl ?_
                                                                  refine v_iconst C dL_law_1262 ct_i_1 ?_
                                                                  refine v_iadd C dL_law_1263 ?_
                                                                  replace h := chk_some h; obtain ⟨g35, h⟩ := h
                                                                  refine v_sld C hX hbl (inB_vp g35) dL_law_1264 ?_
                                                                  refine v_pc (pc' := 1265) rfl ?_
                                                                  replace h := bind_ex h; obtain ⟨r36, hr36, h⟩ := h
                                                                  refine cv_I C tw_873 tw_103 tw_870 tw_871 tw_872 pd_X7_count (Nat.le_of_ble_eq_true rfl) (Nat.le_of_ble_eq_true rfl) (q := 0) (kd_lt ks_0 (by decide)) (sh7 ks_0) rfl (As := [.int (xs (x3 + 1).toNatClampNeg)]) (rest := []) rfl rfl (Nat.le_of_ble_eq_true rfl) (c_X7_count l D cA B aK aV M (xs (x3 + 1).toNatClampNeg) r36 hr36) dL_law_1265 ?_
                                                                  refine v_aload_nR (j := 2) C dL_law_1268 rfl rfl ?_
                                                                  refine v_aload_nR (j := 0) C dL_law_1269 rfl rfl ?_
                                                                  refine v_iload_n (j := 3) C dL_law_1270 rfl rfl ?_
                                                                  refine v_iconst C dL_law_1271 ct_i_1 ?_
                                                                  refine v_iadd C dL_law_1272 ?_
                                                                  replace h := chk_some h; obtain ⟨g37, h⟩ := h
                                                                  refine v_sld C hX hbl (inB_vp g37) dL_law_1273 ?_
                                                                  refine v_pc (pc' := 1274) rfl ?_
                                                                  replace h := bind_ex h; obtain ⟨r38, hr38, h⟩ := h
                                                                  refine cv_I C tw_1267 tw_111 tw_1264 tw_1265 tw_1266 pd_X8_count (Nat.le_of_ble_eq_true rfl) (Nat.le_of_ble_eq_true rfl) (q := 234) (kd_lt ks_234 (by decide)) (sh8 ks_234) rfl (As := [.int (xs (x3 + 1).toNatClampNeg)]) (rest := [.int r36]) rfl rfl (Nat.le_of_ble_eq_true rfl) (c_X8_count l D cA B aK aV M (xs (x3 + 1).toNatClampNeg) r38 hr38) dL_law_1274 ?_
                                                                  refine v_icmp_eq (tgt := 1295) C dL_law_1277 (by decide) (fun g => ?_) (fun g => ?_)
                                                                  · replace h := ite_t g h
                                                                    refine v_iinc (j := 3) (L' := [(3, .int (x3 + 6)), (0, .ref b), (1, .ref (B + 0)), (2, .ref (B + 234))]) C dL_law_1295 rfl (congrArg (fun z => _ + z) ct_i_6) (by decide) rfl ?_
                                                                    refine v_goto (tgt := 18) C dL_law_1298 (by decide) ?_
                                                                    replace h := Option.some.inj h; subst h
                                                                    refine v_sub [1, 2, 3, 0] rfl ?_
                                                                    exact hc18 (x3 + 6, M) rfl
                                                                  · replace h := ite_f g h
                                                                    refine v_iconst C dL_law_1280 ct_i_0 ?_
                                                                    replace h := Option.some.inj h; subst h
                                                                    have hR := hr18 _ rfl
                                                                    exact absurd (hR.trans hR1) (by decide)
                                                                · replace h := ite_f g31 h
                                                                  by_cases g32 : ((xs x3.toNatClampNeg) &&& 31) = 30
                                                                  · replace h := ite_t g32 h
                                                                    refine v_tableIn (off := 1249) (tgt := 1282) C dL_law_33 (by rw [g32]; decide) (by rw [g32]; decide) (by rw [g32] <;> rfl) (by decide) ?_
                                                                    refine v_aload_nR (j := 1) C dL_law_1282 rfl rfl ?_
                                                                    replace h := bind_ex h; obtain ⟨r33, hr33, h⟩ := h
                                                                    refine cv_I C tw_885 tw_103 tw_882 tw_883 tw_884 pd_X7_status (Nat.le_of_ble_eq_true rfl) (Nat.le_of_ble_eq_true rfl) (q := 0) (kd_lt ks_0 (by decide)) (sh7 ks_0) rfl (As := []) (rest := []) rfl rfl (Nat.le_of_ble_eq_true rfl) (c_X7_status l D cA B aK aV M r33 hr33) dL_law_1283 ?_
                                                                    refine v_aload_nR (j := 2) C dL_law_1286 rfl rfl ?_
                                                                    replace h := bind_ex h; obtain ⟨r34, hr34, h⟩ := h
                                                                    refine cv_I C tw_1271 tw_111 tw_1268 tw_1269 tw_1270 pd_X8_status (Nat.le_of_ble_eq_true rfl) (Nat.le_of_ble_eq_true rfl) (q := 234) (kd_lt ks_234 (by decide)) (sh8 ks_234) rfl (As := []) (rest := [.int r33]) rfl rfl (Nat.le_of_ble_eq_true rfl) (c_X8_status l D cA B aK aV M r34 hr34) dL_law_1287 ?_
                                                                    refine v_icmp_eq (tgt := 1295) C dL_law_1290 (by decide) (fun g => ?_) (fun g => ?_)
                                                                    · replace h := ite_t g h
                                                                      refine v_iinc (j := 3) (L' := [(3, .int (x3 + 6)), (0, .ref b), (1, .ref (B + 0)), (2, .ref (B + 234))]) C dL_law_1295 rfl (congrArg (fun z => _ + z) ct_i_6) (by decide) rfl ?_
                                                                      refine v_goto (tgt := 18) C dL_law_1298 (by decide) ?_
                                                                      replace h := Option.some.inj h; subst h
                                                                      refine v_sub [1, 2, 3, 0] rfl ?_
                                                                      exact hc18 (x3 + 6, M) rfl
                                                                    · replace h := ite_f g h
                                                                      refine v_iconst C dL_law_1293 ct_i_0 ?_
                                                                      refine v_pc (pc' := 1294) rfl ?_
                                                                      replace h := Option.some.inj h; subst h
                                                                      have hR := hr18 _ rfl
                                                                      exact absurd (hR.trans hR1) (by decide)
                                                                  · replace h := ite_f g32 h
                                                                    refine v_tableOut (tgt := 1295) C dL_law_33 (by have t0 := sw_ne (k := 0) g2; have t1 := sw_ne (k := 1) g3; have t2 := sw_ne (k := 2) g4; have t3 := sw_ne (k := 3) g5; have t4 := sw_ne (k := 4) g6; have t5 := sw_ne (k := 5) g7; have t6 := sw_ne (k := 6) g8; have t7 := sw_ne (k := 7) g9; have t8 := sw_ne (k := 8) g10; have t9 := sw_ne (k := 9) g11; have t10 := sw_ne (k := 10) g12; have t11 := sw_ne (k := 11) g13; have t12 := sw_ne (k := 12) g14; have t13 := sw_ne (k := 13) g15; have t14 := sw_ne (k := 14) g16; have t15 := sw_ne (k := 15) g17; have t16 := sw_ne (k := 16) g18; have t17 := sw_ne (k := 17) g19; have t18 := sw_ne (k := 18) g20; have t19 := sw_ne (k := 19) g21; have t20 := sw_ne (k := 20) g22; have t21 := sw_ne (k := 21) g23; have t22 := sw_ne (k := 22) g24; have t23 := sw_ne (k := 23) g25; have t24 := sw_ne (k := 24) g26; have t25 := sw_ne (k := 25) g27; have t26 := sw_ne (k := 26) g28; have t27 := sw_ne (k := 27) g29; have t28 := sw_ne (k := 28) g30; have t29 := sw_ne (k := 29) g31; have t30 := sw_ne (k := 30) g32; have u0 : (0 : Int32).toInt = 0 := (by decide); have u1 : (1 : Int32).toInt = 1 := (by decide); have u2 : (2 : Int32).toInt = 2 := (by decide); have u3 : (3 : Int32).toInt = 3 := (by decide); have u4 : (4 : Int32).toInt = 4 := (by decide); have u5 : (5 : Int32).toInt = 5 := (by decide); have u6 : (6 : Int32).toInt = 6 := (by decide); have u7 : (7 : Int32).toInt = 7 := (by decide); have u8 : (8 : Int32).toInt = 8 := (by decide); have u9 : (9 : Int32).toInt = 9 := (by decide); have u10 : (10 : Int32).toInt = 10 := (by decide); have u11 : (11 : Int32).toInt = 11 := (by decide); have u12 : (12 : Int32).toInt = 12 := (by decide); have u13 : (13 : Int32).toInt = 13 := (by decide); have u14 : (14 : Int32).toInt = 14 := (by decide); have u15 : (15 : Int32).toInt = 15 := (by decide); have u16 : (16 : Int32).toInt = 16 := (by decide); have u17 : (17 : Int32).toInt = 17 := (by decide); have u18 : (18 : Int32).toInt = 18 := (by decide); have u19 : (19 : Int32).toInt = 19 := (by decide); have u20 : (20 : Int32).toInt = 20 := (by decide); have u21 : (21 : Int32).toInt = 21 := (by decide); have u22 : (22 : Int32).toInt = 22 := (by decide); have u23 : (23 : Int32).toInt = 23 := (by decide); have u24 : (24 : Int32).toInt = 24 := (by decide); have u25 : (25 : Int32).toInt = 25 := (by decide); have u26 : (26 : Int32).toInt = 26 := (by decide); have u27 : (27 : Int32).toInt = 27 := (by decide); have u28 : (28 : Int32).toInt = 28 := (by decide); have u29 : (29 : Int32).toInt = 29 := (by decide); have u30 : (30 : Int32).toInt = 30 := (by decide); omega) (by decide) ?_
                                                                    refine v_iinc (j := 3) (L' := [(3, .int (x3 + 6)), (0, .ref b), (1, .ref (B + 0)), (2, .ref (B + 234))]) C dL_law_1295 rfl (congrArg (fun z => _ + z) ct_i_6) (by decide) rfl ?_
                                                                    refine v_goto (tgt := 18) C dL_law_1298 (by decide) ?_
                                                                    replace h := Option.some.inj h; subst h
                                                                    refine v_sub [1, 2, 3, 0] rfl ?_
                                                                    exact hc18 (x3 + 6, M) rfl
  replace h := bind_ex h; obtain ⟨z235, hz235, h⟩ := h
  refine v_sub [0, 1, 2, 3] rfl ?_
  refine loopF_walk (Pσ := fun z => V p l e room_1 s m #[Value.ref b] below meth c 600000 7302250 D cA B 4 (lw_Z below #[Value.ref b] s) z.2 18 [(0, .ref b), (1, .ref (B + 0)), (2, .ref (B + 234)), (3, .int z.1)] []) (Pρ := fun r => (∀ y : Mem, r = .inl y → V p l e room_1 s m #[Value.ref b] below meth c 600000 7302250 D cA B 4 (lw_Z below #[Value.ref b] s) y 1301 [] []) ∧ (∀ y : Int32, r = .inr y → y = R)) ?_ FUEL (0, M) z235 hz235 ?_
  · intro z o hb hc he
    exact LB18 z.2 z.1 o hb hc (fun y e => (he _ e).1 y rfl) (fun y e => (he _ e).2 y rfl)
  · refine ⟨fun z236 e => ?_, fun y e => ?_⟩
    · subst e
      replace h := sumC_l h
      refine v_iconst C dL_law_1301 ct_i_1 ?_
      replace h := Option.some.inj h; subst h
      exact v_lawret C hrt hlk dL_law_1302
    · subst e
      replace h := sumC_r h
      exact Option.some.inj h
