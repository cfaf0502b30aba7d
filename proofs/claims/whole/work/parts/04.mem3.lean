/-! CONTRACTS -/
def gRm (d mc ms : Nat) : Room := { frames := d, cells := mc, slots := ms, locals := 40 * d }
def gPre (D : gDt) (base : Nat) (Z : gZt) (u : Mem) (U : State) : Prop := gW D base u U.heap ∧ gK D U ∧ gZ base Z U U.heap ∧ nOK U
abbrev gPc (D : gDt) (base : Nat) (Z : gZt) (u : Mem) (av : List Value) : Array Value → State → Prop := va_Pc av (gPre D base Z u)
def gB (D : gDt) (base : Nat) (u : Mem) (t : State) : Prop := gW D base u t.heap
abbrev gQi (D : gDt) (base : Nat) (r : Int32) (u : Mem) : Array Value → State → Outcome → State → Prop := va_Qi (fun (a : Int32) (b : Mem) => a = r ∧ b = u) (gB D base) (gF base)
abbrev gQl (D : gDt) (base : Nat) (r : Int64) (u : Mem) : Array Value → State → Outcome → State → Prop := va_Ql (fun (a : Int64) (b : Mem) => a = r ∧ b = u) (gB D base) (gF base)
abbrev gQv (D : gDt) (base : Nat) (u : Mem) : Array Value → State → Outcome → State → Prop := va_Qv (fun (b : Mem) => b = u) (gB D base) (gF base)
abbrev gQq (D : gDt) (base : Nat) (r : Option Nat) (u : Mem) : Array Value → State → Outcome → State → Prop := va_Qq (fun (a : Option Nat) (b : Mem) => a = r.map (fun x => base + x) ∧ b = u) (gB D base) (gF base)
theorem gPre.blind {D : gDt} {base : Nat} {Z : gZt} {u : Mem} {av : List Value} : FrameBlind (gPc D base Z u av) := by
  intro a U g mk h
  obtain ⟨h0, h1, h2, h3, h4⟩ := h
  exact ⟨h0, h1, gK.moved (u := U) (U := U.calling g mk a) (Vm.Alike.refl U.vm) h2, gZ.same (u := U) (U := U.calling g mk a) rfl h3, nOK.same (u := U) (U := U.calling g mk a) rfl h4⟩
theorem gPre.at {p : Program} {s : State} {m : MethodId} {args : Array Value} {meth : Method} {c : Code} {cc : ByteArray} {nL : Nat} {own : String} {D : gDt} {base : Nat} {Z : gZt} {u : Mem} {H : Heap} {locs : List Loc} {av : List Value}
    (C0 : gC p s m meth c args cc nL own D base Z) (hG : gH D base s u H locs) : ∀ U : State, U.heap = H → s.WarmedH U.vm → gPc D base Z u av av.toArray U := by
  intro U hU hW
  obtain ⟨hx, hb, hml, hown, hts, hN, hK, hZ, hbl, hlk⟩ := C0
  exact ⟨rfl, by rw [hU]; exact hG.1, gK.moved hW.alike hK, by rw [hU]; exact gZ.kept (gZ.warm hW hZ) hG.2.2.1, nOK.warm hW hN⟩
/-- a method of ours: its code, its class, how many it takes -/
def gMth (y : MethodName) (bytes : ByteArray) (maxL nA : Nat) (ret : Option FieldType) : Prop := Cond.code y bytes maxL ret ∈ wG ∧ Cond.initialized y.cls ∈ wG ∧ (y.cls ≠ "java/lang/invoke/MethodHandle" ∧ y.cls ≠ "java/lang/invoke/VarHandle" ∧ (parseMethodDescriptor y.desc).map (fun d => d.parameters.length) = some nA)
def gMv (y : MethodName) : Prop := Cond.instanceMethod y ∈ wG ∧ Cond.selects y.cls y y ∈ wG
def gRecv (s : State) (H : Heap) (C : String) (b : Nat) : Prop := ∃ cell : Cell, H[b]? = some cell ∧ cell.vm.isStatics = false ∧ s.vm.findClass C = some cell.cls
theorem g_enter {p : Program} {l : Launch} {y : MethodName} {cc : ByteArray} {maxL : Nat} {ret : Option FieldType} {rm : Room} {e : Env} {s : State} {m : MethodId} {args : Array Value} {below : List Frame} {meth : Method} {c : Code} {s₁ : State} {D : gDt} {base : Nat} {Z : gZt} {u : Mem} {av : List Value}
    (B : BodyLoose p l y (headSpec (gws y cc maxL ret) rm) cc maxL ret e s m args below meth c s₁) (hml : c.maxLocals = maxL) (hv : gPc D base Z u av args s) : args = av.toArray ∧ gC p s m meth c args cc maxL y.cls D base Z ∧ gH D base s u s.heap [] := by
  obtain ⟨h0, h1, h2, h3, h4⟩ := hv
  have hts := atoms_spec (ws := gws y cc maxL ret) B.pre
  refine ⟨h0, ⟨B.exec, B.bytes, hml, findClass_of_methodNamed B.named, fun w hw => hts w (List.mem_cons_of_mem _ hw), h4, h2, h3, ?_, B.notSynchronized⟩, h1, va_S.rf⟩
  have := h1.2.1
  omega
section CAL
variable {p : Program} {l : Launch} {e : Env} {R : Room} {s : State} {m : MethodId} {args : Array Value} {below : List Frame} {meth : Method} {c : Code} {H : Heap} {locs : List Loc} {cells slots : Nat} {Q : State → Prop}
variable {cc : ByteArray} {pc nL : Nat} {ls : Array Slot} {rest st0 : List Value} {own : String} {D : gDt} {base : Nat} {Z : gZt} {u : Mem} {t : Nat}
variable {y : MethodName} {bytes : ByteArray} {maxL nA d mc ms index : Nat} {ret : Option FieldType} {Qc : Array Value → State → Outcome → State → Prop} {b : Nat} {As : List Value}
theorem g_recv (C0 : gC p s m meth c args cc nL own D base Z) (hG : gH D base s u H locs) {C : String} {T : u_T} {N ci : Nat} (hi : gis u t (0, ci)) (hc : classes[ci]? = some (C, T, N)) : gRecv s H C (base + t) :=
  va_recv (q := (C, T, N)) C0.2.2.2.2.2.2.1 (hG.1.2.one hi.1 (cell_O hi.2)) hc (q0 := 0) rfl
theorem g_callB (C0 : gC p s m meth c args cc nL own D base Z) (hm : gMth y bytes maxL nA ret) (hlk : Cond.methodLink own index y ∈ wG) (hR : d + 1 ≤ R.frames ∧ 8 + (maxL + 11) + 40 * d ≤ R.locals) : CallB R s args own index y bytes maxL ret (gws y bytes maxL ret) (gRm d mc ms) mc ms nA :=
  callB_of nA C0.2.2.2.2.1 (gws_good hm.1) rfl rfl rfl (C0.2.2.2.2.1 _ hm.2.1) (C0.2.2.2.2.1 _ hlk) hm.2.2 hR
theorem g_callN (C0 : gC p s m meth c args cc nL own D base Z) (hm : gMth y bytes maxL nA ret) {host : String} (hlk : Cond.methodLinkNest own index y host ∈ wN) (hR : d + 1 ≤ R.frames ∧ 8 + (maxL + 11) + 40 * d ≤ R.locals) : va_CN R s args own index y host bytes maxL ret (gws y bytes maxL ret) (gRm d mc ms) mc ms nA :=
  va_cnB nA C0.2.2.2.2.1 (gws_good hm.1) rfl rfl rfl (C0.2.2.2.2.2.1 _ hlk) (C0.2.2.2.2.1 _ hm.2.1) hm.2.2 hR
theorem g_fix (C0 : gC p s m meth c args cc nL own D base Z) : CallFix p m c cc nL s args wG own := ⟨C0.1, C0.2.1, C0.2.2.1, C0.2.2.2.1, C0.2.2.2.2.1⟩
theorem g_runV (C0 : gC p s m meth c args cc nL own D base Z) (hG : gH D base s u H locs) (hM : Met l y (gws y bytes maxL ret) (gRm d mc ms) (gPc D base Z u (.ref b :: As)) Qc mc ms (gF base)) (hm : gMth y bytes maxL nA ret) (hv : gMv y) (hlk : Cond.methodLink own index y ∈ wG)
    (hR : d + 1 ≤ R.frames ∧ 8 + (maxL + 11) + 40 * d ≤ R.locals) (hrv : gRecv s H y.cls b) (hn : As.length = nA) (hsize : ls.size = nL) (hstack : st0 = As.reverse ++ .ref b :: rest) (hW : (rest.map fun v => v.category).sum ≤ 8) (hdg : decode cc pc = .ok (.invokevirtual index, 3)) (hf : cells + mc ≤ R.cells ∧ slots + ms ≤ R.slots) :
    va_Run p l e R s m args below meth c H locs cells slots mc ms (F0 m pc ls st0) rest (Qc (Value.ref b :: As).toArray) (gF base) :=
  va_runV (g_fix C0) hM ⟨g_callB C0 hm hlk hR, C0.2.2.2.2.1 _ hv.1, C0.2.2.2.2.1 _ hv.2⟩ ⟨gPre.blind, hrv, gPre.at C0 hG⟩ rfl hn hsize hstack (lv_room hW) hdg hf
theorem g_runVN (C0 : gC p s m meth c args cc nL own D base Z) (hG : gH D base s u H locs) (hM : Met l y (gws y bytes maxL ret) (gRm d mc ms) (gPc D base Z u (.ref b :: As)) Qc mc ms (gF base)) (hm : gMth y bytes maxL nA ret) (hv : gMv y) {host : String} (hlk : Cond.methodLinkNest own index y host ∈ wN)
    (hR : d + 1 ≤ R.frames ∧ 8 + (maxL + 11) + 40 * d ≤ R.locals) (hrv : gRecv s H y.cls b) (hn : As.length = nA) (hsize : ls.size = nL) (hstack : st0 = As.reverse ++ .ref b :: rest) (hW : (rest.map fun v => v.category).sum ≤ 8) (hdg : decode cc pc = .ok (.invokevirtual index, 3)) (hf : cells + mc ≤ R.cells ∧ slots + ms ≤ R.slots) :
    va_Run p l e R s m args below meth c H locs cells slots mc ms (F0 m pc ls st0) rest (Qc (Value.ref b :: As).toArray) (gF base) :=
  va_runVN (g_fix C0) hM ⟨g_callN C0 hm hlk hR, C0.2.2.2.2.1 _ hv.1, C0.2.2.2.2.1 _ hv.2⟩ ⟨gPre.blind, hrv, gPre.at C0 hG⟩ rfl hn hsize hstack (lv_room hW) hdg hf
theorem g_runS (C0 : gC p s m meth c args cc nL own D base Z) (hG : gH D base s u H locs) (hM : Met l y (gws y bytes maxL ret) (gRm d mc ms) (gPc D base Z u As) Qc mc ms (gF base)) (hm : gMth y bytes maxL nA ret) (hv : Cond.static y ∈ wG) (hlk : Cond.methodLink own index y ∈ wG)
    (hR : d + 1 ≤ R.frames ∧ 8 + (maxL + 11) + 40 * d ≤ R.locals) (hn : As.length = nA) (hsize : ls.size = nL) (hstack : st0 = As.reverse ++ rest) (hW : (rest.map fun v => v.category).sum ≤ 8) (hdg : decode cc pc = .ok (.invokestatic index, 3)) (hf : cells + mc ≤ R.cells ∧ slots + ms ≤ R.slots) :
    va_Run p l e R s m args below meth c H locs cells slots mc ms (F0 m pc ls st0) rest (Qc As.toArray) (gF base) :=
  va_runS (g_fix C0) hM ⟨g_callB C0 hm hlk hR, C0.2.2.2.2.1 _ hv⟩ ⟨gPre.blind, gPre.at C0 hG⟩ rfl hn hsize hstack (lv_room hW) hdg hf
theorem g_runSN (C0 : gC p s m meth c args cc nL own D base Z) (hG : gH D base s u H locs) (hM : Met l y (gws y bytes maxL ret) (gRm d mc ms) (gPc D base Z u As) Qc mc ms (gF base)) (hm : gMth y bytes maxL nA ret) (hv : Cond.static y ∈ wG) {host : String} (hlk : Cond.methodLinkNest own index y host ∈ wN)
    (hR : d + 1 ≤ R.frames ∧ 8 + (maxL + 11) + 40 * d ≤ R.locals) (hn : As.length = nA) (hsize : ls.size = nL) (hstack : st0 = As.reverse ++ rest) (hW : (rest.map fun v => v.category).sum ≤ 8) (hdg : decode cc pc = .ok (.invokestatic index, 3)) (hf : cells + mc ≤ R.cells ∧ slots + ms ≤ R.slots) :
    va_Run p l e R s m args below meth c H locs cells slots mc ms (F0 m pc ls st0) rest (Qc As.toArray) (gF base) :=
  va_runSN (g_fix C0) hM ⟨g_callN C0 hm hlk hR, C0.2.2.2.2.1 _ hv, trivial⟩ ⟨gPre.blind, gPre.at C0 hG⟩ rfl hn hsize hstack (lv_room hW) hdg hf
theorem gW_mono {D : gDt} {base : Nat} {s : State} {u u1 : Mem} {H H1 : Heap} {locs : List Loc} (hG : gH D base s u H locs) (h1 : gW D base u1 H1) (hs : H.size ≤ H1.size) : u.1 ≤ u1.1 := by
  have a := hG.1.2.1
  have b := h1.2.1
  omega
theorem g_doI {a : Array Value} {r : Int32} {u1 : Mem} (hG : gH D base s u H locs) (hr : va_Run p l e R s m args below meth c H locs cells slots mc ms (F0 m pc ls st0) rest (gQi D base r u1 a) (gF base))
    (kk : ∀ (H1 : Heap) (locs1 : List Loc), gH D base s u1 H1 locs1 → u.1 ≤ u1.1 → W p l e R s m args below meth c H1 locs1 (cells + mc) (slots + ms) Q (F0 m (pc + 3) ls (.int r :: rest))) : W p l e R s m args below meth c H locs cells slots Q (F0 m pc ls st0) := by
  refine va_calli hr hG.2 (fun _ _ h => h) (fun _ h => h) (fun r' u' t H1 locs1 ht hvm hp hB hz hk hS => ?_)
  obtain ⟨rfl, rfl⟩ := hp
  have hB' : gW D base u' H1 := by rw [← ht]; exact hB
  exact kk H1 locs1 ⟨hB', hS⟩ (gW_mono hG hB' hz)
theorem g_doL {a : Array Value} {r : Int64} {u1 : Mem} (hG : gH D base s u H locs) (hr : va_Run p l e R s m args below meth c H locs cells slots mc ms (F0 m pc ls st0) rest (gQl D base r u1 a) (gF base))
    (kk : ∀ (H1 : Heap) (locs1 : List Loc), gH D base s u1 H1 locs1 → u.1 ≤ u1.1 → W p l e R s m args below meth c H1 locs1 (cells + mc) (slots + ms) Q (F0 m (pc + 3) ls (.long r :: rest))) : W p l e R s m args below meth c H locs cells slots Q (F0 m pc ls st0) := by
  refine va_calll hr hG.2 (fun _ _ h => h) (fun _ h => h) (fun r' u' t H1 locs1 ht hvm hp hB hz hk hS => ?_)
  obtain ⟨rfl, rfl⟩ := hp
  have hB' : gW D base u' H1 := by rw [← ht]; exact hB
  exact kk H1 locs1 ⟨hB', hS⟩ (gW_mono hG hB' hz)
theorem g_doV {a : Array Value} {u1 : Mem} (hG : gH D base s u H locs) (hr : va_Run p l e R s m args below meth c H locs cells slots mc ms (F0 m pc ls st0) rest (gQv D base u1 a) (gF base))
    (kk : ∀ (H1 : Heap) (locs1 : List Loc), gH D base s u1 H1 locs1 → u.1 ≤ u1.1 → W p l e R s m args below meth c H1 locs1 (cells + mc) (slots + ms) Q (F0 m (pc + 3) ls rest)) : W p l e R s m args below meth c H locs cells slots Q (F0 m pc ls st0) := by
  refine va_callv hr hG.2 (fun _ _ h => h) (fun _ h => h) (fun u' t H1 locs1 ht hvm hp hB hz hk hS => ?_)
  subst hp
  have hB' : gW D base u' H1 := by rw [← ht]; exact hB
  exact kk H1 locs1 ⟨hB', hS⟩ (gW_mono hG hB' hz)
theorem g_doQ {a : Array Value} {r : Option Nat} {u1 : Mem} (hG : gH D base s u H locs) (hr : va_Run p l e R s m args below meth c H locs cells slots mc ms (F0 m pc ls st0) rest (gQq D base r u1 a) (gF base))
    (kk : ∀ (H1 : Heap) (locs1 : List Loc), gH D base s u1 H1 locs1 → u.1 ≤ u1.1 → W p l e R s m args below meth c H1 locs1 (cells + mc) (slots + ms) Q (F0 m (pc + 3) ls (va_rf (r.map (fun x => base + x)) :: rest))) : W p l e R s m args below meth c H locs cells slots Q (F0 m pc ls st0) := by
  refine va_callq hr hG.2 (fun _ _ h => h) (fun _ h => h) (fun r' u' t H1 locs1 ht hvm hp hB hz hk hS => ?_)
  obtain ⟨rfl, rfl⟩ := hp
  have hB' : gW D base u' H1 := by rw [← ht]; exact hB
  exact kk H1 locs1 ⟨hB', hS⟩ (gW_mono hG hB' hz)
/-! returns -/
theorem g_iret (C0 : gC p s m meth c args cc nL own D base Z) (hG : gH D base s u H locs) {r : Int32} (hr : meth.sig.returnType = some .int) (hdg : decode cc pc = .ok (.ireturn, 1)) : W p l e R s m args below meth c H locs cells slots (MQ below (gQi D base r u) args s cells slots (gF base)) (F0 m pc ls [.int r]) :=
  W.iret C0.1 C0.2.1 hr (fun t ht hW => ⟨⟨r, u, rfl, ⟨rfl, rfl⟩, by unfold gB; rw [ht]; exact hG.1⟩, hG.2.F ht⟩) hG.2.2.2 hdg C0.2.2.2.2.2.2.2.2.2
theorem g_zret (C0 : gC p s m meth c args cc nL own D base Z) (hG : gH D base s u H locs) {r : Int32} {ty : FieldType} (hr : meth.sig.returnType = some ty) (hn : narrow ty (.int r) = .int r) (hdg : decode cc pc = .ok (.ireturn, 1)) : W p l e R s m args below meth c H locs cells slots (MQ below (gQi D base r u) args s cells slots (gF base)) (F0 m pc ls [.int r]) :=
  W.zret C0.1 C0.2.1 hr hn (fun t ht hW => ⟨⟨r, u, rfl, ⟨rfl, rfl⟩, by unfold gB; rw [ht]; exact hG.1⟩, hG.2.F ht⟩) hG.2.2.2 hdg C0.2.2.2.2.2.2.2.2.2
theorem g_lret (C0 : gC p s m meth c args cc nL own D base Z) (hG : gH D base s u H locs) {r : Int64} (hr : meth.sig.returnType = some .long) (hdg : decode cc pc = .ok (.lreturn, 1)) : W p l e R s m args below meth c H locs cells slots (MQ below (gQl D base r u) args s cells slots (gF base)) (F0 m pc ls [.long r]) :=
  W.lret C0.1 C0.2.1 hr (fun t ht hW => ⟨⟨r, u, rfl, ⟨rfl, rfl⟩, by unfold gB; rw [ht]; exact hG.1⟩, hG.2.F ht⟩) hG.2.2.2 hdg C0.2.2.2.2.2.2.2.2.2
theorem g_vret (C0 : gC p s m meth c args cc nL own D base Z) (hG : gH D base s u H locs) (hr : meth.sig.returnType = none) (hdg : decode cc pc = .ok (.return_, 1)) : W p l e R s m args below meth c H locs cells slots (MQ below (gQv D base u) args s cells slots (gF base)) (F0 m pc ls []) :=
  W.vret C0.1 C0.2.1 hr (fun t ht hW => ⟨⟨u, rfl, rfl, by unfold gB; rw [ht]; exact hG.1⟩, hG.2.F ht⟩) hG.2.2.2 hdg C0.2.2.2.2.2.2.2.2.2
theorem g_aret (C0 : gC p s m meth c args cc nL own D base Z) (hG : gH D base s u H locs) {b : Nat} {C : String} (hr : meth.sig.returnType = some (.object C)) (hdg : decode cc pc = .ok (.areturn, 1)) : W p l e R s m args below meth c H locs cells slots (MQ below (gQq D base (some b) u) args s cells slots (gF base)) (F0 m pc ls [.ref (base + b)]) :=
  W.aret C0.1 C0.2.1 hr (Or.inl ⟨_, rfl⟩) (Or.inr ⟨_, rfl⟩) (fun t ht hW => ⟨⟨some (base + b), u, rfl, ⟨rfl, rfl⟩, by unfold gB; rw [ht]; exact hG.1⟩, hG.2.F ht⟩) hG.2.2.2 hdg C0.2.2.2.2.2.2.2.2.2
theorem g_nret (C0 : gC p s m meth c args cc nL own D base Z) (hG : gH D base s u H locs) {C : String} (hr : meth.sig.returnType = some (.object C)) (hdg : decode cc pc = .ok (.areturn, 1)) : W p l e R s m args below meth c H locs cells slots (MQ below (gQq D base none u) args s cells slots (gF base)) (F0 m pc ls [.null]) :=
  W.aret C0.1 C0.2.1 hr (Or.inl ⟨_, rfl⟩) (Or.inl rfl) (fun t ht hW => ⟨⟨none, u, rfl, ⟨rfl, rfl⟩, by unfold gB; rw [ht]; exact hG.1⟩, hG.2.F ht⟩) hG.2.2.2 hdg C0.2.2.2.2.2.2.2.2.2
/-! Math -/
def imin (x y : Int32) : Int32 := if y < x then y else x
def imax (x y : Int32) : Int32 := if x < y then y else x
theorem g_min (C0 : gC p s m meth c args cc nL own D base Z) (hl : Cond.methodLink own index Lib.Math.min.name ∈ wG) (hst : Cond.static Lib.Math.min.name ∈ wG) (hin : Cond.initialized "java/lang/Math" ∈ wG) (hco : Cond.code Lib.Math.min.name Lib.Math.min.code 2 (some .int) ∈ wG) (hsize : ls.size = nL)
    (hR : 1 ≤ R.frames ∧ (rest.map fun v => v.category).sum + 13 ≤ R.locals ∧ cells ≤ R.cells ∧ slots ≤ R.slots) {x y : Int32} (hdg : decode cc pc = .ok (.invokestatic index, 3))
    (kk : W p l e R s m args below meth c H locs cells slots Q (F0 m (pc + 3) ls (.int (imin x y) :: rest))) : W p l e R s m args below meth c H locs cells slots Q (F0 m pc ls (.int y :: .int x :: rest)) := by
  obtain ⟨hx, hb, hml, hown, hts, hN, hK, hZ, hbl, hlk⟩ := C0
  exact va_mmin hx hb (hml.trans hsize.symm) hown (hts _ hl) (hts _ hst) (hts _ hin) (hts _ hco) hR.1 hR.2.1 hR.2.2.1 hR.2.2.2 hdg kk
theorem g_max (C0 : gC p s m meth c args cc nL own D base Z) (hl : Cond.methodLink own index Lib.Math.max.name ∈ wG) (hst : Cond.static Lib.Math.max.name ∈ wG) (hin : Cond.initialized "java/lang/Math" ∈ wG) (hco : Cond.code Lib.Math.max.name Lib.Math.max.code 2 (some .int) ∈ wG) (hsize : ls.size = nL)
    (hR : 1 ≤ R.frames ∧ (rest.map fun v => v.category).sum + 13 ≤ R.locals ∧ cells ≤ R.cells ∧ slots ≤ R.slots) {x y : Int32} (hdg : decode cc pc = .ok (.invokestatic index, 3))
    (kk : W p l e R s m args below meth c H locs cells slots Q (F0 m (pc + 3) ls (.int (imax x y) :: rest))) : W p l e R s m args below meth c H locs cells slots Q (F0 m pc ls (.int y :: .int x :: rest)) := by
  obtain ⟨hx, hb, hml, hown, hts, hN, hK, hZ, hbl, hlk⟩ := C0
  exact va_mmax hx hb (hml.trans hsize.symm) hown (hts _ hl) (hts _ hst) (hts _ hin) (hts _ hco) hR.1 hR.2.1 hR.2.2.1 hR.2.2.2 hdg kk
end CAL
/-! the pure side: what a walk asks of its function -/
def gin {α : Type} (i : Int32) (n : Nat) (k : Option α) : Option α := if 0 ≤ i.toInt ∧ i.toInt < n then k else none
def gne {α : Type} (y : Int32) (k : Option α) : Option α := if y = 0 then none else k
def gbo {α : Type} (v : Int32) (k : Option α) : Option α := if v = 0 ∨ v = 1 then k else none
def gob {α : Type} (n t : Nat) (l : List (Nat × Nat)) (k : Option α) : Option α := if gokb n t l = true then k else none
def obind {α β : Type} (x : Option (α × Mem)) (k : α → Mem → Option β) : Option β := match x with
  | none => none
  | some q => k q.1 q.2
theorem gin_s {α : Type} {i : Int32} {n : Nat} {k : Option α} {r : α} (h : gin i n k = some r) : vp_in i n ∧ k = some r := by
  unfold gin at h
  split at h
  · rename_i q; exact ⟨vp_in_iff.mpr q, h⟩
  · cases h
theorem gne_s {α : Type} {y : Int32} {k : Option α} {r : α} (h : gne y k = some r) : ¬ y = 0 ∧ k = some r := by
  unfold gne at h
  split at h
  · cases h
  · rename_i q; exact ⟨q, h⟩
theorem gbo_s {α : Type} {v : Int32} {k : Option α} {r : α} (h : gbo v k = some r) : narrow .boolean (.int v) = .int v ∧ k = some r := by
  unfold gbo at h
  split at h
  · rename_i q
    rcases q with rfl | rfl
    · exact ⟨by decide, h⟩
    · exact ⟨by decide, h⟩
  · cases h
theorem gob_s {α : Type} {n t : Nat} {l : List (Nat × Nat)} {k : Option α} {r : α} (h : gob n t l k = some r) : gok n t l ∧ k = some r := by
  unfold gob at h
  split at h
  · rename_i q; exact ⟨gok_of q, h⟩
  · cases h
theorem obind_s {α β : Type} {x : Option (α × Mem)} {k : α → Mem → Option β} {r : β} (h : obind x k = some r) : ∃ a v, x = some (a, v) ∧ k a v = some r := by
  cases x with
  | none => cases h
  | some q => exact ⟨q.1, q.2, rfl, h⟩
theorem gif_t {α : Type} {c : Prop} [Decidable c] {a b : Option α} {r : α} (hc : c) (h : (if c then a else b) = some r) : a = some r := by rwa [if_pos hc] at h
theorem gif_f {α : Type} {c : Prop} [Decidable c] {a b : Option α} {r : α} (hc : ¬ c) (h : (if c then a else b) = some r) : b = some r := by rwa [if_neg hc] at h
theorem gret_s {α : Type} {a r : α} {u u' : Mem} (h : some (a, u) = some (r, u')) : a = r ∧ u = u' := by cases h; exact ⟨rfl, rfl⟩
/-- a loop: once more (inl), or out (inr) -/
def whileO {σ ρ : Type} (body : σ → Option (σ ⊕ ρ)) : Nat → σ → Option ρ
  | 0, _ => none
  | n + 1, s => match body s with
    | none => none
    | some (.inl s') => whileO body n s'
    | some (.inr r) => some r
def whX {σ ρ : Type} (body : σ → Option (σ ⊕ ρ)) (n : Nat) (X : σ ⊕ ρ) (r : ρ) : Prop := match X with
  | .inl s' => whileO body n s' = some r
  | .inr q => q = r
theorem while_s {σ ρ : Type} {body : σ → Option (σ ⊕ ρ)} {n : Nat} {s : σ} {r : ρ} (h : whileO body (n + 1) s = some r) : ∃ X, body s = some X ∧ whX body n X r := by
  unfold whileO at h
  cases hb : body s with
  | none => rw [hb] at h; cases h
  | some X =>
    rw [hb] at h
    cases X with
    | inl s' => exact ⟨_, rfl, h⟩
    | inr q => exact ⟨_, rfl, Option.some.inj h⟩
theorem while_l {σ ρ : Type} {body : σ → Option (σ ⊕ ρ)} {n : Nat} {s' : σ} {X : σ ⊕ ρ} {r : ρ} (hX : whX body n X r) (h : some (Sum.inl s') = some X) : whileO body n s' = some r := by cases h; exact hX
theorem while_r {σ ρ : Type} {body : σ → Option (σ ⊕ ρ)} {n : Nat} {q : ρ} {X : σ ⊕ ρ} {r : ρ} (hX : whX body n X r) (h : some (Sum.inr q) = some X) : some q = some r := by cases h; exact congrArg some hX
/-- how often a loop may turn -/
def FUEL : Nat := 5000
