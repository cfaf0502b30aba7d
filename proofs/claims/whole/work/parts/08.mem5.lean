/-! CONSTRUCTORS: the cells from t on as a list, what lies before as it was -/
def phC (ph : Nat → va_E) (t : Nat) (cs : List va_E) : Nat → va_E := fun k => if k < t then ph k else cs.getD (k - t) (.inr (0, []))
theorem phC_at {ph : Nat → va_E} {t j : Nat} {cs : List va_E} {e : va_E} (h : cs[j]? = some e) : phC ph t cs (t + j) = e := by
  unfold phC
  rw [if_neg (by omega), Nat.add_sub_cancel_left, List.getD_eq_getElem?_getD, h]
  rfl
theorem phC_set {ph : Nat → va_E} {t j : Nat} {cs : List va_E} {e : va_E} (hj : j < cs.length) (k : Nat) : upE (phC ph t cs) (t + j) e k = phC ph t (cs.set j e) k := by
  unfold upE phC
  by_cases h : k < t
  · rw [if_neg (by omega), if_pos h, if_pos h]
  · rw [if_neg h, if_neg h]
    by_cases hk : k = t + j
    · subst hk
      rw [if_pos rfl, Nat.add_sub_cancel_left, List.getD_eq_getElem?_getD, List.getElem?_set_self hj]
      rfl
    · rw [if_neg hk, List.getD_eq_getElem?_getD, List.getD_eq_getElem?_getD, List.getElem?_set_ne (by omega)]
theorem phC_push {ph : Nat → va_E} {t : Nat} {cs : List va_E} {e : va_E} (k : Nat) (hk : k < t + cs.length + 1) : upE (phC ph t cs) (t + cs.length) e k = phC ph t (cs ++ [e]) k := by
  unfold upE phC
  by_cases h : k < t
  · rw [if_neg (by omega), if_pos h, if_pos h]
  · rw [if_neg h, if_neg h]
    by_cases hk2 : k = t + cs.length
    · subst hk2
      rw [if_pos rfl, Nat.add_sub_cancel_left, List.getD_eq_getElem?_getD, List.getElem?_append_right (Nat.le_refl _), Nat.sub_self]
      rfl
    · rw [if_neg hk2, List.getD_eq_getElem?_getD, List.getD_eq_getElem?_getD, List.getElem?_append_left (by omega)]
theorem phC_app {ph : Nat → va_E} {t : Nat} {cs ds : List va_E} (k : Nat) : phC (phC ph t cs) (t + cs.length) ds k = phC ph t (cs ++ ds) k := by
  unfold phC
  by_cases h : k < t
  · rw [if_pos (by omega), if_pos h, if_pos h]
  · by_cases h2 : k < t + cs.length
    · rw [if_pos h2, if_neg h, if_neg h, List.getD_eq_getElem?_getD, List.getD_eq_getElem?_getD, List.getElem?_append_left (by omega)]
    · rw [if_neg h2, if_neg h, List.getD_eq_getElem?_getD, List.getD_eq_getElem?_getD, List.getElem?_append_right (by omega)]
      congr 2
      omega
def gCW (D : gDt) (base t : Nat) (ph : Nat → va_E) (cs : List va_E) (H : Heap) : Prop := gRW D.1 base (t + cs.length) (phC ph t cs) H
def gCH (D : gDt) (base : Nat) (s : State) (t : Nat) (ph : Nat → va_E) (cs : List va_E) (H : Heap) (locs : List Loc) : Prop := gCW D base t ph cs H ∧ va_S (gF base) s.heap H locs
def gPreC (D : gDt) (base : Nat) (Z : gZt) (t : Nat) (ph : Nat → va_E) (cs : List va_E) (U : State) : Prop := gCW D base t ph cs U.heap ∧ gK D U ∧ gZ base Z U U.heap ∧ nOK U
abbrev gPcC (D : gDt) (base : Nat) (Z : gZt) (t : Nat) (ph : Nat → va_E) (cs : List va_E) (av : List Value) : Array Value → State → Prop := va_Pc av (gPreC D base Z t ph cs)
abbrev gQC (D : gDt) (base t : Nat) (ph : Nat → va_E) (cs : List va_E) : Array Value → State → Outcome → State → Prop := va_Qv (fun (_ : Unit) => True) (fun _ (U : State) => gCW D base t ph cs U.heap) (gF base)
theorem gPreC.blind {D : gDt} {base : Nat} {Z : gZt} {t : Nat} {ph : Nat → va_E} {cs : List va_E} {av : List Value} : FrameBlind (gPcC D base Z t ph cs av) := by
  intro a U g mk h
  obtain ⟨h0, h1, h2, h3, h4⟩ := h
  exact ⟨h0, h1, gK.moved (u := U) (U := U.calling g mk a) (Vm.Alike.refl U.vm) h2, gZ.same (u := U) (U := U.calling g mk a) rfl h3, nOK.same (u := U) (U := U.calling g mk a) rfl h4⟩
theorem c_enter {p : Program} {l : Launch} {y : MethodName} {cc : ByteArray} {maxL : Nat} {ret : Option FieldType} {rm : Room} {e : Env} {s : State} {m : MethodId} {args : Array Value} {below : List Frame} {meth : Method} {c : Code} {s₁ : State} {D : gDt} {base : Nat} {Z : gZt} {t : Nat} {ph : Nat → va_E} {cs : List va_E} {av : List Value}
    (B : BodyLoose p l y (headSpec (gws y cc maxL ret) rm) cc maxL ret e s m args below meth c s₁) (hml : c.maxLocals = maxL) (hv : gPcC D base Z t ph cs av args s) : args = av.toArray ∧ gC p s m meth c args cc maxL y.cls D base Z ∧ gCH D base s t ph cs s.heap [] := by
  obtain ⟨h0, h1, h2, h3, h4⟩ := hv
  have hts := atoms_spec (ws := gws y cc maxL ret) B.pre
  refine ⟨h0, ⟨B.exec, B.bytes, hml, findClass_of_methodNamed B.named, fun w hw => hts w (List.mem_cons_of_mem _ hw), h4, h2, h3, ?_, B.notSynchronized⟩, h1, va_S.rf⟩
  have := h1.1
  omega
section CTR
variable {p : Program} {l : Launch} {e : Env} {R : Room} {s : State} {m : MethodId} {args : Array Value} {below : List Frame} {meth : Method} {c : Code} {H : Heap} {locs : List Loc} {cells slots : Nat} {Q : State → Prop}
variable {cc : ByteArray} {pc nL : Nat} {ls : Array Slot} {rest : List Value} {own : String} {D : gDt} {base : Nat} {Z : gZt} {t j : Nat} {ph : Nat → va_E} {cs : List va_E}
theorem lt_c {e : va_E} (hp : cs[j]? = some e) : t + j < t + cs.length := Nat.add_lt_add_left (List.getElem?_eq_some_iff.mp hp).1 t
theorem c_get (C0 : gC p s m meth c args cc nL own D base Z) (hG : gCH D base s t ph cs H locs) {C : String} {T : u_T} {N ci index : Nat} {fs : List Value} {v : Value} (hp : cs[j]? = some (.inr (ci, fs))) (hc : classes[ci]? = some (C, T, N)) (k : Nat) (hk : k < N) (hv : fs[k]? = some v)
    (hl : Cond.fieldLink own index (T k).1 (T k).2.1 (T k).2.2.1 ∈ wG) (hdg : decode cc pc = .ok (.getfield index, 3))
    (kk : W p l e R s m args below meth c H locs cells slots Q (F0 m (pc + 3) ls (v :: rest))) : W p l e R s m args below meth c H locs cells slots Q (F0 m pc ls (.ref (base + (t + j)) :: rest)) :=
  r_get C0 hG.1 (lt_c hp) (phC_at hp) hc k hk hv hl hdg kk
theorem c_put (C0 : gC p s m meth c args cc nL own D base Z) (hG : gCH D base s t ph cs H locs) {C : String} {T : u_T} {N ci index : Nat} {fs : List Value} {v : Value} {ty : FieldType} (hp : cs[j]? = some (.inr (ci, fs))) (hc : classes[ci]? = some (C, T, N)) (k : Nat) (hk : k < N) (hkl : k < fs.length)
    (hl : Cond.fieldLink own index (T k).1 (T k).2.1 (T k).2.2.1 ∈ wG) (hfin : (T k).2.2.2 = false) (hd : parseFieldDescriptor (T k).2.2.1 = some ty) (hn : narrow ty v = v) (hfit : fits ty v = true) (hdg : decode cc pc = .ok (.putfield index, 3))
    (kk : ∀ (H1 : Heap) (locs1 : List Loc), gCH D base s t ph (cs.set j (.inr (ci, fs.set k v))) H1 locs1 → W p l e R s m args below meth c H1 locs1 cells slots Q (F0 m (pc + 3) ls rest)) : W p l e R s m args below meth c H locs cells slots Q (F0 m pc ls (v :: .ref (base + (t + j)) :: rest)) :=
  r_put C0 hG.1 hG.2 (lt_c hp) (phC_at hp) hc k hk hkl hl hfin hd hn hfit hdg fun H1 locs1 hR hS => kk H1 locs1 ⟨by unfold gCW; rw [List.length_set]; exact hR.congr (fun k _ => phC_set (List.getElem?_eq_some_iff.mp hp).1 k), hS⟩
theorem c_putF (C0 : gC p s m meth c args cc nL own D base Z) (hG : gCH D base s t ph cs H locs) {C : String} {T : u_T} {N ci index : Nat} {fs : List Value} {v : Value} {ty : FieldType} (hp : cs[j]? = some (.inr (ci, fs))) (hc : classes[ci]? = some (C, T, N)) (k : Nat) (hk : k < N) (hkl : k < fs.length)
    (hl : Cond.fieldLink own index (T k).1 (T k).2.1 (T k).2.2.1 ∈ wG) (hfin : (T k).2.2.2 = true) (hin2 : meth.name = "<init>") (hdecl : (T k).1 = own) (hd : parseFieldDescriptor (T k).2.2.1 = some ty) (hn : narrow ty v = v) (hfit : fits ty v = true) (hdg : decode cc pc = .ok (.putfield index, 3))
    (kk : ∀ (H1 : Heap) (locs1 : List Loc), gCH D base s t ph (cs.set j (.inr (ci, fs.set k v))) H1 locs1 → W p l e R s m args below meth c H1 locs1 cells slots Q (F0 m (pc + 3) ls rest)) : W p l e R s m args below meth c H locs cells slots Q (F0 m pc ls (v :: .ref (base + (t + j)) :: rest)) :=
  r_putF C0 hG.1 hG.2 (lt_c hp) (phC_at hp) hc k hk hkl hl hfin hin2 hdecl hd hn hfit hdg fun H1 locs1 hR hS => kk H1 locs1 ⟨by unfold gCW; rw [List.length_set]; exact hR.congr (fun k _ => phC_set (List.getElem?_eq_some_iff.mp hp).1 k), hS⟩
theorem c_iast (C0 : gC p s m meth c args cc nL own D base Z) (hG : gCH D base s t ph cs H locs) {N : Nat} {f : Nat → Int32} (hp : cs[j]? = some (.inl (D.2 0, N, .inl f))) {i x : Int32} (hin : vp_in i N) (hdg : decode cc pc = .ok (.iastore, 1))
    (kk : ∀ (H1 : Heap) (locs1 : List Loc), gCH D base s t ph (cs.set j (.inl (D.2 0, N, .inl (upd f i.toNatClampNeg x)))) H1 locs1 → W p l e R s m args below meth c H1 locs1 cells slots Q (F0 m (pc + 1) ls rest)) : W p l e R s m args below meth c H locs cells slots Q (F0 m pc ls (.int x :: .int i :: .ref (base + (t + j)) :: rest)) :=
  r_iast C0 hG.1 hG.2 (lt_c hp) (phC_at hp) hin hdg fun H1 locs1 hR hS => kk H1 locs1 ⟨by unfold gCW; rw [List.length_set]; exact hR.congr (fun k _ => phC_set (List.getElem?_eq_some_iff.mp hp).1 k), hS⟩
theorem c_aast (C0 : gC p s m meth c args cc nL own D base Z) (hG : gCH D base s t ph cs H locs) {N : Nat} {f : Nat → Option Nat} {T : u_T} {NT ci jv : Nat} {vs : List Value} (hp : cs[j]? = some (.inl (D.2 3, N, .inr (.inr (.inr (.inr f)))))) (hpv : cs[jv]? = some (.inr (ci, vs))) (hc : classes[ci]? = some ("GossipTrain$Tape", T, NT)) {i : Int32} (hin : vp_in i N) (hdg : decode cc pc = .ok (.aastore, 1))
    (kk : ∀ (H1 : Heap) (locs1 : List Loc), gCH D base s t ph (cs.set j (.inl (D.2 3, N, .inr (.inr (.inr (.inr (va_up f i.toNatClampNeg (some (base + (t + jv))))))))) ) H1 locs1 → W p l e R s m args below meth c H1 locs1 cells slots Q (F0 m (pc + 1) ls rest)) : W p l e R s m args below meth c H locs cells slots Q (F0 m pc ls (.ref (base + (t + jv)) :: .int i :: .ref (base + (t + j)) :: rest)) := by
  obtain ⟨hx, hb, hml, hown, hts, hN, hK, hZ, hbl, hlk⟩ := C0
  have hlt : i.toNatClampNeg < N := Nat.not_le.mp fun q => hin (Or.inr q)
  have h0 : ¬ i < 0 := fun q => hin (Or.inl q)
  have ha : H[base + (t + j)]? = some (vp_cell (D.2 3) (N, .inr (.inr (.inr (.inr f))))) := (gRW.one hG.1 (lt_c hp) (phC_at hp)) 0 _ rfl
  obtain ⟨r', hr', cellV, g1, g2, g3, -⟩ := (gRW.one hG.1 (lt_c hpv) (phC_at hpv)) 0 _ rfl
  have hcls := (hK.1 ci _ hc).2
  obtain ⟨kA, comp, k1, k2, k3, -⟩ := (hK.2 3 _ rfl).2
  have hcomp : comp = D.1.1 ci := Option.some.inj (k3.symm.trans hcls.1)
  subst hcomp
  obtain ⟨kC, hkC, -⟩ := hcls.2
  refine W.aast hx hb ha (fun q h => by cases h) (fun h => by cases h) k1 k2 rfl hkC ⟨h0, by show _ < (arrV _ _ _).slots.size; rw [arrV_size]; exact hlt⟩ g1 (fun q h => by rw [g3] at h; cases h) (by rw [g2]; exact hkC) (by rw [g2]; exact va_assign hcls) rfl rfl hdg fun H1 e z oq => ?_
  have he : va_at D.1 classes (base + (t + j), .inl (D.2 3, (N, .inr (.inr (.inr (.inr (va_up f i.toNatClampNeg (some (base + (t + jv)))))))))) H1 := by
    show H1[base + (t + j)]? = some (vp_cell _ _)
    rw [e]
    rw [vp_cell_q, vp_cell_q, arrV_store]
    congr 2
    funext q
    by_cases hq : q = i.toNatClampNeg
    · subst hq
      simp [updV, va_up, va_rf]
    · simp [updV, va_up, hq]
  exact kk H1 _ ⟨by unfold gCW; rw [List.length_set]; exact (gRW.set hG.1 he z oq).congr (fun k _ => phC_set (List.getElem?_eq_some_iff.mp hp).1 k), gF_put hG.2 z oq⟩
theorem c_new (C0 : gC p s m meth c args cc nL own D base Z) (hG : gCH D base s t ph cs H locs) {C : String} {T : u_T} {N ci index : Nat} (hc : classes[ci]? = some (C, T, N)) (ty : Nat → FieldType) (hty : ∀ k, k < N → parseFieldDescriptor (T k).2.2.1 = some (ty k))
    {fs : List Value} (hfs : ∀ j, j < N → defaultValue (ty j) = vp_V fs j) (hcl : Cond.classLink own index C ∈ wG) (hinst : Cond.instantiable C N ∈ wG) (hini : Cond.initialized C ∈ wG) (hcells : cells + 1 ≤ R.cells) (hslots : slots + N ≤ R.slots) (hdg : decode cc pc = .ok (.new index, 3))
    (kk : ∀ (H1 : Heap), gCH D base s t ph (cs ++ [.inr (ci, fs)]) H1 locs → W p l e R s m args below meth c H1 locs (cells + 1) (slots + N) Q (F0 m (pc + 3) ls (.ref (base + (t + cs.length)) :: rest))) : W p l e R s m args below meth c H locs cells slots Q (F0 m pc ls rest) :=
  r_new C0 hG.1 hG.2 hc ty hty hfs hcl hinst hini hcells hslots hdg fun H1 hR hS => kk H1 ⟨by unfold gCW; rw [List.length_append]; exact hR.congr (fun k hk => phC_push k hk), hS⟩
theorem c_newa (C0 : gC p s m meth c args cc nL own D base Z) (hG : gCH D base s t ph cs H locs) {atype : ArrayType} {ty : FieldType} (hty : newarray.typeOf atype = ty) {i : Nat} (hj : ([(D.2 0, .int), (D.2 1, .boolean), (D.2 2, .long), (D.2 3, .object "GossipTrain$Tape")] : List (ClassId × FieldType))[i]? = some (D.2 i, ty)) (hpr : va_RA s (D.2 i) ty = (s.vm.findClass ("[" ++ ty.toString) = some (D.2 i)))
    {x : Int32} {N : Nat} {a0 : vp_A} (ha : ∀ cA : ClassId, vp_cell cA a0 = arrV cA N (fun _ => defaultValue ty)) (hn : ¬ x < 0) (hN : x.toNatClampNeg = N) (hbytes : N * componentBytes ty ≤ 536870912) (harr : Cond.arrayClass ty ∈ wG) (hcells : cells + 1 ≤ R.cells) (hslots : slots + N ≤ R.slots) (hdg : decode cc pc = .ok (.newarray atype, 2))
    (kk : ∀ (H1 : Heap), gCH D base s t ph (cs ++ [.inl (D.2 i, a0)]) H1 locs → W p l e R s m args below meth c H1 locs (cells + 1) (slots + N) Q (F0 m (pc + 2) ls (.ref (base + (t + cs.length)) :: rest))) : W p l e R s m args below meth c H locs cells slots Q (F0 m pc ls (.int x :: rest)) :=
  r_newa C0 hG.1 hG.2 hty hj hpr ha hn hN hbytes harr hcells hslots hdg fun H1 hR hS => kk H1 ⟨by unfold gCW; rw [List.length_append]; exact hR.congr (fun k hk => phC_push k hk), hS⟩
theorem c_newq (C0 : gC p s m meth c args cc nL own D base Z) (hG : gCH D base s t ph cs H locs) {index : Nat} (hcl : Cond.classLink own index "GossipTrain$Tape" ∈ wG) (hov : va_AO "GossipTrain$Tape" s)
    {x : Int32} {N : Nat} (hn : ¬ x < 0) (hN : x.toNatClampNeg = N) (hbytes : N * 4 ≤ 536870912) (hcells : cells + 1 ≤ R.cells) (hslots : slots + N ≤ R.slots) (hdg : decode cc pc = .ok (.anewarray index, 3))
    (kk : ∀ (H1 : Heap), gCH D base s t ph (cs ++ [.inl (D.2 3, (N, .inr (.inr (.inr (.inr (fun _ => none))))))]) H1 locs → W p l e R s m args below meth c H1 locs (cells + 1) (slots + N) Q (F0 m (pc + 3) ls (.ref (base + (t + cs.length)) :: rest))) : W p l e R s m args below meth c H locs cells slots Q (F0 m pc ls (.int x :: rest)) := by
  obtain ⟨hx, hb, hml, hown, hts, hNw, hK, hZ, hbl, hlk⟩ := C0
  subst hN
  refine W.anew hx hb hown (hts _ hcl) (va_AO.use hov) rfl hdg rfl hn hbytes hcells hslots fun cA kA comp f1 f2 f3 f4 => ?_
  have hcA : cA = D.2 3 := by
    obtain ⟨kA', comp', -, -, -, k4⟩ := (hK.2 3 _ rfl).2
    exact Option.some.inj (f1.symm.trans k4)
  subst hcA
  generalize hH1 : H.push ({ cls := D.2 3, slots := Array.replicate x.toNatClampNeg .null, vm := .none } : Cell) = H1
  have z1 : H1.size = H.size + 1 := by rw [← hH1, Array.size_push]
  have e1 : H1[H.size]? = some (arrV (D.2 3) x.toNatClampNeg (fun _ => .null)) := by rw [← hH1, Array.getElem?_push_size, ← arrV_new]
  have o1 : ∀ q : Nat, q < H.size → H1[q]? = H[q]? := fun q hq => by rw [← hH1, Array.getElem?_push, if_neg (Nat.ne_of_lt hq)]
  have hsz : H.size = base + (t + cs.length) := hG.1.1
  have hR := gRW.push (e := .inl (D.2 3, (x.toNatClampNeg, .inr (.inr (.inr (.inr (fun _ => none))))))) hG.1 (by show H1[base + (t + cs.length)]? = some (vp_cell _ _); rw [vp_cell_q, ← hsz]; exact e1) z1 o1
  have hS := gF_push (n := t + cs.length) (D := D.1) (ph := ph) hG.2 z1 o1
  rw [hsz]
  exact kk H1 ⟨by unfold gCW; rw [List.length_append]; exact hR.congr (fun k hk => phC_push k hk), hS⟩
theorem c_obj (C0 : gC p s m meth c args cc nL own D base Z) {idx : Nat} (hl : Cond.methodLink own idx Lib.objectInit ∈ wG) (hin : Cond.instanceMethod Lib.objectInit ∈ wG) (hco : Cond.code Lib.objectInit ⟨#[0xb1]⟩ 1 none ∈ wG) (hsize : ls.size = nL) {a : Nat} (hdg : decode cc pc = .ok (.invokespecial idx, 3)) (hR : 1 ≤ R.frames ∧ (rest.map fun v => v.category).sum + 12 ≤ R.locals)
    (kk : W p l e R s m args below meth c H locs cells slots Q (F0 m (pc + 3) ls rest)) : W p l e R s m args below meth c H locs cells slots Q (F0 m pc ls (.ref a :: rest)) := by
  obtain ⟨hx, hb, hml, hown, hts, hN, hK, hZ, hbl, hlk⟩ := C0
  exact W.objInit hx hb hown (hts _ hl) (hts _ hin) (hts _ hco) rfl (by rw [hml]; exact hsize) rfl hdg hR.1 (by show 2 * 0 + _ + 12 ≤ _; have := hR.2; omega) kk
/-- a constructor's call: its object is the last cell -/
theorem c_call (C0 : gC p s m meth c args cc nL own D base Z) {y : MethodName} {bytes : ByteArray} {maxL nA d mc ms index : Nat} {As : List Value} {e0 : va_E} {cs1 : List va_E} (hG : gCH D base s t ph (cs ++ [e0]) H locs) (hj : j = cs.length) (hM : Met l y (gws y bytes maxL none) (gRm d mc ms) (gPcC D base Z (t + j) (phC ph t cs) [e0] (.ref (base + (t + j)) :: As)) (gQC D base (t + j) (phC ph t cs) cs1) mc ms (gF base))
    (hm : gMth y bytes maxL nA none) (hi : Cond.instanceMethod y ∈ wG) (hy1 : y.name = "<init>") (hlk : Cond.methodLink own index y ∈ wG) (hR : d + 1 ≤ R.frames ∧ 8 + (maxL + 11) + 40 * d ≤ R.locals) (hn : As.length = nA) (hsize : ls.size = nL) {st0 : List Value} (hstack : st0 = As.reverse ++ .ref (base + (t + j)) :: rest) (hW : (rest.map fun v => v.category).sum ≤ 8) (hdg : decode cc pc = .ok (.invokespecial index, 3)) (hf : cells + mc ≤ R.cells ∧ slots + ms ≤ R.slots)
    (kk : ∀ (H1 : Heap) (locs1 : List Loc), gCH D base s t ph (cs ++ cs1) H1 locs1 → W p l e R s m args below meth c H1 locs1 (cells + mc) (slots + ms) Q (F0 m (pc + 3) ls rest)) : W p l e R s m args below meth c H locs cells slots Q (F0 m pc ls st0) := by
  subst hj
  have hG0 : gCW D base (t + cs.length) (phC ph t cs) [e0] H := by
    have h := hG.1
    unfold gCW at h ⊢
    rw [List.length_append, ← Nat.add_assoc] at h
    exact h.congr (fun k _ => (phC_app k).symm)
  have hpre : ∀ U : State, U.heap = H → s.WarmedH U.vm → gPcC D base Z (t + cs.length) (phC ph t cs) [e0] (.ref (base + (t + cs.length)) :: As) (Value.ref (base + (t + cs.length)) :: As).toArray U := by
    intro U hU hWm
    obtain ⟨hx, hb, hml, hown, hts, hN, hK, hZ, hbl, hlk⟩ := C0
    exact ⟨rfl, by rw [hU]; exact hG0, gK.moved hWm.alike hK, by rw [hU]; exact gZ.kept (gZ.warm hWm hZ) hG.2.2.1, nOK.warm hWm hN⟩
  refine va_callv (va_runI (g_fix C0) hM ⟨g_callB C0 hm hlk hR, hy1, C0.2.2.2.2.1 _ hi⟩ ⟨gPreC.blind, hpre⟩ rfl hn hsize hstack (lv_room hW) hdg hf) hG.2 (fun _ _ h => h) (fun _ h => h) (fun u' T1 H1 locs1 ht hvm hp hB hz hk hS => ?_)
  have hB' : gCW D base (t + cs.length) (phC ph t cs) cs1 H1 := by rw [← ht]; exact hB
  refine kk H1 locs1 ⟨?_, hS⟩
  unfold gCW at hB' ⊢
  rw [List.length_append, ← Nat.add_assoc]
  exact hB'.congr (fun k _ => phC_app k)
theorem c_callN (C0 : gC p s m meth c args cc nL own D base Z) {y : MethodName} {bytes : ByteArray} {maxL nA d mc ms index : Nat} {As : List Value} {e0 : va_E} {cs1 : List va_E} (hG : gCH D base s t ph (cs ++ [e0]) H locs) (hj : j = cs.length) (hM : Met l y (gws y bytes maxL none) (gRm d mc ms) (gPcC D base Z (t + j) (phC ph t cs) [e0] (.ref (base + (t + j)) :: As)) (gQC D base (t + j) (phC ph t cs) cs1) mc ms (gF base))
    (hm : gMth y bytes maxL nA none) (hi : Cond.instanceMethod y ∈ wG) (hy1 : y.name = "<init>") {host : String} (hlk : Cond.methodLinkNest own index y host ∈ wN) (hR : d + 1 ≤ R.frames ∧ 8 + (maxL + 11) + 40 * d ≤ R.locals) (hn : As.length = nA) (hsize : ls.size = nL) {st0 : List Value} (hstack : st0 = As.reverse ++ .ref (base + (t + j)) :: rest) (hW : (rest.map fun v => v.category).sum ≤ 8) (hdg : decode cc pc = .ok (.invokespecial index, 3)) (hf : cells + mc ≤ R.cells ∧ slots + ms ≤ R.slots)
    (kk : ∀ (H1 : Heap) (locs1 : List Loc), gCH D base s t ph (cs ++ cs1) H1 locs1 → W p l e R s m args below meth c H1 locs1 (cells + mc) (slots + ms) Q (F0 m (pc + 3) ls rest)) : W p l e R s m args below meth c H locs cells slots Q (F0 m pc ls st0) := by
  subst hj
  have hG0 : gCW D base (t + cs.length) (phC ph t cs) [e0] H := by
    have h := hG.1
    unfold gCW at h ⊢
    rw [List.length_append, ← Nat.add_assoc] at h
    exact h.congr (fun k _ => (phC_app k).symm)
  have hpre : ∀ U : State, U.heap = H → s.WarmedH U.vm → gPcC D base Z (t + cs.length) (phC ph t cs) [e0] (.ref (base + (t + cs.length)) :: As) (Value.ref (base + (t + cs.length)) :: As).toArray U := by
    intro U hU hWm
    obtain ⟨hx, hb, hml, hown, hts, hN, hK, hZ, hbl, hlk⟩ := C0
    exact ⟨rfl, by rw [hU]; exact hG0, gK.moved hWm.alike hK, by rw [hU]; exact gZ.kept (gZ.warm hWm hZ) hG.2.2.1, nOK.warm hWm hN⟩
  refine va_callv (va_runIN (g_fix C0) hM ⟨g_callN C0 hm hlk hR, hy1, C0.2.2.2.2.1 _ hi⟩ ⟨gPreC.blind, hpre⟩ rfl hn hsize hstack (lv_room hW) hdg hf) hG.2 (fun _ _ h => h) (fun _ h => h) (fun u' T1 H1 locs1 ht hvm hp hB hz hk hS => ?_)
  have hB' : gCW D base (t + cs.length) (phC ph t cs) cs1 H1 := by rw [← ht]; exact hB
  refine kk H1 locs1 ⟨?_, hS⟩
  unfold gCW at hB' ⊢
  rw [List.length_append, ← Nat.add_assoc]
  exact hB'.congr (fun k _ => phC_app k)
theorem c_ret (C0 : gC p s m meth c args cc nL own D base Z) (hG : gCH D base s t ph cs H locs) (hr : meth.sig.returnType = none) (hdg : decode cc pc = .ok (.return_, 1)) : W p l e R s m args below meth c H locs cells slots (MQ below (gQC D base t ph cs) args s cells slots (gF base)) (F0 m pc ls []) :=
  W.vret C0.1 C0.2.1 hr (fun T1 ht hW => ⟨⟨(), rfl, trivial, by show gCW D base t ph cs T1.heap; rw [ht]; exact hG.1⟩, hG.2.F ht⟩) hG.2.2.2 hdg C0.2.2.2.2.2.2.2.2.2
end CTR
