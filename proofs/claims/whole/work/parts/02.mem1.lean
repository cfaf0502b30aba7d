/-! WORDS: all good words of the tables; the nest words apart -/
def wG : List Cond := lw_tbl.filter goodWord
def isNw : Cond → Bool
  | .fieldLinkNest .. => true
  | .methodLinkNest .. => true
  | _ => false
def wN : List Cond := tables_1.filter isNw
theorem wG_good {w : Cond} (h : w ∈ wG) : goodWord w = true := (List.mem_filter.mp h).2
theorem wG_in {w : Cond} (h : w ∈ wG) : w ∈ lw_tbl := (List.mem_filter.mp h).1
theorem wG_of {w : Cond} (h : w ∈ lw_tbl) (g : goodWord w = true) : w ∈ wG := List.mem_filter.mpr ⟨h, g⟩
def gws (y : MethodName) (cc : ByteArray) (n : Nat) (ret : Option FieldType) : List Cond := Cond.code y cc n ret :: wG
theorem gws_good {y : MethodName} {cc : ByteArray} {n : Nat} {ret : Option FieldType} (h : Cond.code y cc n ret ∈ wG) : GoodIn wG (gws y cc n ret) := by
  intro w hw
  rcases List.mem_cons.mp hw with rfl | hw
  · exact ⟨h, good_of_word (wG_good h)⟩
  · exact ⟨hw, good_of_word (wG_good hw)⟩
def nOK (s : State) : Prop := ∀ w ∈ wN, va_Nw w s
theorem nOK.warm {s U : State} (hW : s.WarmedH U.vm) (h : nOK s) : nOK U := by
  intro w hw
  have hn := (List.mem_filter.mp hw).2
  have h1 := h w hw
  cases w <;> first | exact va_Nw.warmF hW h1 | exact va_Nw.warmM hW h1 | exact absurd hn (by simp [isNw])
theorem nOK.same {u U : State} (hv : u.vm = U.vm) (h : nOK u) : nOK U := by
  intro w hw
  have hn := (List.mem_filter.mp hw).2
  have h1 := h w hw
  cases w <;> first | exact va_Nw.same rfl hv h1 | exact absurd hn (by simp [isNw])
/-! CLASSES -/
def classes : List vw_C := [(RX0, TX0, 3), (RX1, TX1, 3), (RX2, TX2, 5), (RX3, TX3, 4), (RX4, TX4, 5), (RX5, TX5, 3), (RX6, TX6, 14), (RX7, TX7, 10), (RX8, TX8, 77)]
theorem iX0 : ∀ w ∈ wsX00, w ∈ wG := by decide +kernel
theorem iX1 : ∀ w ∈ wsX10, w ∈ wG := by decide +kernel
theorem iX2 : ∀ w ∈ wsX20, w ∈ wG := by decide +kernel
theorem iX3 : ∀ w ∈ wsX30, w ∈ wG := by decide +kernel
theorem iX4 : ∀ w ∈ wsX40, w ∈ wG := by decide +kernel
theorem iX5 : ∀ w ∈ wsX50, w ∈ wG := by decide +kernel
theorem iX6 : ∀ w ∈ wsX60, w ∈ wG := by decide +kernel
theorem iX7 : ∀ w ∈ wsX70, w ∈ wG := by decide +kernel
theorem iX8 : ∀ w ∈ wsX80, w ∈ wG := by decide +kernel
def clOK (C : String) (T : u_T) (N : Nat) : Prop := (∀ w ∈ u_ws C T N, w ∈ wG) ∧ (∃ ty : Nat → FieldType, ∀ k, k < N → parseFieldDescriptor (T k).2.2.1 = some (ty k)) ∧ ∀ a, a < N → ∀ b, b < N → a ≠ b → (T a).2.1 ≠ (T b).2.1
theorem cl_ok : ∀ (ci : Nat) {C : String} {T : u_T} {N : Nat}, classes[ci]? = some (C, T, N) → clOK C T N
  | 0, _, _, _, h => by cases h; exact ⟨iX0, ⟨_, tyX0_ok⟩, nmX0⟩
  | 1, _, _, _, h => by cases h; exact ⟨iX1, ⟨_, tyX1_ok⟩, nmX1⟩
  | 2, _, _, _, h => by cases h; exact ⟨iX2, ⟨_, tyX2_ok⟩, nmX2⟩
  | 3, _, _, _, h => by cases h; exact ⟨iX3, ⟨_, tyX3_ok⟩, nmX3⟩
  | 4, _, _, _, h => by cases h; exact ⟨iX4, ⟨_, tyX4_ok⟩, nmX4⟩
  | 5, _, _, _, h => by cases h; exact ⟨iX5, ⟨_, tyX5_ok⟩, nmX5⟩
  | 6, _, _, _, h => by cases h; exact ⟨iX6, ⟨_, tyX6_ok⟩, nmX6⟩
  | 7, _, _, _, h => by cases h; exact ⟨iX7, ⟨_, tyX7_ok⟩, nmX7⟩
  | 8, _, _, _, h => by cases h; exact ⟨iX8, ⟨_, tyX8_ok⟩, nmX8⟩
  | n + 9, _, _, _, h => by simp [classes] at h
/-! THE STATICS AND STRINGS BELOW THE BASE -/
/-- addresses: KIND_ABOVE's array, BODIES' array, the Strings, their byte arrays -/
abbrev gZt : Type := Nat × Nat × (Nat → Nat) × (Nat → Nat)
def tKA : List Int32 := [-1, 0, 0, 0, 1, 2, 3]
def tBO : List Int32 := [10, 11, 12, 0, 20, 0, 30, 0, 0, 0, 0, 40, 50, 51, 0, 0, 0, 60, 71, 70, 0]
def sLen : List Nat := [5, 5, 5, 6]
def sByt : List (List Int32) := [[119, 97, 114, 109, 32], [108, 111, 112, 101, 32], [104, 97, 109, 101, 32], [112, 107, 118, 116, 111, 109]]
def sIdx (i : Nat) : Nat := match i with
  | 0 => 44
  | 1 => 54
  | 2 => 59
  | _ => 83
def sTxt (i : Nat) : String := match i with
  | 0 => "warm "
  | 1 => "lope "
  | 2 => "hame "
  | _ => "pkvtom"
def gF (base : Nat) : Nat → Prop := fun q => base ≤ q
def gZ (base : Nat) (Z : gZt) (U : State) (H : Heap) : Prop :=
  va_Z "GossipTrain" "KIND_ABOVE" "[I" (.ref Z.1) (gF base) U H ∧ va_T .int Z.1 7 (fun j => .int (tKA.getD j 0)) (gF base) U H ∧
  va_Z "GossipTrain" "BODIES" "[I" (.ref Z.2.1) (gF base) U H ∧ va_T .int Z.2.1 21 (fun j => .int (tBO.getD j 0)) (gF base) U H ∧
  va_Z "java/lang/String" "COMPACT_STRINGS" "Z" (.int 1) (gF base) U H ∧ vk_S 4 sLen sByt Z.2.2.1 Z.2.2.2 (gF base) U H ∧
  (∀ i, i < 4 → vk_R RX3 (sIdx i) (sTxt i) (Z.2.2.1 i) U) ∧ va_Zq "jdk/internal/util/Preconditions" "SIOOBE_FORMATTER" "Ljava/util/function/BiFunction;" (gF base) U H
theorem gZ.warm {base : Nat} {Z : gZt} {s U : State} {H : Heap} (hW : s.WarmedH U.vm) (h : gZ base Z s H) : gZ base Z U H :=
  ⟨va_Z.moved hW.alike h.1, va_T.moved hW.alike h.2.1, va_Z.moved hW.alike h.2.2.1, va_T.moved hW.alike h.2.2.2.1, va_Z.moved hW.alike h.2.2.2.2.1, vk_S.moved hW.alike h.2.2.2.2.2.1, fun i hi => vk_R.warm hW (h.2.2.2.2.2.2.1 i hi), va_Zq.moved hW.alike h.2.2.2.2.2.2.2⟩
theorem gZ.same {base : Nat} {Z : gZt} {u U : State} {H : Heap} (hv : u.vm = U.vm) (h : gZ base Z u H) : gZ base Z U H := by
  have ha : u.vm.Alike U.vm := by rw [hv]; exact Vm.Alike.refl _
  exact ⟨va_Z.moved ha h.1, va_T.moved ha h.2.1, va_Z.moved ha h.2.2.1, va_T.moved ha h.2.2.2.1, va_Z.moved ha h.2.2.2.2.1, vk_S.moved ha h.2.2.2.2.2.1, fun i hi => vk_R.same hv.symm (h.2.2.2.2.2.2.1 i hi), va_Zq.moved ha h.2.2.2.2.2.2.2⟩
theorem gZ.kept {base : Nat} {Z : gZt} {U : State} {H H1 : Heap} (h : gZ base Z U H) (hq : ∀ a : Nat, a < H.size → ¬ gF base a → H1[a]? = H[a]?) : gZ base Z U H1 :=
  ⟨h.1.kept hq, h.2.1.kept hq, h.2.2.1.kept hq, h.2.2.2.1.kept hq, h.2.2.2.2.1.kept hq, h.2.2.2.2.2.1.kept hq, h.2.2.2.2.2.2.1, h.2.2.2.2.2.2.2.kept hq⟩
/-! THE TABLES -/
abbrev gDt : Type := va_G × (Nat → ClassId)
def gK (D : gDt) (U : State) : Prop := va_K D.1 classes [(D.2 0, .int), (D.2 1, .boolean), (D.2 2, .long), (D.2 3, .object "GossipTrain$Tape")] U
theorem gK.moved {D : gDt} {u U : State} (hvm : u.vm.Alike U.vm) (h : gK D u) : gK D U := va_K.moved hvm h
/-- what a method's walk keeps in hand -/
def gC (p : Program) (s : State) (m : MethodId) (meth : Method) (c : Code) (args : Array Value) (cc : ByteArray) (nL : Nat) (own : String) (D : gDt) (base : Nat) (Z : gZt) : Prop :=
  p.tables.exec = Jvm.exec ∧ c.code = cc ∧ c.maxLocals = nL ∧ s.vm.findClass own = some m.cls ∧ (∀ w ∈ wG, w.before args s = true) ∧ nOK s ∧ gK D s ∧ gZ base Z s s.heap ∧ base ≤ s.heap.size ∧ meth.locks = false
/-! THE RAW WORLD: the cells from the base on, one by one -/
def gRW (D : va_G) (base n : Nat) (ph : Nat → va_E) (H : Heap) : Prop := H.size = base + n ∧ ∀ k, k < n → va_at D classes (base + k, ph k) H
def upE (ph : Nat → va_E) (t : Nat) (e : va_E) : Nat → va_E := fun k => if k = t then e else ph k
theorem upE_s {ph : Nat → va_E} {t : Nat} {e : va_E} : upE ph t e t = e := if_pos rfl
theorem upE_n {ph : Nat → va_E} {t k : Nat} {e : va_E} (h : k ≠ t) : upE ph t e k = ph k := if_neg h
theorem gRW.congr {D : va_G} {base n : Nat} {ph ph' : Nat → va_E} {H : Heap} (h : gRW D base n ph H) (he : ∀ k, k < n → ph k = ph' k) : gRW D base n ph' H := ⟨h.1, fun k hk => by rw [← he k hk]; exact h.2 k hk⟩
theorem gP1 {D : va_G} {q : Nat × va_E} {H : Heap} (h : va_at D classes q H) : va_P D classes [q] H := by
  intro k x hx
  cases k with
  | zero => cases hx; exact h
  | succ k => simp at hx
theorem gRW.one {D : va_G} {base n t : Nat} {ph : Nat → va_E} {H : Heap} {e : va_E} (h : gRW D base n ph H) (ht : t < n) (hp : ph t = e) : va_P D classes [(base + t, e)] H := gP1 (by rw [← hp]; exact h.2 t ht)
theorem gRW.set {D : va_G} {base n t : Nat} {ph : Nat → va_E} {H H1 : Heap} {e : va_E} (h : gRW D base n ph H) (he : va_at D classes (base + t, e) H1) (z : H1.size = H.size) (oq : ∀ q : Nat, q ≠ base + t → H1[q]? = H[q]?) : gRW D base n (upE ph t e) H1 := by
  refine ⟨z.trans h.1, fun k hk => ?_⟩
  by_cases hkt : k = t
  · subst hkt
    rw [upE_s]; exact he
  · rw [upE_n hkt]
    exact (h.2 k hk).kept (oq _ (fun z => hkt (Nat.add_left_cancel z)))
theorem gRW.push {D : va_G} {base n : Nat} {ph : Nat → va_E} {H H1 : Heap} {e : va_E} (h : gRW D base n ph H) (he : va_at D classes (base + n, e) H1) (z : H1.size = H.size + 1) (oq : ∀ q : Nat, q < H.size → H1[q]? = H[q]?) : gRW D base (n + 1) (upE ph n e) H1 := by
  refine ⟨by rw [z, h.1]; rfl, fun k hk => ?_⟩
  by_cases hkt : k = n
  · subst hkt
    rw [upE_s]; exact he
  · rw [upE_n hkt]
    have hl : k < n := by omega
    exact (h.2 k hl).kept (oq _ (by rw [h.1]; exact Nat.add_lt_add_left hl base))
theorem gF_put {base : Nat} {H0 H H1 : Heap} {locs : List Loc} {a k : Nat} (h : va_S (gF base) H0 H locs) (z : H1.size = H.size) (oq : ∀ q : Nat, q ≠ base + a → H1[q]? = H[q]?) : va_S (gF base) H0 H1 (locs ++ [⟨base + a, k⟩]) := h.put z oq (Nat.le_add_right _ _)
theorem gF_push {base n : Nat} {s : State} {D : va_G} {ph : Nat → va_E} {H H1 : Heap} {locs : List Loc} (h : va_S (gF base) s.heap H locs) (z : H1.size = H.size + 1) (oq : ∀ q : Nat, q < H.size → H1[q]? = H[q]?) : va_S (gF base) s.heap H1 locs :=
  ⟨Nat.le_trans h.1 (by omega), fun q h1 h2 => (oq q (Nat.lt_of_lt_of_le h1 h.1)).trans (h.2.1 q h1 h2), h.2.2⟩
section RAW
variable {p : Program} {l : Launch} {e : Env} {R : Room} {s : State} {m : MethodId} {args : Array Value} {below : List Frame} {meth : Method} {c : Code} {H : Heap} {locs : List Loc} {cells slots : Nat} {Q : State → Prop}
variable {cc : ByteArray} {pc nL : Nat} {ls : Array Slot} {rest : List Value} {own : String} {D : gDt} {base : Nat} {Z : gZt} {n t : Nat} {ph : Nat → va_E}
theorem r_get (C0 : gC p s m meth c args cc nL own D base Z) (hR : gRW D.1 base n ph H) {C : String} {T : u_T} {N ci index : Nat} {fs : List Value} {v : Value} (ht : t < n) (hp : ph t = .inr (ci, fs)) (hc : classes[ci]? = some (C, T, N)) (k : Nat) (hk : k < N) (hv : fs[k]? = some v)
    (hl : Cond.fieldLink own index (T k).1 (T k).2.1 (T k).2.2.1 ∈ wG) (hdg : decode cc pc = .ok (.getfield index, 3))
    (kk : W p l e R s m args below meth c H locs cells slots Q (F0 m (pc + 3) ls (v :: rest))) : W p l e R s m args below meth c H locs cells slots Q (F0 m pc ls (.ref (base + t) :: rest)) := by
  obtain ⟨hx, hb, hml, hown, hts, hN, hK, hZ, hbl, hlk⟩ := C0
  exact va_get (D := D.1) hx hb hts (cl_ok ci hc).1 hown hK (hR.one ht hp) 0 rfl hc k hk (hts _ hl) (fun _ h => h) hv hdg kk
theorem r_getN (C0 : gC p s m meth c args cc nL own D base Z) (hR : gRW D.1 base n ph H) {C host : String} {T : u_T} {N ci index : Nat} {fs : List Value} {v : Value} (ht : t < n) (hp : ph t = .inr (ci, fs)) (hc : classes[ci]? = some (C, T, N)) (k : Nat) (hk : k < N) (hv : fs[k]? = some v)
    (hl : Cond.fieldLinkNest own index (T k).1 (T k).2.1 (T k).2.2.1 host ∈ wN) (hdg : decode cc pc = .ok (.getfield index, 3))
    (kk : W p l e R s m args below meth c H locs cells slots Q (F0 m (pc + 3) ls (v :: rest))) : W p l e R s m args below meth c H locs cells slots Q (F0 m pc ls (.ref (base + t) :: rest)) := by
  obtain ⟨hx, hb, hml, hown, hts, hN, hK, hZ, hbl, hlk⟩ := C0
  exact va_getN (D := D.1) hx hb hts (cl_ok ci hc).1 hown hK (hR.one ht hp) 0 rfl hc k hk (va_Nw.use rfl (hN _ hl)) (fun _ h => h) hv hdg kk
theorem r_put (C0 : gC p s m meth c args cc nL own D base Z) (hR : gRW D.1 base n ph H) (hS0 : va_S (gF base) s.heap H locs) {C : String} {T : u_T} {N ci index : Nat} {fs : List Value} {v : Value} {ty : FieldType} (ht : t < n) (hp : ph t = .inr (ci, fs)) (hc : classes[ci]? = some (C, T, N)) (k : Nat) (hk : k < N) (hkl : k < fs.length)
    (hl : Cond.fieldLink own index (T k).1 (T k).2.1 (T k).2.2.1 ∈ wG) (hfin : (T k).2.2.2 = false) (hd : parseFieldDescriptor (T k).2.2.1 = some ty) (hn : narrow ty v = v) (hfit : fits ty v = true) (hdg : decode cc pc = .ok (.putfield index, 3))
    (kk : ∀ (H1 : Heap) (locs1 : List Loc), gRW D.1 base n (upE ph t (.inr (ci, fs.set k v))) H1 → va_S (gF base) s.heap H1 locs1 → W p l e R s m args below meth c H1 locs1 cells slots Q (F0 m (pc + 3) ls rest)) : W p l e R s m args below meth c H locs cells slots Q (F0 m pc ls (v :: .ref (base + t) :: rest)) := by
  obtain ⟨hx, hb, hml, hown, hts, hN, hK, hZ, hbl, hlk⟩ := C0
  obtain ⟨hin, ⟨ty0, hty⟩, hnm⟩ := cl_ok ci hc
  have hap := va_apart (own := own) hts hin ty0 hty hnm hK hc
  obtain ⟨r, h1, cell, q1, q2, q3, q4⟩ := (hR.one ht hp) 0 _ rfl
  have hr : r = (C, T, N) := Option.some.inj (h1.symm.trans hc)
  subst hr
  obtain ⟨hS, hfc, kC, hkC, hkind⟩ := hK.1 ci _ hc
  obtain ⟨cf, kf, fi, f, hi, hsl⟩ := hS k hk
  have hlay := hts _ (hin _ (u_in_lay hk))
  unfold u_lay at hlay
  rw [if_neg (by rw [hfin]; decide)] at hlay
  have hst := (u_facts hfc hkC (u_lays hts hin hk) hi).1
  have h6 := u_store hfc hkC hkind hlay hi hd hn hfit
  refine W.putK hx hb (f := f) ⟨hown, hts _ hl, ⟨_, _, _, hi⟩, hst⟩ (by rw [q2]; exact h6) q1 q3 (by rw [hsl]; exact k2_hasslot (q4 k hk)) rfl rfl hdg fun H' e1 e2 e3 => ?_
  rw [hsl] at e1 ⊢
  exact kk H' _ (hR.set ⟨_, hc, t_OB.to (V := updV (vp_V fs) k v) ⟨_, e1, q2, q3, t_set q4 hap hk v⟩ (fun j _ => vp_updV_set hkl v j)⟩ e2 e3) (gF_put hS0 e2 e3)
theorem r_putN (C0 : gC p s m meth c args cc nL own D base Z) (hR : gRW D.1 base n ph H) (hS0 : va_S (gF base) s.heap H locs) {C host : String} {T : u_T} {N ci index : Nat} {fs : List Value} {v : Value} {ty : FieldType} (ht : t < n) (hp : ph t = .inr (ci, fs)) (hc : classes[ci]? = some (C, T, N)) (k : Nat) (hk : k < N) (hkl : k < fs.length)
    (hl : Cond.fieldLinkNest own index (T k).1 (T k).2.1 (T k).2.2.1 host ∈ wN) (hfin : (T k).2.2.2 = false) (hd : parseFieldDescriptor (T k).2.2.1 = some ty) (hn : narrow ty v = v) (hfit : fits ty v = true) (hdg : decode cc pc = .ok (.putfield index, 3))
    (kk : ∀ (H1 : Heap) (locs1 : List Loc), gRW D.1 base n (upE ph t (.inr (ci, fs.set k v))) H1 → va_S (gF base) s.heap H1 locs1 → W p l e R s m args below meth c H1 locs1 cells slots Q (F0 m (pc + 3) ls rest)) : W p l e R s m args below meth c H locs cells slots Q (F0 m pc ls (v :: .ref (base + t) :: rest)) := by
  obtain ⟨hx, hb, hml, hown, hts, hN, hK, hZ, hbl, hlk⟩ := C0
  obtain ⟨hin, ⟨ty0, hty⟩, hnm⟩ := cl_ok ci hc
  have hap := va_apart (own := own) hts hin ty0 hty hnm hK hc
  obtain ⟨r, h1, cell, q1, q2, q3, q4⟩ := (hR.one ht hp) 0 _ rfl
  have hr : r = (C, T, N) := Option.some.inj (h1.symm.trans hc)
  subst hr
  obtain ⟨hS, hfc, kC, hkC, hkind⟩ := hK.1 ci _ hc
  obtain ⟨cf, kf, fi, f, hi, hsl⟩ := hS k hk
  have hlay := hts _ (hin _ (u_in_lay hk))
  unfold u_lay at hlay
  rw [if_neg (by rw [hfin]; decide)] at hlay
  have hst := (u_facts hfc hkC (u_lays hts hin hk) hi).1
  have h6 := u_store hfc hkC hkind hlay hi hd hn hfit
  refine va_WputK hx hb (f := f) hown (va_Nw.use rfl (hN _ hl)) hi hst (by rw [q2]; exact h6) q1 q3 (by rw [hsl]; exact k2_hasslot (q4 k hk)) rfl rfl hdg fun H' e1 e2 e3 => ?_
  rw [hsl] at e1 ⊢
  exact kk H' _ (hR.set ⟨_, hc, t_OB.to (V := updV (vp_V fs) k v) ⟨_, e1, q2, q3, t_set q4 hap hk v⟩ (fun j _ => vp_updV_set hkl v j)⟩ e2 e3) (gF_put hS0 e2 e3)
theorem r_putF (C0 : gC p s m meth c args cc nL own D base Z) (hR : gRW D.1 base n ph H) (hS0 : va_S (gF base) s.heap H locs) {C : String} {T : u_T} {N ci index : Nat} {fs : List Value} {v : Value} {ty : FieldType} (ht : t < n) (hp : ph t = .inr (ci, fs)) (hc : classes[ci]? = some (C, T, N)) (k : Nat) (hk : k < N) (hkl : k < fs.length)
    (hl : Cond.fieldLink own index (T k).1 (T k).2.1 (T k).2.2.1 ∈ wG) (hfin : (T k).2.2.2 = true) (hin2 : meth.name = "<init>") (hdecl : (T k).1 = own) (hd : parseFieldDescriptor (T k).2.2.1 = some ty) (hn : narrow ty v = v) (hfit : fits ty v = true) (hdg : decode cc pc = .ok (.putfield index, 3))
    (kk : ∀ (H1 : Heap) (locs1 : List Loc), gRW D.1 base n (upE ph t (.inr (ci, fs.set k v))) H1 → va_S (gF base) s.heap H1 locs1 → W p l e R s m args below meth c H1 locs1 cells slots Q (F0 m (pc + 3) ls rest)) : W p l e R s m args below meth c H locs cells slots Q (F0 m pc ls (v :: .ref (base + t) :: rest)) := by
  obtain ⟨hx, hb, hml, hown, hts, hN, hK, hZ, hbl, hlk⟩ := C0
  obtain ⟨hin, ⟨ty0, hty⟩, hnm⟩ := cl_ok ci hc
  have hap := va_apart (own := own) hts hin ty0 hty hnm hK hc
  obtain ⟨r, h1, cell, q1, q2, q3, q4⟩ := (hR.one ht hp) 0 _ rfl
  have hr : r = (C, T, N) := Option.some.inj (h1.symm.trans hc)
  subst hr
  obtain ⟨hS, hfc, kC, hkC, hkind⟩ := hK.1 ci _ hc
  obtain ⟨cf, kf, fi, f, hi, hsl⟩ := hS k hk
  have hlay := hts _ (hin _ (u_in_lay hk))
  unfold u_lay at hlay
  rw [if_pos hfin] at hlay
  have hst := (u_facts hfc hkC (u_lays hts hin hk) hi).1
  have hcf : m.cls = cf := by
    obtain ⟨_, _, c', _, _, _, -, -, hf', -, -, -, hown2, -⟩ := Cond.laysFinal_spec hlay
    have e1 : c' = cf := by have := hi.symm.trans hf'; simp at this; exact this.1.symm
    rw [hdecl] at hown2
    rw [← e1]; exact Option.some.inj (hown.symm.trans hown2)
  have h6 := u_fits hfc hkC hkind (Or.inr hlay) hi hd hn hfit
  refine W.putFinK hx hb hown (hts _ hl) hi hst hcf hin2 (by rw [q2]; exact h6) q1 q3 (by rw [hsl]; exact k2_hasslot (q4 k hk)) rfl rfl hdg fun H' e1 e2 e3 => ?_
  rw [hsl] at e1 ⊢
  exact kk H' _ (hR.set ⟨_, hc, t_OB.to (V := updV (vp_V fs) k v) ⟨_, e1, q2, q3, t_set q4 hap hk v⟩ (fun j _ => vp_updV_set hkl v j)⟩ e2 e3) (gF_put hS0 e2 e3)
/-! arrays -/
theorem r_iald (C0 : gC p s m meth c args cc nL own D base Z) (hR : gRW D.1 base n ph H) {N : Nat} {f : Nat → Int32} (ht : t < n) (hp : ph t = .inl (D.2 0, N, .inl f)) {i : Int32} (hin : vp_in i N) (hdg : decode cc pc = .ok (.iaload, 1))
    (kk : W p l e R s m args below meth c H locs cells slots Q (F0 m (pc + 1) ls (.int (f i.toNatClampNeg) :: rest))) : W p l e R s m args below meth c H locs cells slots Q (F0 m pc ls (.int i :: .ref (base + t) :: rest)) :=
  va_iald (D := D.1) C0.1 C0.2.1 C0.2.2.2.2.2.2.1 (hR.one ht hp) 0 0 rfl rfl hin hdg kk
theorem r_zald (C0 : gC p s m meth c args cc nL own D base Z) (hR : gRW D.1 base n ph H) {N : Nat} {f : Nat → Int32} (ht : t < n) (hp : ph t = .inl (D.2 1, N, .inl f)) {i : Int32} (hin : vp_in i N) (hdg : decode cc pc = .ok (.baload, 1))
    (kk : W p l e R s m args below meth c H locs cells slots Q (F0 m (pc + 1) ls (.int (f i.toNatClampNeg) :: rest))) : W p l e R s m args below meth c H locs cells slots Q (F0 m pc ls (.int i :: .ref (base + t) :: rest)) :=
  va_zald (D := D.1) C0.1 C0.2.1 C0.2.2.2.2.2.2.1 (hR.one ht hp) 0 1 rfl rfl hin hdg kk
theorem r_lald (C0 : gC p s m meth c args cc nL own D base Z) (hR : gRW D.1 base n ph H) {N : Nat} {f : Nat → Int64} (ht : t < n) (hp : ph t = .inl (D.2 2, N, .inr (.inl f))) {i : Int32} (hin : vp_in i N) (hdg : decode cc pc = .ok (.laload, 1))
    (kk : W p l e R s m args below meth c H locs cells slots Q (F0 m (pc + 1) ls (.long (f i.toNatClampNeg) :: rest))) : W p l e R s m args below meth c H locs cells slots Q (F0 m pc ls (.int i :: .ref (base + t) :: rest)) :=
  va_lald (D := D.1) C0.1 C0.2.1 C0.2.2.2.2.2.2.1 (hR.one ht hp) 0 2 rfl rfl hin hdg kk
theorem r_aald (C0 : gC p s m meth c args cc nL own D base Z) (hR : gRW D.1 base n ph H) {N : Nat} {f : Nat → Option Nat} (ht : t < n) (hp : ph t = .inl (D.2 3, N, .inr (.inr (.inr (.inr f))))) {i : Int32} (hin : vp_in i N) (hdg : decode cc pc = .ok (.aaload, 1))
    (kk : W p l e R s m args below meth c H locs cells slots Q (F0 m (pc + 1) ls (va_rf (f i.toNatClampNeg) :: rest))) : W p l e R s m args below meth c H locs cells slots Q (F0 m pc ls (.int i :: .ref (base + t) :: rest)) :=
  va_aldq (D := D.1) C0.1 C0.2.1 C0.2.2.2.2.2.2.1 (hR.one ht hp) 0 3 rfl rfl hin hdg kk
theorem r_iast (C0 : gC p s m meth c args cc nL own D base Z) (hR : gRW D.1 base n ph H) (hS0 : va_S (gF base) s.heap H locs) {N : Nat} {f : Nat → Int32} (ht : t < n) (hp : ph t = .inl (D.2 0, N, .inl f)) {i x : Int32} (hin : vp_in i N) (hdg : decode cc pc = .ok (.iastore, 1))
    (kk : ∀ (H1 : Heap) (locs1 : List Loc), gRW D.1 base n (upE ph t (.inl (D.2 0, N, .inl (upd f i.toNatClampNeg x)))) H1 → va_S (gF base) s.heap H1 locs1 → W p l e R s m args below meth c H1 locs1 cells slots Q (F0 m (pc + 1) ls rest)) : W p l e R s m args below meth c H locs cells slots Q (F0 m pc ls (.int x :: .int i :: .ref (base + t) :: rest)) := by
  have hc0 : H[base + t]? = some (vp_cell (D.2 0) (N, .inl f)) := (hR.one ht hp) 0 _ rfl
  refine W.iast C0.1 C0.2.1 hc0 ((C0.2.2.2.2.2.2.1.2 0 _ rfl).1 N (fun j => .int (f j))) (fun q => by cases q) (by show ¬ (i < 0 ∨ (arrV _ _ _).slots.size ≤ _); rw [arrV_size]; exact hin) rfl rfl hdg fun H1 e z oq => ?_
  refine kk H1 _ (hR.set ?_ z oq) (gF_put hS0 z oq)
  show H1[base + t]? = some (vp_cell _ _)
  rw [e]
  rw [vp_cell_i, vp_cell_i, arrV_store]
  congr 2
  funext q
  by_cases hq : q = i.toNatClampNeg
  · subst hq
    simp [updV, upd]
  · simp [updV, upd, hq]
theorem r_zast (C0 : gC p s m meth c args cc nL own D base Z) (hR : gRW D.1 base n ph H) (hS0 : va_S (gF base) s.heap H locs) {N : Nat} {f : Nat → Int32} (ht : t < n) (hp : ph t = .inl (D.2 1, N, .inl f)) {i x : Int32} (hin : vp_in i N) (hdg : decode cc pc = .ok (.bastore, 1))
    (kk : ∀ (H1 : Heap) (locs1 : List Loc), gRW D.1 base n (upE ph t (.inl (D.2 1, N, .inl (upd f i.toNatClampNeg (vp_nar .boolean x))))) H1 → va_S (gF base) s.heap H1 locs1 → W p l e R s m args below meth c H1 locs1 cells slots Q (F0 m (pc + 1) ls rest)) : W p l e R s m args below meth c H locs cells slots Q (F0 m pc ls (.int x :: .int i :: .ref (base + t) :: rest)) := by
  have hc0 : H[base + t]? = some (vp_cell (D.2 1) (N, .inl f)) := (hR.one ht hp) 0 _ rfl
  refine W.zast C0.1 C0.2.1 hc0 ((C0.2.2.2.2.2.2.1.2 1 _ rfl).1 N (fun j => .int (f j))) (fun q => by cases q) (by show ¬ (i < 0 ∨ (arrV _ _ _).slots.size ≤ _); rw [arrV_size]; exact hin) rfl rfl hdg fun H1 e z oq => ?_
  refine kk H1 _ (hR.set ?_ z oq) (gF_put hS0 z oq)
  show H1[base + t]? = some (vp_cell _ _)
  rw [e]
  rw [vp_cell_i, vp_cell_i, arrV_store]
  congr 2
  funext q
  by_cases hq : q = i.toNatClampNeg
  · subst hq
    simp [updV, upd, vp_nar]
    try rfl
  · simp [updV, upd, hq]
theorem r_last (C0 : gC p s m meth c args cc nL own D base Z) (hR : gRW D.1 base n ph H) (hS0 : va_S (gF base) s.heap H locs) {N : Nat} {f : Nat → Int64} (ht : t < n) (hp : ph t = .inl (D.2 2, N, .inr (.inl f))) {i : Int32} {x : Int64} (hin : vp_in i N) (hdg : decode cc pc = .ok (.lastore, 1))
    (kk : ∀ (H1 : Heap) (locs1 : List Loc), gRW D.1 base n (upE ph t (.inl (D.2 2, N, .inr (.inl (vp_updL f i.toNatClampNeg x))))) H1 → va_S (gF base) s.heap H1 locs1 → W p l e R s m args below meth c H1 locs1 cells slots Q (F0 m (pc + 1) ls rest)) : W p l e R s m args below meth c H locs cells slots Q (F0 m pc ls (.long x :: .int i :: .ref (base + t) :: rest)) := by
  have hc0 : H[base + t]? = some (vp_cell (D.2 2) (N, .inr (.inl f))) := (hR.one ht hp) 0 _ rfl
  refine W.last C0.1 C0.2.1 hc0 ((C0.2.2.2.2.2.2.1.2 2 _ rfl).1 N (fun j => .long (f j))) (fun q => by cases q) (by show ¬ (i < 0 ∨ (arrV _ _ _).slots.size ≤ _); rw [arrV_size]; exact hin) rfl rfl hdg fun H1 e z oq => ?_
  refine kk H1 _ (hR.set ?_ z oq) (gF_put hS0 z oq)
  show H1[base + t]? = some (vp_cell _ _)
  rw [e]
  rw [vp_cell_l, vp_cell_l, arrV_store]
  congr 2
  funext q
  by_cases hq : q = i.toNatClampNeg
  · subst hq
    simp [updV, vp_updL]
  · simp [updV, vp_updL, hq]
theorem r_new (C0 : gC p s m meth c args cc nL own D base Z) (hR : gRW D.1 base n ph H) (hS0 : va_S (gF base) s.heap H locs) {C : String} {T : u_T} {N ci index : Nat} (hc : classes[ci]? = some (C, T, N)) (ty : Nat → FieldType) (hty : ∀ k, k < N → parseFieldDescriptor (T k).2.2.1 = some (ty k))
    {fs : List Value} (hfs : ∀ j, j < N → defaultValue (ty j) = vp_V fs j) (hcl : Cond.classLink own index C ∈ wG) (hinst : Cond.instantiable C N ∈ wG) (hini : Cond.initialized C ∈ wG) (hcells : cells + 1 ≤ R.cells) (hslots : slots + N ≤ R.slots) (hdg : decode cc pc = .ok (.new index, 3))
    (kk : ∀ (H1 : Heap), gRW D.1 base (n + 1) (upE ph n (.inr (ci, fs))) H1 → va_S (gF base) s.heap H1 locs → W p l e R s m args below meth c H1 locs (cells + 1) (slots + N) Q (F0 m (pc + 3) ls (.ref (base + n) :: rest))) : W p l e R s m args below meth c H locs cells slots Q (F0 m pc ls rest) := by
  obtain ⟨hx, hb, hml, hown, hts, hN, hK, hZ, hbl, hlk⟩ := C0
  have hKn := hK.1 ci _ hc
  have hin := (cl_ok ci hc).1
  refine W.newcK hx hb hown (hts _ hcl) (hts _ hinst) (hts _ hini) rfl hdg hcells hslots hKn.2.1 hR.1 fun H1 kC hkC e1 z1 o1 => ?_
  refine kk H1 (hR.push ⟨_, hc, (u_born ty hts hin hKn hkC e1 hty).to hfs⟩ (by rw [z1, hR.1]) (by rw [hR.1]; exact o1)) (gF_push (n := n) (D := D.1) (ph := ph) hS0 (by rw [z1, hR.1]) (by rw [hR.1]; exact o1))
theorem r_newa (C0 : gC p s m meth c args cc nL own D base Z) (hR : gRW D.1 base n ph H) (hS0 : va_S (gF base) s.heap H locs) {atype : ArrayType} {ty : FieldType} (hty : newarray.typeOf atype = ty) {j : Nat} (hj : ([(D.2 0, .int), (D.2 1, .boolean), (D.2 2, .long), (D.2 3, .object "GossipTrain$Tape")] : List (ClassId × FieldType))[j]? = some (D.2 j, ty)) (hpr : va_RA s (D.2 j) ty = (s.vm.findClass ("[" ++ ty.toString) = some (D.2 j)))
    {x : Int32} {N : Nat} {a0 : vp_A} (ha : ∀ cA : ClassId, vp_cell cA a0 = arrV cA N (fun _ => defaultValue ty)) (hn : ¬ x < 0) (hN : x.toNatClampNeg = N) (hbytes : N * componentBytes ty ≤ 536870912) (harr : Cond.arrayClass ty ∈ wG) (hcells : cells + 1 ≤ R.cells) (hslots : slots + N ≤ R.slots) (hdg : decode cc pc = .ok (.newarray atype, 2))
    (kk : ∀ (H1 : Heap), gRW D.1 base (n + 1) (upE ph n (.inl (D.2 j, a0))) H1 → va_S (gF base) s.heap H1 locs → W p l e R s m args below meth c H1 locs (cells + 1) (slots + N) Q (F0 m (pc + 2) ls (.ref (base + n) :: rest))) : W p l e R s m args below meth c H locs cells slots Q (F0 m pc ls (.int x :: rest)) := by
  obtain ⟨hx, hb, hml, hown, hts, hNw, hK, hZ, hbl, hlk⟩ := C0
  subst hty
  refine va_newaK hx hb (hts _ harr) rfl hdg rfl hn hN hbytes hcells hslots hR.1 fun H1 cA e1 z1 o1 hAr hNm => ?_
  have hcA : cA = D.2 j := by
    have h2 := (hK.2 j _ hj).2
    rw [hpr] at h2
    exact Option.some.inj (hNm.symm.trans h2)
  subst hcA
  refine kk H1 (hR.push ?_ (by rw [z1, hR.1]) (by rw [hR.1]; exact o1)) (gF_push (n := n) (D := D.1) (ph := ph) hS0 (by rw [z1, hR.1]) (by rw [hR.1]; exact o1))
  show H1[base + n]? = some (vp_cell _ _)
  rw [ha]
  exact e1
end RAW
