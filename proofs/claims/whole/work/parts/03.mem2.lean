/-! THE PURE MEMORY: how many cells, ints of objects, references of objects, int rows, long rows -/
abbrev Mem : Type := Nat × (Nat → Nat → Int32) × (Nat → Nat → Nat) × (Nat → Nat → Int32) × (Nat → Nat → Int64)
def gI (u : Mem) (t k : Nat) : Int32 := u.2.1 t k
def gR (u : Mem) (t k : Nat) : Nat := u.2.2.1 t k
def gA (u : Mem) (a : Nat) : Nat → Int32 := u.2.2.2.1 a
def gL (u : Mem) (a : Nat) : Nat → Int64 := u.2.2.2.2 a
def up1 {β : Type} (f : Nat → β) (a : Nat) (v : β) : Nat → β := fun x => if x = a then v else f x
def sI (u : Mem) (t k : Nat) (v : Int32) : Mem := (u.1, up1 u.2.1 t (up1 (u.2.1 t) k v), u.2.2)
def sR (u : Mem) (t k : Nat) (b : Nat) : Mem := (u.1, u.2.1, up1 u.2.2.1 t (up1 (u.2.2.1 t) k b), u.2.2.2)
def sAr (u : Mem) (a : Nat) (f : Nat → Int32) : Mem := (u.1, u.2.1, u.2.2.1, up1 u.2.2.2.1 a f, u.2.2.2.2)
def sLr (u : Mem) (a : Nat) (f : Nat → Int64) : Mem := (u.1, u.2.1, u.2.2.1, u.2.2.2.1, up1 u.2.2.2.2 a f)
def sA (u : Mem) (a i : Nat) (x : Int32) : Mem := sAr u a (upd (gA u a) i x)
def sL (u : Mem) (a i : Nat) (x : Int64) : Mem := sLr u a (vp_updL (gL u a) i x)
def kT : List (Nat × Nat) := [(0, 7), (0, 6), (1, 8), (1, 8), (1, 6), (1, 6), (1, 6), (1, 6), (2, 6), (1, 24), (1, 6), (0, 0), (1, 100), (0, 6), (1, 8), (1, 8), (1, 6), (1, 6), (1, 6), (1, 6), (2, 6), (1, 24), (1, 6), (0, 0), (1, 100), (0, 6), (1, 8), (1, 8), (1, 6), (1, 6), (1, 6), (1, 6), (2, 6), (1, 24), (1, 6), (0, 0), (1, 100), (0, 1), (0, 2), (1, 10), (1, 10), (1, 10), (0, 2), (1, 10), (1, 10), (1, 10), (0, 2), (1, 10), (1, 10), (1, 10), (0, 1), (0, 2), (1, 10), (1, 10), (1, 10), (0, 2), (1, 10), (1, 10), (1, 10), (0, 2), (1, 10), (1, 10), (1, 10), (0, 3), (1, 100), (0, 0), (1, 100), (0, 4), (1, 20), (4, 6), (0, 5), (3, 60), (0, 5), (3, 60), (0, 5), (3, 60), (0, 5), (3, 60), (0, 5), (3, 60), (0, 5), (3, 60), (0, 8), (1, 6), (1, 6), (1, 6), (1, 6), (1, 24), (1, 8), (1, 8), (1, 100), (1, 6), (1, 60), (1, 60), (1, 60), (1, 60), (1, 600), (1, 101), (1, 14), (2, 100), (1, 6), (1, 6), (1, 8), (1, 5), (1, 5), (1, 5), (1, 10), (1, 10), (1, 8), (1, 8), (1, 6), (1, 6), (1, 6), (1, 6), (1, 24), (1, 8), (1, 8), (1, 5), (1, 5), (1, 5), (1, 10), (1, 10), (1, 8), (1, 8), (1, 20), (1, 6), (1, 6), (3, 360), (3, 60)]
/-- what stands at a place: (0, class) an object; (1, n) ints, (2, n) booleans, (3, n) longs, (4, n) Tapes; from 129 on Branches with their codes -/
def kd (k : Nat) : Nat × Nat := if k < 129 then kT.getD k (9, 0) else if (k - 129) % 2 = 0 then (0, 0) else (1, 100)
def fkT : List (List (Nat × Nat)) := [[(1, 1), (0, 0), (0, 0)], [(1, 1), (1, 5), (1, 9)], [(1, 1), (1, 2), (1, 3), (0, 0), (0, 0)], [(1, 1), (0, 0), (0, 0), (2, 0)], [(1, 1), (0, 0), (0, 0), (0, 0), (0, 0)], [(1, 1), (0, 0), (0, 0)], [(1, 1), (1, 2), (1, 3), (1, 4), (1, 5), (1, 6), (1, 7), (1, 8), (1, 9), (0, 0), (0, 0), (0, 0), (0, 0), (2, 0)], [(1, 1), (1, 13), (1, 25), (1, 37), (1, 50), (0, 0), (1, 63), (0, 0), (1, 67), (1, 69)], [(0, 0), (0, 0), (0, 0), (0, 0), (0, 0), (1, 1), (1, 2), (1, 3), (1, 4), (1, 5), (1, 6), (1, 7), (0, 0), (0, 0), (0, 0), (0, 0), (0, 0), (1, 8), (1, 9), (1, 10), (1, 11), (1, 12), (1, 13), (1, 14), (1, 15), (0, 0), (0, 0), (0, 0), (1, 16), (1, 17), (0, 0), (0, 0), (0, 0), (0, 0), (1, 18), (1, 19), (1, 20), (0, 0), (1, 21), (1, 22), (1, 23), (0, 0), (0, 0), (1, 24), (1, 25), (1, 26), (1, 27), (0, 0), (0, 0), (0, 0), (0, 0), (0, 0), (0, 0), (0, 0), (0, 0), (0, 0), (0, 0), (1, 28), (1, 29), (1, 30), (1, 31), (1, 32), (1, 33), (1, 34), (1, 35), (1, 36), (1, 37), (1, 38), (1, 39), (1, 40), (1, 41), (0, 0), (1, 42), (1, 43), (1, 44), (1, 45), (1, 46)]]
/-- of a class' field: (0, 0) an int, (1, o) the cell o behind, (2, 0) a reference that moves -/
def fk (ci k : Nat) : Nat × Nat := (fkT.getD ci []).getD k (0, 0)
def nf (ci : Nat) : Nat := ([3, 3, 5, 4, 5, 3, 14, 10, 77] : List Nat).getD ci 0
def fV (base : Nat) (u : Mem) (t ci k : Nat) : Value := match (fk ci k).1 with
  | 0 => .int (gI u t k)
  | 1 => .ref (base + (t + (fk ci k).2))
  | _ => .ref (base + gR u t k)
def cellOf (dA : Nat → ClassId) (base : Nat) (u : Mem) (t : Nat) : va_E := match (kd t).1 with
  | 0 => .inr ((kd t).2, (List.range (nf (kd t).2)).map (fV base u t (kd t).2))
  | 1 => .inl (dA 0, ((kd t).2, .inl (gA u t)))
  | 2 => .inl (dA 1, ((kd t).2, .inl (gA u t)))
  | 3 => .inl (dA 2, ((kd t).2, .inr (.inl (gL u t))))
  | _ => .inl (dA 3, ((kd t).2, .inr (.inr (.inr (.inr (fun j => some (base + (t + 1 + 2 * j))))))))
def gW (D : gDt) (base : Nat) (u : Mem) (H : Heap) : Prop := 129 ≤ u.1 ∧ gRW D.1 base u.1 (cellOf D.2 base u) H
def gH (D : gDt) (base : Nat) (s : State) (u : Mem) (H : Heap) (locs : List Loc) : Prop := gW D base u H ∧ va_S (gF base) s.heap H locs
/-- what stands at t -/
def gis (u : Mem) (t : Nat) (q : Nat × Nat) : Prop := t < u.1 ∧ kd t = q
def gok (n t : Nat) (l : List (Nat × Nat)) : Prop := ∀ j, j < l.length → t + j < n ∧ kd (t + j) = l.getD j (9, 9)
def gokb (n t : Nat) (l : List (Nat × Nat)) : Bool := (List.range l.length).all fun j => decide (t + j < n) && decide (kd (t + j) = l.getD j (9, 9))
theorem gok_of {n t : Nat} {l : List (Nat × Nat)} (h : gokb n t l = true) : gok n t l := by
  intro j hj
  have h1 := List.all_eq_true.mp h j (List.mem_range.mpr hj)
  simpa using h1
theorem gokb_of {n t : Nat} {l : List (Nat × Nat)} (h : gok n t l) : gokb n t l = true := by
  refine List.all_eq_true.mpr fun j hj => ?_
  have h1 := h j (List.mem_range.mp hj)
  simp [h1.1, h1.2]
theorem gok.mono {n n' t : Nat} {l : List (Nat × Nat)} (h : gok n t l) (hn : n ≤ n') : gok n' t l := fun j hj => ⟨Nat.lt_of_lt_of_le (h j hj).1 hn, (h j hj).2⟩
/-- a part of what is known, further on -/
theorem gok.sub {n t : Nat} {l l' : List (Nat × Nat)} (o : Nat) (h : gok n t l) (hs : ∀ j, j < l'.length → o + j < l.length ∧ l.getD (o + j) (9, 9) = l'.getD j (9, 9)) : gok n (t + o) l' := by
  intro j hj
  obtain ⟨h1, h2⟩ := hs j hj
  obtain ⟨h3, h4⟩ := h (o + j) h1
  rw [Nat.add_assoc]
  exact ⟨h3, h4.trans h2⟩
theorem gis_st {D : gDt} {base : Nat} {s : State} {u : Mem} {H : Heap} {locs : List Loc} (hG : gH D base s u H locs) {t : Nat} {l : List (Nat × Nat)} (h : gok 129 t l) (j : Nat) (hj : j < l.length) : gis u (t + j) (l.getD j (9, 9)) := ⟨Nat.lt_of_lt_of_le (h j hj).1 hG.1.1, (h j hj).2⟩
theorem gis_dy {u : Mem} {t : Nat} {l : List (Nat × Nat)} (h : gok u.1 t l) (j : Nat) (hj : j < l.length) : gis u (t + j) (l.getD j (9, 9)) := h j hj
theorem gis_li {D : gDt} {base : Nat} {s : State} {u : Mem} {H : Heap} {locs : List Loc} (hG : gH D base s u H locs) {t : Nat} {q : Nat × Nat} (h : decide (t < 129) && decide (kd t = q) = true) : gis u t q := by
  simp at h
  exact ⟨Nat.lt_of_lt_of_le h.1 hG.1.1, h.2⟩
/-! what is read behind what is written -/
theorem up1_s {β : Type} {f : Nat → β} {a : Nat} {v : β} : up1 f a v a = v := if_pos rfl
theorem up1_n {β : Type} {f : Nat → β} {a x : Nat} {v : β} (h : x ≠ a) : up1 f a v x = f x := if_neg h
theorem sI_1 (u : Mem) (t k : Nat) (v : Int32) : (sI u t k v).1 = u.1 := rfl
theorem sR_1 (u : Mem) (t k b : Nat) : (sR u t k b).1 = u.1 := rfl
theorem sAr_1 (u : Mem) (a : Nat) (f : Nat → Int32) : (sAr u a f).1 = u.1 := rfl
theorem sLr_1 (u : Mem) (a : Nat) (f : Nat → Int64) : (sLr u a f).1 = u.1 := rfl
theorem sA_1 (u : Mem) (a i : Nat) (x : Int32) : (sA u a i x).1 = u.1 := rfl
theorem sL_1 (u : Mem) (a i : Nat) (x : Int64) : (sL u a i x).1 = u.1 := rfl
theorem gI_sI (u : Mem) (t k : Nat) (v : Int32) (t' k' : Nat) : gI (sI u t k v) t' k' = if t' = t ∧ k' = k then v else gI u t' k' := by
  show up1 u.2.1 t (up1 (u.2.1 t) k v) t' k' = _
  by_cases h : t' = t
  · subst h
    by_cases h2 : k' = k
    · subst h2; simp [up1]
    · simp [up1, h2, gI]
  · simp [up1, h, gI]
theorem gI_sR (u : Mem) (t k b : Nat) : gI (sR u t k b) = gI u := rfl
theorem gI_sAr (u : Mem) (a : Nat) (f : Nat → Int32) : gI (sAr u a f) = gI u := rfl
theorem gI_sLr (u : Mem) (a : Nat) (f : Nat → Int64) : gI (sLr u a f) = gI u := rfl
theorem gI_sA (u : Mem) (a i : Nat) (x : Int32) : gI (sA u a i x) = gI u := rfl
theorem gI_sL (u : Mem) (a i : Nat) (x : Int64) : gI (sL u a i x) = gI u := rfl
theorem gR_sR (u : Mem) (t k b : Nat) (t' k' : Nat) : gR (sR u t k b) t' k' = if t' = t ∧ k' = k then b else gR u t' k' := by
  show up1 u.2.2.1 t (up1 (u.2.2.1 t) k b) t' k' = _
  by_cases h : t' = t
  · subst h
    by_cases h2 : k' = k
    · subst h2; simp [up1]
    · simp [up1, h2, gR]
  · simp [up1, h, gR]
theorem gR_sI (u : Mem) (t k : Nat) (v : Int32) : gR (sI u t k v) = gR u := rfl
theorem gR_sAr (u : Mem) (a : Nat) (f : Nat → Int32) : gR (sAr u a f) = gR u := rfl
theorem gR_sLr (u : Mem) (a : Nat) (f : Nat → Int64) : gR (sLr u a f) = gR u := rfl
theorem gR_sA (u : Mem) (a i : Nat) (x : Int32) : gR (sA u a i x) = gR u := rfl
theorem gR_sL (u : Mem) (a i : Nat) (x : Int64) : gR (sL u a i x) = gR u := rfl
theorem gA_sAr (u : Mem) (a : Nat) (f : Nat → Int32) (a' : Nat) : gA (sAr u a f) a' = if a' = a then f else gA u a' := rfl
theorem gA_sI (u : Mem) (t k : Nat) (v : Int32) : gA (sI u t k v) = gA u := rfl
theorem gA_sR (u : Mem) (t k b : Nat) : gA (sR u t k b) = gA u := rfl
theorem gA_sLr (u : Mem) (a : Nat) (f : Nat → Int64) : gA (sLr u a f) = gA u := rfl
theorem gA_sL (u : Mem) (a i : Nat) (x : Int64) : gA (sL u a i x) = gA u := rfl
theorem gA_sA (u : Mem) (a i : Nat) (x : Int32) (a' i' : Nat) : gA (sA u a i x) a' i' = if a' = a ∧ i' = i then x else gA u a' i' := by
  show up1 u.2.2.2.1 a (upd (gA u a) i x) a' i' = _
  by_cases h : a' = a
  · subst h
    by_cases h2 : i' = i
    · subst h2; simp [up1, upd]
    · simp [up1, upd, h2]
  · simp [up1, h, gA]
theorem gL_sLr (u : Mem) (a : Nat) (f : Nat → Int64) (a' : Nat) : gL (sLr u a f) a' = if a' = a then f else gL u a' := rfl
theorem gL_sI (u : Mem) (t k : Nat) (v : Int32) : gL (sI u t k v) = gL u := rfl
theorem gL_sR (u : Mem) (t k b : Nat) : gL (sR u t k b) = gL u := rfl
theorem gL_sAr (u : Mem) (a : Nat) (f : Nat → Int32) : gL (sAr u a f) = gL u := rfl
theorem gL_sA (u : Mem) (a i : Nat) (x : Int32) : gL (sA u a i x) = gL u := rfl
theorem gL_sL (u : Mem) (a i : Nat) (x : Int64) (a' i' : Nat) : gL (sL u a i x) a' i' = if a' = a ∧ i' = i then x else gL u a' i' := by
  show up1 u.2.2.2.2 a (vp_updL (gL u a) i x) a' i' = _
  by_cases h : a' = a
  · subst h
    by_cases h2 : i' = i
    · subst h2; simp [up1, vp_updL]
    · simp [up1, vp_updL, h2]
  · simp [up1, h, gL]
/-! cells -/
theorem cell_O {dA : Nat → ClassId} {base : Nat} {u : Mem} {t ci : Nat} (h : kd t = (0, ci)) : cellOf dA base u t = .inr (ci, (List.range (nf ci)).map (fV base u t ci)) := by
  unfold cellOf; rw [h]; rfl
theorem cell_A {dA : Nat → ClassId} {base : Nat} {u : Mem} {t N : Nat} (h : kd t = (1, N)) : cellOf dA base u t = .inl (dA 0, (N, .inl (gA u t))) := by
  unfold cellOf; rw [h]; rfl
theorem cell_Z {dA : Nat → ClassId} {base : Nat} {u : Mem} {t N : Nat} (h : kd t = (2, N)) : cellOf dA base u t = .inl (dA 1, (N, .inl (gA u t))) := by
  unfold cellOf; rw [h]; rfl
theorem cell_L {dA : Nat → ClassId} {base : Nat} {u : Mem} {t N : Nat} (h : kd t = (3, N)) : cellOf dA base u t = .inl (dA 2, (N, .inr (.inl (gL u t)))) := by
  unfold cellOf; rw [h]; rfl
theorem cell_T {dA : Nat → ClassId} {base : Nat} {u : Mem} {t N : Nat} (h : kd t = (4, N)) : cellOf dA base u t = .inl (dA 3, (N, .inr (.inr (.inr (.inr (fun j => some (base + (t + 1 + 2 * j)))))))) := by
  unfold cellOf; rw [h]; rfl
/-- a memory that shows the same at k has the same cell there -/
theorem cell_eq {dA : Nat → ClassId} {base : Nat} {u u' : Mem} {k : Nat} (h1 : gI u k = gI u' k) (h2 : gR u k = gR u' k) (h3 : gA u k = gA u' k) (h4 : gL u k = gL u' k) : cellOf dA base u k = cellOf dA base u' k := by
  have hV : ∀ ci, fV base u k ci = fV base u' k ci := by
    intro ci
    funext j
    unfold fV
    rw [h1, h2]
  unfold cellOf
  rw [hV, h3, h4]
theorem map_set {N k : Nat} {f f' : Nat → Value} {v : Value} (hk : f' k = v) (hn : ∀ j, j ≠ k → f' j = f j) : ((List.range N).map f).set k v = (List.range N).map f' := by
  apply List.ext_getElem?
  intro i
  by_cases hi : i < N
  · by_cases hik : i = k
    · subst hik
      rw [List.getElem?_set_self (by simpa using hi)]
      simp [hi, hk]
    · rw [List.getElem?_set_ne (Ne.symm hik)]
      simp [hi, hn i hik]
  · rw [List.getElem?_eq_none (by simp; omega), List.getElem?_eq_none (by simp; omega)]
theorem map_get {N k : Nat} {f : Nat → Value} (hk : k < N) : ((List.range N).map f)[k]? = some (f k) := by simp [hk]
section TYP
variable {p : Program} {l : Launch} {e : Env} {R : Room} {s : State} {m : MethodId} {args : Array Value} {below : List Frame} {meth : Method} {c : Code} {H : Heap} {locs : List Loc} {cells slots : Nat} {Q : State → Prop}
variable {cc : ByteArray} {pc nL : Nat} {ls : Array Slot} {rest : List Value} {own : String} {D : gDt} {base : Nat} {Z : gZt} {u : Mem} {t : Nat}
theorem g_getI (C0 : gC p s m meth c args cc nL own D base Z) (hG : gH D base s u H locs) {C : String} {T : u_T} {ci index : Nat} (hi : gis u t (0, ci)) (hc : classes[ci]? = some (C, T, nf ci)) (k : Nat) (hk : k < nf ci) (hf : fk ci k = (0, 0))
    (hl : Cond.fieldLink own index (T k).1 (T k).2.1 (T k).2.2.1 ∈ wG) (hdg : decode cc pc = .ok (.getfield index, 3))
    (kk : W p l e R s m args below meth c H locs cells slots Q (F0 m (pc + 3) ls (.int (gI u t k) :: rest))) : W p l e R s m args below meth c H locs cells slots Q (F0 m pc ls (.ref (base + t) :: rest)) :=
  r_get C0 hG.1.2 hi.1 (cell_O hi.2) hc k hk (map_get hk) hl hdg (by unfold fV; rw [hf]; exact kk)
theorem g_getS (C0 : gC p s m meth c args cc nL own D base Z) (hG : gH D base s u H locs) {C : String} {T : u_T} {ci index o : Nat} (hi : gis u t (0, ci)) (hc : classes[ci]? = some (C, T, nf ci)) (k : Nat) (hk : k < nf ci) (hf : fk ci k = (1, o))
    (hl : Cond.fieldLink own index (T k).1 (T k).2.1 (T k).2.2.1 ∈ wG) (hdg : decode cc pc = .ok (.getfield index, 3))
    (kk : W p l e R s m args below meth c H locs cells slots Q (F0 m (pc + 3) ls (.ref (base + (t + o)) :: rest))) : W p l e R s m args below meth c H locs cells slots Q (F0 m pc ls (.ref (base + t) :: rest)) :=
  r_get C0 hG.1.2 hi.1 (cell_O hi.2) hc k hk (map_get hk) hl hdg (by unfold fV; rw [hf]; exact kk)
theorem g_getD (C0 : gC p s m meth c args cc nL own D base Z) (hG : gH D base s u H locs) {C : String} {T : u_T} {ci index : Nat} (hi : gis u t (0, ci)) (hc : classes[ci]? = some (C, T, nf ci)) (k : Nat) (hk : k < nf ci) (hf : fk ci k = (2, 0))
    (hl : Cond.fieldLink own index (T k).1 (T k).2.1 (T k).2.2.1 ∈ wG) (hdg : decode cc pc = .ok (.getfield index, 3))
    (kk : W p l e R s m args below meth c H locs cells slots Q (F0 m (pc + 3) ls (.ref (base + gR u t k) :: rest))) : W p l e R s m args below meth c H locs cells slots Q (F0 m pc ls (.ref (base + t) :: rest)) :=
  r_get C0 hG.1.2 hi.1 (cell_O hi.2) hc k hk (map_get hk) hl hdg (by unfold fV; rw [hf]; exact kk)
theorem g_getIN (C0 : gC p s m meth c args cc nL own D base Z) (hG : gH D base s u H locs) {C host : String} {T : u_T} {ci index : Nat} (hi : gis u t (0, ci)) (hc : classes[ci]? = some (C, T, nf ci)) (k : Nat) (hk : k < nf ci) (hf : fk ci k = (0, 0))
    (hl : Cond.fieldLinkNest own index (T k).1 (T k).2.1 (T k).2.2.1 host ∈ wN) (hdg : decode cc pc = .ok (.getfield index, 3))
    (kk : W p l e R s m args below meth c H locs cells slots Q (F0 m (pc + 3) ls (.int (gI u t k) :: rest))) : W p l e R s m args below meth c H locs cells slots Q (F0 m pc ls (.ref (base + t) :: rest)) :=
  r_getN C0 hG.1.2 hi.1 (cell_O hi.2) hc k hk (map_get hk) hl hdg (by unfold fV; rw [hf]; exact kk)
theorem g_getSN (C0 : gC p s m meth c args cc nL own D base Z) (hG : gH D base s u H locs) {C host : String} {T : u_T} {ci index o : Nat} (hi : gis u t (0, ci)) (hc : classes[ci]? = some (C, T, nf ci)) (k : Nat) (hk : k < nf ci) (hf : fk ci k = (1, o))
    (hl : Cond.fieldLinkNest own index (T k).1 (T k).2.1 (T k).2.2.1 host ∈ wN) (hdg : decode cc pc = .ok (.getfield index, 3))
    (kk : W p l e R s m args below meth c H locs cells slots Q (F0 m (pc + 3) ls (.ref (base + (t + o)) :: rest))) : W p l e R s m args below meth c H locs cells slots Q (F0 m pc ls (.ref (base + t) :: rest)) :=
  r_getN C0 hG.1.2 hi.1 (cell_O hi.2) hc k hk (map_get hk) hl hdg (by unfold fV; rw [hf]; exact kk)
theorem g_getDN (C0 : gC p s m meth c args cc nL own D base Z) (hG : gH D base s u H locs) {C host : String} {T : u_T} {ci index : Nat} (hi : gis u t (0, ci)) (hc : classes[ci]? = some (C, T, nf ci)) (k : Nat) (hk : k < nf ci) (hf : fk ci k = (2, 0))
    (hl : Cond.fieldLinkNest own index (T k).1 (T k).2.1 (T k).2.2.1 host ∈ wN) (hdg : decode cc pc = .ok (.getfield index, 3))
    (kk : W p l e R s m args below meth c H locs cells slots Q (F0 m (pc + 3) ls (.ref (base + gR u t k) :: rest))) : W p l e R s m args below meth c H locs cells slots Q (F0 m pc ls (.ref (base + t) :: rest)) :=
  r_getN C0 hG.1.2 hi.1 (cell_O hi.2) hc k hk (map_get hk) hl hdg (by unfold fV; rw [hf]; exact kk)
theorem put_I {n : Nat} {dA : Nat → ClassId} {ci k : Nat} {v : Int32} (hi : kd t = (0, ci)) (hf : fk ci k = (0, 0)) : ∀ j, j < n → upE (cellOf dA base u) t (.inr (ci, ((List.range (nf ci)).map (fV base u t ci)).set k (.int v))) j = cellOf dA base (sI u t k v) j := by
  intro j _
  by_cases hj : j = t
  · subst hj
    rw [upE_s, cell_O hi]
    congr 2
    refine map_set ?_ fun i hik => ?_
    · unfold fV; rw [hf]; rw [gI_sI, if_pos ⟨rfl, rfl⟩]; rfl
    · unfold fV; rw [gI_sI, if_neg (fun q => hik q.2), gR_sI]
  · rw [upE_n hj]
    exact cell_eq (funext fun i => by rw [gI_sI, if_neg (fun q => hj q.1)]) rfl rfl rfl
theorem put_R {n : Nat} {dA : Nat → ClassId} {ci k b : Nat} (hi : kd t = (0, ci)) (hf : fk ci k = (2, 0)) : ∀ j, j < n → upE (cellOf dA base u) t (.inr (ci, ((List.range (nf ci)).map (fV base u t ci)).set k (.ref (base + b)))) j = cellOf dA base (sR u t k b) j := by
  intro j _
  by_cases hj : j = t
  · subst hj
    rw [upE_s, cell_O hi]
    congr 2
    refine map_set ?_ fun i hik => ?_
    · unfold fV; rw [hf]; rw [gR_sR, if_pos ⟨rfl, rfl⟩]; rfl
    · unfold fV; rw [gR_sR, if_neg (fun q => hik q.2), gI_sR]
  · rw [upE_n hj]
    exact cell_eq rfl (funext fun i => by rw [gR_sR, if_neg (fun q => hj q.1)]) rfl rfl
theorem put_A {n : Nat} {dA : Nat → ClassId} {N : Nat} {f : Nat → Int32} (hi : kd t = (1, N)) : ∀ j, j < n → upE (cellOf dA base u) t (.inl (dA 0, N, .inl f)) j = cellOf dA base (sAr u t f) j := by
  intro j _
  by_cases hj : j = t
  · subst hj
    rw [upE_s, cell_A hi, gA_sAr, if_pos rfl]
  · rw [upE_n hj]
    exact cell_eq rfl rfl (by rw [gA_sAr, if_neg hj]) rfl
theorem put_Z {n : Nat} {dA : Nat → ClassId} {N : Nat} {f : Nat → Int32} (hi : kd t = (2, N)) : ∀ j, j < n → upE (cellOf dA base u) t (.inl (dA 1, N, .inl f)) j = cellOf dA base (sAr u t f) j := by
  intro j _
  by_cases hj : j = t
  · subst hj
    rw [upE_s, cell_Z hi, gA_sAr, if_pos rfl]
  · rw [upE_n hj]
    exact cell_eq rfl rfl (by rw [gA_sAr, if_neg hj]) rfl
theorem put_L {n : Nat} {dA : Nat → ClassId} {N : Nat} {f : Nat → Int64} (hi : kd t = (3, N)) : ∀ j, j < n → upE (cellOf dA base u) t (.inl (dA 2, N, .inr (.inl f))) j = cellOf dA base (sLr u t f) j := by
  intro j _
  by_cases hj : j = t
  · subst hj
    rw [upE_s, cell_L hi, gL_sLr, if_pos rfl]
  · rw [upE_n hj]
    exact cell_eq rfl rfl rfl (by rw [gL_sLr, if_neg hj])
theorem g_putI (C0 : gC p s m meth c args cc nL own D base Z) (hG : gH D base s u H locs) {C : String} {T : u_T} {ci index : Nat} {v : Int32} {ty : FieldType} (hi : gis u t (0, ci)) (hc : classes[ci]? = some (C, T, nf ci)) (k : Nat) (hk : k < nf ci) (hf : fk ci k = (0, 0))
    (hl : Cond.fieldLink own index (T k).1 (T k).2.1 (T k).2.2.1 ∈ wG) (hfin : (T k).2.2.2 = false) (hd : parseFieldDescriptor (T k).2.2.1 = some ty) (hn : narrow ty (.int v) = .int v) (hfit : fits ty (.int v) = true) (hdg : decode cc pc = .ok (.putfield index, 3))
    (kk : ∀ (H1 : Heap) (locs1 : List Loc), gH D base s (sI u t k v) H1 locs1 → W p l e R s m args below meth c H1 locs1 cells slots Q (F0 m (pc + 3) ls rest)) : W p l e R s m args below meth c H locs cells slots Q (F0 m pc ls (.int v :: .ref (base + t) :: rest)) :=
  r_put C0 hG.1.2 hG.2 hi.1 (cell_O hi.2) hc k hk (by simpa using hk) hl hfin hd hn hfit hdg fun H1 locs1 hR hS => kk H1 locs1 ⟨⟨hG.1.1, hR.congr (put_I hi.2 hf)⟩, hS⟩
theorem g_putIN (C0 : gC p s m meth c args cc nL own D base Z) (hG : gH D base s u H locs) {C host : String} {T : u_T} {ci index : Nat} {v : Int32} {ty : FieldType} (hi : gis u t (0, ci)) (hc : classes[ci]? = some (C, T, nf ci)) (k : Nat) (hk : k < nf ci) (hf : fk ci k = (0, 0))
    (hl : Cond.fieldLinkNest own index (T k).1 (T k).2.1 (T k).2.2.1 host ∈ wN) (hfin : (T k).2.2.2 = false) (hd : parseFieldDescriptor (T k).2.2.1 = some ty) (hn : narrow ty (.int v) = .int v) (hfit : fits ty (.int v) = true) (hdg : decode cc pc = .ok (.putfield index, 3))
    (kk : ∀ (H1 : Heap) (locs1 : List Loc), gH D base s (sI u t k v) H1 locs1 → W p l e R s m args below meth c H1 locs1 cells slots Q (F0 m (pc + 3) ls rest)) : W p l e R s m args below meth c H locs cells slots Q (F0 m pc ls (.int v :: .ref (base + t) :: rest)) :=
  r_putN C0 hG.1.2 hG.2 hi.1 (cell_O hi.2) hc k hk (by simpa using hk) hl hfin hd hn hfit hdg fun H1 locs1 hR hS => kk H1 locs1 ⟨⟨hG.1.1, hR.congr (put_I hi.2 hf)⟩, hS⟩
theorem g_putR (C0 : gC p s m meth c args cc nL own D base Z) (hG : gH D base s u H locs) {C : String} {T : u_T} {ci index b : Nat} {ty : FieldType} (hi : gis u t (0, ci)) (hc : classes[ci]? = some (C, T, nf ci)) (k : Nat) (hk : k < nf ci) (hf : fk ci k = (2, 0))
    (hl : Cond.fieldLink own index (T k).1 (T k).2.1 (T k).2.2.1 ∈ wG) (hfin : (T k).2.2.2 = false) (hd : parseFieldDescriptor (T k).2.2.1 = some ty) (hn : ∀ a, narrow ty (.ref a) = .ref a) (hfit : ∀ a, fits ty (.ref a) = true) (hdg : decode cc pc = .ok (.putfield index, 3))
    (kk : ∀ (H1 : Heap) (locs1 : List Loc), gH D base s (sR u t k b) H1 locs1 → W p l e R s m args below meth c H1 locs1 cells slots Q (F0 m (pc + 3) ls rest)) : W p l e R s m args below meth c H locs cells slots Q (F0 m pc ls (.ref (base + b) :: .ref (base + t) :: rest)) :=
  r_put C0 hG.1.2 hG.2 hi.1 (cell_O hi.2) hc k hk (by simpa using hk) hl hfin hd (hn _) (hfit _) hdg fun H1 locs1 hR hS => kk H1 locs1 ⟨⟨hG.1.1, hR.congr (put_R hi.2 hf)⟩, hS⟩
theorem g_putRN (C0 : gC p s m meth c args cc nL own D base Z) (hG : gH D base s u H locs) {C host : String} {T : u_T} {ci index b : Nat} {ty : FieldType} (hi : gis u t (0, ci)) (hc : classes[ci]? = some (C, T, nf ci)) (k : Nat) (hk : k < nf ci) (hf : fk ci k = (2, 0))
    (hl : Cond.fieldLinkNest own index (T k).1 (T k).2.1 (T k).2.2.1 host ∈ wN) (hfin : (T k).2.2.2 = false) (hd : parseFieldDescriptor (T k).2.2.1 = some ty) (hn : ∀ a, narrow ty (.ref a) = .ref a) (hfit : ∀ a, fits ty (.ref a) = true) (hdg : decode cc pc = .ok (.putfield index, 3))
    (kk : ∀ (H1 : Heap) (locs1 : List Loc), gH D base s (sR u t k b) H1 locs1 → W p l e R s m args below meth c H1 locs1 cells slots Q (F0 m (pc + 3) ls rest)) : W p l e R s m args below meth c H locs cells slots Q (F0 m pc ls (.ref (base + b) :: .ref (base + t) :: rest)) :=
  r_putN C0 hG.1.2 hG.2 hi.1 (cell_O hi.2) hc k hk (by simpa using hk) hl hfin hd (hn _) (hfit _) hdg fun H1 locs1 hR hS => kk H1 locs1 ⟨⟨hG.1.1, hR.congr (put_R hi.2 hf)⟩, hS⟩
theorem g_iald (C0 : gC p s m meth c args cc nL own D base Z) (hG : gH D base s u H locs) {N : Nat} (hi : gis u t (1, N)) {i : Int32} (hin : vp_in i N) (hdg : decode cc pc = .ok (.iaload, 1))
    (kk : W p l e R s m args below meth c H locs cells slots Q (F0 m (pc + 1) ls (.int (gA u t i.toNatClampNeg) :: rest))) : W p l e R s m args below meth c H locs cells slots Q (F0 m pc ls (.int i :: .ref (base + t) :: rest)) :=
  r_iald C0 hG.1.2 hi.1 (cell_A hi.2) hin hdg kk
theorem g_zald (C0 : gC p s m meth c args cc nL own D base Z) (hG : gH D base s u H locs) {N : Nat} (hi : gis u t (2, N)) {i : Int32} (hin : vp_in i N) (hdg : decode cc pc = .ok (.baload, 1))
    (kk : W p l e R s m args below meth c H locs cells slots Q (F0 m (pc + 1) ls (.int (gA u t i.toNatClampNeg) :: rest))) : W p l e R s m args below meth c H locs cells slots Q (F0 m pc ls (.int i :: .ref (base + t) :: rest)) :=
  r_zald C0 hG.1.2 hi.1 (cell_Z hi.2) hin hdg kk
theorem g_lald (C0 : gC p s m meth c args cc nL own D base Z) (hG : gH D base s u H locs) {N : Nat} (hi : gis u t (3, N)) {i : Int32} (hin : vp_in i N) (hdg : decode cc pc = .ok (.laload, 1))
    (kk : W p l e R s m args below meth c H locs cells slots Q (F0 m (pc + 1) ls (.long (gL u t i.toNatClampNeg) :: rest))) : W p l e R s m args below meth c H locs cells slots Q (F0 m pc ls (.int i :: .ref (base + t) :: rest)) :=
  r_lald C0 hG.1.2 hi.1 (cell_L hi.2) hin hdg kk
theorem g_aald (C0 : gC p s m meth c args cc nL own D base Z) (hG : gH D base s u H locs) {N : Nat} (hi : gis u t (4, N)) {i : Int32} (hin : vp_in i N) (hdg : decode cc pc = .ok (.aaload, 1))
    (kk : W p l e R s m args below meth c H locs cells slots Q (F0 m (pc + 1) ls (.ref (base + (t + 1 + 2 * i.toNatClampNeg)) :: rest))) : W p l e R s m args below meth c H locs cells slots Q (F0 m pc ls (.int i :: .ref (base + t) :: rest)) :=
  r_aald C0 hG.1.2 hi.1 (cell_T hi.2) hin hdg kk
theorem g_iast (C0 : gC p s m meth c args cc nL own D base Z) (hG : gH D base s u H locs) {N : Nat} (hi : gis u t (1, N)) {i x : Int32} (hin : vp_in i N) (hdg : decode cc pc = .ok (.iastore, 1))
    (kk : ∀ (H1 : Heap) (locs1 : List Loc), gH D base s (sA u t i.toNatClampNeg x) H1 locs1 → W p l e R s m args below meth c H1 locs1 cells slots Q (F0 m (pc + 1) ls rest)) : W p l e R s m args below meth c H locs cells slots Q (F0 m pc ls (.int x :: .int i :: .ref (base + t) :: rest)) :=
  r_iast C0 hG.1.2 hG.2 hi.1 (cell_A hi.2) hin hdg fun H1 locs1 hR hS => kk H1 locs1 ⟨⟨hG.1.1, hR.congr (put_A hi.2)⟩, hS⟩
theorem g_zast (C0 : gC p s m meth c args cc nL own D base Z) (hG : gH D base s u H locs) {N : Nat} (hi : gis u t (2, N)) {i x : Int32} (hin : vp_in i N) (hdg : decode cc pc = .ok (.bastore, 1))
    (kk : ∀ (H1 : Heap) (locs1 : List Loc), gH D base s (sA u t i.toNatClampNeg (vp_nar .boolean x)) H1 locs1 → W p l e R s m args below meth c H1 locs1 cells slots Q (F0 m (pc + 1) ls rest)) : W p l e R s m args below meth c H locs cells slots Q (F0 m pc ls (.int x :: .int i :: .ref (base + t) :: rest)) :=
  r_zast C0 hG.1.2 hG.2 hi.1 (cell_Z hi.2) hin hdg fun H1 locs1 hR hS => kk H1 locs1 ⟨⟨hG.1.1, hR.congr (put_Z hi.2)⟩, hS⟩
theorem g_last (C0 : gC p s m meth c args cc nL own D base Z) (hG : gH D base s u H locs) {N : Nat} (hi : gis u t (3, N)) {i : Int32} {x : Int64} (hin : vp_in i N) (hdg : decode cc pc = .ok (.lastore, 1))
    (kk : ∀ (H1 : Heap) (locs1 : List Loc), gH D base s (sL u t i.toNatClampNeg x) H1 locs1 → W p l e R s m args below meth c H1 locs1 cells slots Q (F0 m (pc + 1) ls rest)) : W p l e R s m args below meth c H locs cells slots Q (F0 m pc ls (.long x :: .int i :: .ref (base + t) :: rest)) :=
  r_last C0 hG.1.2 hG.2 hi.1 (cell_L hi.2) hin hdg fun H1 locs1 hR hS => kk H1 locs1 ⟨⟨hG.1.1, hR.congr (put_L hi.2)⟩, hS⟩
/-! statics -/
theorem g_sKA (C0 : gC p s m meth c args cc nL own D base Z) (hG : gH D base s u H locs) {index : Nat} (hl : Cond.fieldLink own index "GossipTrain" "KIND_ABOVE" "[I" ∈ wG) (hdg : decode cc pc = .ok (.getstatic index, 3))
    (kk : W p l e R s m args below meth c H locs cells slots Q (F0 m (pc + 3) ls (.ref Z.1 :: rest))) : W p l e R s m args below meth c H locs cells slots Q (F0 m pc ls rest) :=
  va_gets C0.1 C0.2.1 C0.2.2.2.2.2.2.2.1.1 hG.2 C0.2.2.2.1 (C0.2.2.2.2.1 _ hl) (fun _ h => h) hdg kk
theorem g_sKAN (C0 : gC p s m meth c args cc nL own D base Z) (hG : gH D base s u H locs) {index : Nat} {host : String} (hl : Cond.fieldLinkNest own index "GossipTrain" "KIND_ABOVE" "[I" host ∈ wN) (hdg : decode cc pc = .ok (.getstatic index, 3))
    (kk : W p l e R s m args below meth c H locs cells slots Q (F0 m (pc + 3) ls (.ref Z.1 :: rest))) : W p l e R s m args below meth c H locs cells slots Q (F0 m pc ls rest) :=
  va_getsN C0.1 C0.2.1 C0.2.2.2.2.2.2.2.1.1 hG.2 C0.2.2.2.1 (va_Nw.use rfl (C0.2.2.2.2.2.1 _ hl)) (fun _ h => h) hdg kk
theorem g_sBON (C0 : gC p s m meth c args cc nL own D base Z) (hG : gH D base s u H locs) {index : Nat} {host : String} (hl : Cond.fieldLinkNest own index "GossipTrain" "BODIES" "[I" host ∈ wN) (hdg : decode cc pc = .ok (.getstatic index, 3))
    (kk : W p l e R s m args below meth c H locs cells slots Q (F0 m (pc + 3) ls (.ref Z.2.1 :: rest))) : W p l e R s m args below meth c H locs cells slots Q (F0 m pc ls rest) :=
  va_getsN C0.1 C0.2.1 C0.2.2.2.2.2.2.2.1.2.2.1 hG.2 C0.2.2.2.1 (va_Nw.use rfl (C0.2.2.2.2.2.1 _ hl)) (fun _ h => h) hdg kk
theorem g_tKA (C0 : gC p s m meth c args cc nL own D base Z) (hG : gH D base s u H locs) {i : Int32} (hin : vp_in i 7) (hdg : decode cc pc = .ok (.iaload, 1))
    (kk : W p l e R s m args below meth c H locs cells slots Q (F0 m (pc + 1) ls (.int (tKA.getD i.toNatClampNeg 0) :: rest))) : W p l e R s m args below meth c H locs cells slots Q (F0 m pc ls (.int i :: .ref Z.1 :: rest)) :=
  va_ti C0.1 C0.2.1 C0.2.2.2.2.2.2.2.1.2.1 hG.2 hin rfl hdg kk
theorem g_tBO (C0 : gC p s m meth c args cc nL own D base Z) (hG : gH D base s u H locs) {i : Int32} (hin : vp_in i 21) (hdg : decode cc pc = .ok (.iaload, 1))
    (kk : W p l e R s m args below meth c H locs cells slots Q (F0 m (pc + 1) ls (.int (tBO.getD i.toNatClampNeg 0) :: rest))) : W p l e R s m args below meth c H locs cells slots Q (F0 m pc ls (.int i :: .ref Z.2.1 :: rest)) :=
  va_ti C0.1 C0.2.1 C0.2.2.2.2.2.2.2.1.2.2.2.1 hG.2 hin rfl hdg kk
end TYP
