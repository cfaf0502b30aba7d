/-! System.arraycopy, lengths, Strings -/
def gcp {α : Type} (sp dp n : Int32) (n0 n1 : Nat) (k : Option α) : Option α := if (¬ sp < 0 ∧ ¬ dp < 0 ∧ ¬ n < 0) ∧ sp.toNatClampNeg + n.toNatClampNeg ≤ n0 ∧ dp.toNatClampNeg + n.toNatClampNeg ≤ n1 then k else none
theorem gcp_s {α : Type} {sp dp n : Int32} {n0 n1 : Nat} {k : Option α} {r : α} (h : gcp sp dp n n0 n1 k = some r) : ((¬ sp < 0 ∧ ¬ dp < 0 ∧ ¬ n < 0) ∧ sp.toNatClampNeg + n.toNatClampNeg ≤ n0 ∧ dp.toNatClampNeg + n.toNatClampNeg ≤ n1) ∧ k = some r := by
  unfold gcp at h
  split at h
  · rename_i q; exact ⟨q, h⟩
  · cases h
def sCA (u : Mem) (src sp dst dp n : Nat) : Mem := sAr u dst (va_cpy (gA u src) (gA u dst) sp dp n)
def sCL (u : Mem) (src sp dst dp n : Nat) : Mem := sLr u dst (va_cpy (gL u src) (gL u dst) sp dp n)
theorem nn_of {z : Int32} (hz : ¬ z < 0) : z.toInt = (z.toNatClampNeg : Int) := by
  have hz0 : (0 : Int) ≤ z.toInt := by
    have := Int32.not_lt.mp hz
    simpa using Int32.le_iff_toInt_le.mp this
  show z.toInt = ((z.toInt.toNat : Nat) : Int)
  omega
section CPY
variable {p : Program} {l : Launch} {e : Env} {R : Room} {s : State} {m : MethodId} {args : Array Value} {below : List Frame} {meth : Method} {c : Code} {H : Heap} {locs : List Loc} {cells slots : Nat} {Q : State → Prop}
variable {cc : ByteArray} {pc nL : Nat} {ls : Array Slot} {rest st0 : List Value} {own : String} {D : gDt} {base : Nat} {Z : gZt} {u : Mem} {t a a0 index : Nat}
theorem g_copyA (C0 : gC p s m meth c args cc nL own D base Z) (hG : gH D base s u H locs) (hl : Cond.methodLink own index arraycopyName ∈ wG) (hnat : Cond.native arraycopyName ∈ wG) (hst : Cond.static arraycopyName ∈ wG) (hini : Cond.initialized "java/lang/System" ∈ wG) (hsize : ls.size = nL) {n0 n1 : Nat} (hi0 : gis u a0 (1, n0)) (hi1 : gis u a (1, n1))
    {sp dp n : Int32} (hc : (¬ sp < 0 ∧ ¬ dp < 0 ∧ ¬ n < 0) ∧ sp.toNatClampNeg + n.toNatClampNeg ≤ n0 ∧ dp.toNatClampNeg + n.toNatClampNeg ≤ n1) (hR : 1 ≤ R.frames ∧ (rest.map fun v => v.category).sum + (nativeFrameWords "java/lang/System" "arraycopy" 5 + 11) ≤ R.locals) (hdg : decode cc pc = .ok (.invokestatic index, 3))
    (kk : ∀ (H1 : Heap) (locs1 : List Loc), gH D base s (sCA u a0 sp.toNatClampNeg a dp.toNatClampNeg n.toNatClampNeg) H1 locs1 → W p l e R s m args below meth c H1 locs1 cells slots Q (F0 m (pc + 3) ls rest)) : W p l e R s m args below meth c H locs cells slots Q (F0 m pc ls (.int n :: .int dp :: .ref (base + a) :: .int sp :: .ref (base + a0) :: rest)) := by
  obtain ⟨hx, hb, hml, hown, hts, hN, hK, hZ, hbl, hlk⟩ := C0
  obtain ⟨⟨h1, h2, h3⟩, h4, h5⟩ := hc
  intro T hT X
  have hc0 : H[base + a0]? = some (vp_cell (D.2 0) (n0, .inl (gA u a0))) := (hG.1.2.one hi0.1 (cell_A hi0.2)) 0 _ rfl
  have hc1 : H[base + a]? = some (vp_cell (D.2 0) (n1, .inl (gA u a))) := (hG.1.2.one hi1.1 (cell_A hi1.2)) 0 _ rfl
  obtain ⟨-, k0, hk0, cm0, hkk0⟩ := (hK.2 0 _ rfl).1 n0 (fun j => .int (gA u a0 j))
  obtain ⟨-, k1, hk1, cm1, hkk1⟩ := (hK.2 0 _ rfl).1 n1 (fun j => .int (gA u a j))
  obtain ⟨vm', X', step⟩ := X.arraycopy hx hown (hts _ hl) (hts _ hnat) (hts _ hst) (hts _ hini) (src := base + a0) (dst := base + a) (cs := vp_cell (D.2 0) (n0, .inl (gA u a0))) (cd := vp_cell (D.2 0) (n1, .inl (gA u a))) (srcPos := sp) (destPos := dp) (n := n) (by rw [hT]; exact hc0) (by rw [hT]; exact hc1)
    (fun _ h => by cases h) (fun _ h => by cases h) (fun h => by cases h) (fun h => by cases h) hk0 hk1 hkk0 hkk1 (by simp [refKind]) h1 h2 h3
    (by rw [nn_of h1, nn_of h3]; show ¬ _ > ((arrV (D.2 0) n0 (fun j => .int (gA u a0 j))).slots.size : Int); rw [arrV_size]; omega)
    (by rw [nn_of h2, nn_of h3]; show ¬ _ > ((arrV (D.2 0) n1 (fun j => .int (gA u a j))).slots.size : Int); rw [arrV_size]; omega)
    (fun vm₁ _ i hi => by
      have e : (vp_cell (D.2 0) (n0, .inl (gA u a0))).slots.getD (sp.toNatClampNeg + i) .null = .int (gA u a0 (sp.toNatClampNeg + i)) := by
        show (arrV (D.2 0) n0 (fun j => .int (gA u a0 j))).slots.getD _ _ = _
        rw [Array.getD_eq_getD_getElem?, arrV_read _ _ (by omega)]
        rfl
      refine ⟨?_, ?_⟩
      · rw [e]; rfl
      · rw [e]; exact trivial)
    (g := F0 m pc ls (.int n :: .int dp :: .ref (base + a) :: .int sp :: .ref (base + a0) :: rest)) rfl (by rw [hml]; exact hsize) (rest := rest) rfl (by rw [hb]; exact hdg) hR.1 (by show 2 * 0 + _ + _ ≤ _; have := hR.2; omega)
  have e1 : copied (vp_cell (D.2 0) (n0, .inl (gA u a0))) (vp_cell (D.2 0) (n1, .inl (gA u a))) sp dp n = vp_cell (D.2 0) (n1, .inl (va_cpy (gA u a0) (gA u a) sp.toNatClampNeg dp.toNatClampNeg n.toNatClampNeg)) := va_copied (fun z => .int z) (D.2 0) (D.2 0) (gA u a0) (gA u a) h4
  rw [e1] at X' step
  have hl' : base + a < H.size := (Array.getElem?_eq_some_iff.mp hc1).1
  have hheap : ((T.setVm vm').setCell (base + a) (vp_cell (D.2 0) (n1, .inl (va_cpy (gA u a0) (gA u a) sp.toNatClampNeg dp.toNatClampNeg n.toNatClampNeg)))).heap = H.setIfInBounds (base + a) (vp_cell (D.2 0) (n1, .inl (va_cpy (gA u a0) (gA u a) sp.toNatClampNeg dp.toNatClampNeg n.toNatClampNeg))) := by rw [← hT]; rfl
  have oq : ∀ q : Nat, q ≠ base + a → (H.setIfInBounds (base + a) (vp_cell (D.2 0) (n1, .inl (va_cpy (gA u a0) (gA u a) sp.toNatClampNeg dp.toNatClampNeg n.toNatClampNeg))))[q]? = H[q]? := fun q hq => by simp [Array.getElem?_setIfInBounds, Ne.symm hq]
  have hR1 := hG.1.2.set (t := a) (e := .inl (D.2 0, (n1, .inl (va_cpy (gA u a0) (gA u a) sp.toNatClampNeg dp.toNatClampNeg n.toNatClampNeg)))) (show (H.setIfInBounds (base + a) _)[base + a]? = some _ by simp [Array.getElem?_setIfInBounds, hl']) (by simp) oq
  obtain ⟨t2, a1, b1⟩ := kk _ _ ⟨⟨hG.1.1, hR1.congr (put_A hi1.2)⟩, ⟨by simp; exact hG.2.1, fun q g1 g2 => by
      rw [oq q (fun e => g2 (by rw [e]; exact Nat.le_add_right _ _))]
      exact hG.2.2.1 q g1 g2, fun q hq => by
      rcases List.mem_append.mp hq with h | h
      · exact hG.2.2.2 q h
      · obtain ⟨z, -, hz⟩ := List.mem_map.mp h
        rw [← hz]
        exact Nat.le_add_right _ _⟩⟩ _ hheap X'
  exact ⟨t2, step t2 a1, b1⟩
theorem g_copyL (C0 : gC p s m meth c args cc nL own D base Z) (hG : gH D base s u H locs) (hl : Cond.methodLink own index arraycopyName ∈ wG) (hnat : Cond.native arraycopyName ∈ wG) (hst : Cond.static arraycopyName ∈ wG) (hini : Cond.initialized "java/lang/System" ∈ wG) (hsize : ls.size = nL) {n0 n1 : Nat} (hi0 : gis u a0 (3, n0)) (hi1 : gis u a (3, n1))
    {sp dp n : Int32} (hc : (¬ sp < 0 ∧ ¬ dp < 0 ∧ ¬ n < 0) ∧ sp.toNatClampNeg + n.toNatClampNeg ≤ n0 ∧ dp.toNatClampNeg + n.toNatClampNeg ≤ n1) (hR : 1 ≤ R.frames ∧ (rest.map fun v => v.category).sum + (nativeFrameWords "java/lang/System" "arraycopy" 5 + 11) ≤ R.locals) (hdg : decode cc pc = .ok (.invokestatic index, 3))
    (kk : ∀ (H1 : Heap) (locs1 : List Loc), gH D base s (sCL u a0 sp.toNatClampNeg a dp.toNatClampNeg n.toNatClampNeg) H1 locs1 → W p l e R s m args below meth c H1 locs1 cells slots Q (F0 m (pc + 3) ls rest)) : W p l e R s m args below meth c H locs cells slots Q (F0 m pc ls (.int n :: .int dp :: .ref (base + a) :: .int sp :: .ref (base + a0) :: rest)) := by
  obtain ⟨hx, hb, hml, hown, hts, hN, hK, hZ, hbl, hlk⟩ := C0
  obtain ⟨⟨h1, h2, h3⟩, h4, h5⟩ := hc
  intro T hT X
  have hc0 : H[base + a0]? = some (vp_cell (D.2 2) (n0, .inr (.inl (gL u a0)))) := (hG.1.2.one hi0.1 (cell_L hi0.2)) 0 _ rfl
  have hc1 : H[base + a]? = some (vp_cell (D.2 2) (n1, .inr (.inl (gL u a)))) := (hG.1.2.one hi1.1 (cell_L hi1.2)) 0 _ rfl
  obtain ⟨-, k0, hk0, cm0, hkk0⟩ := (hK.2 2 _ rfl).1 n0 (fun j => .long (gL u a0 j))
  obtain ⟨-, k1, hk1, cm1, hkk1⟩ := (hK.2 2 _ rfl).1 n1 (fun j => .long (gL u a j))
  obtain ⟨vm', X', step⟩ := X.arraycopy hx hown (hts _ hl) (hts _ hnat) (hts _ hst) (hts _ hini) (src := base + a0) (dst := base + a) (cs := vp_cell (D.2 2) (n0, .inr (.inl (gL u a0)))) (cd := vp_cell (D.2 2) (n1, .inr (.inl (gL u a)))) (srcPos := sp) (destPos := dp) (n := n) (by rw [hT]; exact hc0) (by rw [hT]; exact hc1)
    (fun _ h => by cases h) (fun _ h => by cases h) (fun h => by cases h) (fun h => by cases h) hk0 hk1 hkk0 hkk1 (by simp [refKind]) h1 h2 h3
    (by rw [nn_of h1, nn_of h3]; show ¬ _ > ((arrV (D.2 2) n0 (fun j => .long (gL u a0 j))).slots.size : Int); rw [arrV_size]; omega)
    (by rw [nn_of h2, nn_of h3]; show ¬ _ > ((arrV (D.2 2) n1 (fun j => .long (gL u a j))).slots.size : Int); rw [arrV_size]; omega)
    (fun vm₁ _ i hi => by
      have e : (vp_cell (D.2 2) (n0, .inr (.inl (gL u a0)))).slots.getD (sp.toNatClampNeg + i) .null = .long (gL u a0 (sp.toNatClampNeg + i)) := by
        show (arrV (D.2 2) n0 (fun j => .long (gL u a0 j))).slots.getD _ _ = _
        rw [Array.getD_eq_getD_getElem?, arrV_read _ _ (by omega)]
        rfl
      refine ⟨?_, ?_⟩
      · rw [e]; rfl
      · rw [e]; exact trivial)
    (g := F0 m pc ls (.int n :: .int dp :: .ref (base + a) :: .int sp :: .ref (base + a0) :: rest)) rfl (by rw [hml]; exact hsize) (rest := rest) rfl (by rw [hb]; exact hdg) hR.1 (by show 2 * 0 + _ + _ ≤ _; have := hR.2; omega)
  have e1 : copied (vp_cell (D.2 2) (n0, .inr (.inl (gL u a0)))) (vp_cell (D.2 2) (n1, .inr (.inl (gL u a)))) sp dp n = vp_cell (D.2 2) (n1, .inr (.inl (va_cpy (gL u a0) (gL u a) sp.toNatClampNeg dp.toNatClampNeg n.toNatClampNeg))) := va_copied (fun z => .long z) (D.2 2) (D.2 2) (gL u a0) (gL u a) h4
  rw [e1] at X' step
  have hl' : base + a < H.size := (Array.getElem?_eq_some_iff.mp hc1).1
  have hheap : ((T.setVm vm').setCell (base + a) (vp_cell (D.2 2) (n1, .inr (.inl (va_cpy (gL u a0) (gL u a) sp.toNatClampNeg dp.toNatClampNeg n.toNatClampNeg))))).heap = H.setIfInBounds (base + a) (vp_cell (D.2 2) (n1, .inr (.inl (va_cpy (gL u a0) (gL u a) sp.toNatClampNeg dp.toNatClampNeg n.toNatClampNeg)))) := by rw [← hT]; rfl
  have oq : ∀ q : Nat, q ≠ base + a → (H.setIfInBounds (base + a) (vp_cell (D.2 2) (n1, .inr (.inl (va_cpy (gL u a0) (gL u a) sp.toNatClampNeg dp.toNatClampNeg n.toNatClampNeg)))))[q]? = H[q]? := fun q hq => by simp [Array.getElem?_setIfInBounds, Ne.symm hq]
  have hR1 := hG.1.2.set (t := a) (e := .inl (D.2 2, (n1, .inr (.inl (va_cpy (gL u a0) (gL u a) sp.toNatClampNeg dp.toNatClampNeg n.toNatClampNeg))))) (show (H.setIfInBounds (base + a) _)[base + a]? = some _ by simp [Array.getElem?_setIfInBounds, hl']) (by simp) oq
  obtain ⟨t2, a1, b1⟩ := kk _ _ ⟨⟨hG.1.1, hR1.congr (put_L hi1.2)⟩, ⟨by simp; exact hG.2.1, fun q g1 g2 => by
      rw [oq q (fun e => g2 (by rw [e]; exact Nat.le_add_right _ _))]
      exact hG.2.2.1 q g1 g2, fun q hq => by
      rcases List.mem_append.mp hq with h | h
      · exact hG.2.2.2 q h
      · obtain ⟨z, -, hz⟩ := List.mem_map.mp h
        rw [← hz]
        exact Nat.le_add_right _ _⟩⟩ _ hheap X'
  exact ⟨t2, step t2 a1, b1⟩
theorem g_alen (C0 : gC p s m meth c args cc nL own D base Z) (hG : gH D base s u H locs) {N : Nat} (hi : gis u t (1, N)) {v : Int32} (hv : Int32.ofNat N = v) (hdg : decode cc pc = .ok (.arraylength, 1))
    (kk : W p l e R s m args below meth c H locs cells slots Q (F0 m (pc + 1) ls (.int v :: rest))) : W p l e R s m args below meth c H locs cells slots Q (F0 m pc ls (.ref (base + t) :: rest)) :=
  va_alen (D := D.1) C0.1 C0.2.1 C0.2.2.2.2.2.2.1 (hG.1.2.one hi.1 (cell_A hi.2)) 0 rfl (t0 := 0) rfl hv hdg kk
/-! the Strings -/
def sB (i k : Nat) : Int32 := (sByt.getD i []).getD k 0
theorem g_ldcS (C0 : gC p s m meth c args cc nL own D base Z) (ho : own = RX3) {i : Nat} (hi : i < 4) (hx : sIdx i = index) (hdg : decode cc pc = .ok (.ldc index, 2))
    (kk : W p l e R s m args below meth c H locs cells slots Q (F0 m (pc + 2) ls (.ref (Z.2.2.1 i) :: rest))) : W p l e R s m args below meth c H locs cells slots Q (F0 m pc ls rest) := by
  subst ho; subst hx
  exact va_ldcS C0.1 C0.2.1 C0.2.2.2.1 (C0.2.2.2.2.2.2.2.1.2.2.2.2.2.2.1 i hi) hdg kk
theorem g_recvS (C0 : gC p s m meth c args cc nL own D base Z) (hG : gH D base s u H locs) {i : Nat} (hi : i < 4) : gRecv s H "java/lang/String" (Z.2.2.1 i) :=
  vk_recv C0.2.2.2.2.2.2.2.1.2.2.2.2.2.1 hi hG.2
theorem g_sCS (C0 : gC p s m meth c args cc nL own D base Z) (hG : gH D base s u H locs) (hl : Cond.fieldLink own index "java/lang/String" "COMPACT_STRINGS" "Z" ∈ wG) (hdg : decode cc pc = .ok (.getstatic index, 3))
    (kk : W p l e R s m args below meth c H locs cells slots Q (F0 m (pc + 3) ls (.int 1 :: rest))) : W p l e R s m args below meth c H locs cells slots Q (F0 m pc ls rest) :=
  va_gets C0.1 C0.2.1 C0.2.2.2.2.2.2.2.1.2.2.2.2.1 hG.2 C0.2.2.2.1 (C0.2.2.2.2.1 _ hl) (fun _ h => h) hdg kk
theorem g_sFM (C0 : gC p s m meth c args cc nL own D base Z) (hG : gH D base s u H locs) (hl : Cond.fieldLink own index "jdk/internal/util/Preconditions" "SIOOBE_FORMATTER" "Ljava/util/function/BiFunction;" ∈ wG) (hdg : decode cc pc = .ok (.getstatic index, 3))
    (kk : ∀ z : Option Nat, W p l e R s m args below meth c H locs cells slots Q (F0 m (pc + 3) ls (va_rf z :: rest))) : W p l e R s m args below meth c H locs cells slots Q (F0 m pc ls rest) := by
  rcases C0.2.2.2.2.2.2.2.1.2.2.2.2.2.2.2 with h | ⟨t, h⟩
  · exact va_gets C0.1 C0.2.1 h hG.2 C0.2.2.2.1 (C0.2.2.2.2.1 _ hl) (fun _ h => h) hdg (kk none)
  · exact va_gets C0.1 C0.2.1 h hG.2 C0.2.2.2.1 (C0.2.2.2.2.1 _ hl) (fun _ h => h) hdg (kk (some t))
theorem g_sCo (C0 : gC p s m meth c args cc nL own D base Z) (hG : gH D base s u H locs) {i : Nat} (hi : i < 4) (hl : Cond.fieldLink own index "java/lang/String" "coder" "B" ∈ wG) (hdg : decode cc pc = .ok (.getfield index, 3))
    (kk : W p l e R s m args below meth c H locs cells slots Q (F0 m (pc + 3) ls (.int 0 :: rest))) : W p l e R s m args below meth c H locs cells slots Q (F0 m pc ls (.ref (Z.2.2.1 i) :: rest)) :=
  vk_getf C0.1 C0.2.1 (C0.2.2.2.2.2.2.2.1.2.2.2.2.2.1.1 i hi).2.1 hG.2 C0.2.2.2.1 (C0.2.2.2.2.1 _ hl) (fun _ h => h) hdg kk
theorem g_sVa (C0 : gC p s m meth c args cc nL own D base Z) (hG : gH D base s u H locs) {i : Nat} (hi : i < 4) (hl : Cond.fieldLink own index "java/lang/String" "value" "[B" ∈ wG) (hdg : decode cc pc = .ok (.getfield index, 3))
    (kk : W p l e R s m args below meth c H locs cells slots Q (F0 m (pc + 3) ls (.ref (Z.2.2.2 i) :: rest))) : W p l e R s m args below meth c H locs cells slots Q (F0 m pc ls (.ref (Z.2.2.1 i) :: rest)) :=
  vk_getf C0.1 C0.2.1 (C0.2.2.2.2.2.2.2.1.2.2.2.2.2.1.1 i hi).2.2.1 hG.2 C0.2.2.2.1 (C0.2.2.2.2.1 _ hl) (fun _ h => h) hdg kk
theorem g_sLe (C0 : gC p s m meth c args cc nL own D base Z) (hG : gH D base s u H locs) {i : Nat} (hi : i < 4) (hdg : decode cc pc = .ok (.arraylength, 1))
    (kk : W p l e R s m args below meth c H locs cells slots Q (F0 m (pc + 1) ls (.int (Int32.ofNat (sLen.getD i 0)) :: rest))) : W p l e R s m args below meth c H locs cells slots Q (F0 m pc ls (.ref (Z.2.2.2 i) :: rest)) :=
  va_tlen C0.1 C0.2.1 (C0.2.2.2.2.2.2.2.1.2.2.2.2.2.1.1 i hi).2.2.2 hG.2 rfl hdg kk
theorem g_sBy (C0 : gC p s m meth c args cc nL own D base Z) (hG : gH D base s u H locs) {i : Nat} (hi : i < 4) {k : Int32} (hin : vp_in k (sLen.getD i 0)) (hdg : decode cc pc = .ok (.baload, 1))
    (kk : W p l e R s m args below meth c H locs cells slots Q (F0 m (pc + 1) ls (.int (sB i k.toNatClampNeg) :: rest))) : W p l e R s m args below meth c H locs cells slots Q (F0 m pc ls (.int k :: .ref (Z.2.2.2 i) :: rest)) :=
  va_tb C0.1 C0.2.1 (C0.2.2.2.2.2.2.2.1.2.2.2.2.2.1.1 i hi).2.2.2 hG.2 hin rfl hdg kk
/-! calls that make nothing -/
variable {mc ms : Nat}
theorem g_doI0 {a : Array Value} {r : Int32} {u1 : Mem} (hG : gH D base s u H locs) (hr : va_Run p l e R s m args below meth c H locs cells slots 0 0 (F0 m pc ls st0) rest (gQi D base r u1 a) (gF base))
    (kk : ∀ (H1 : Heap) (locs1 : List Loc), gH D base s u1 H1 locs1 → u.1 ≤ u1.1 → W p l e R s m args below meth c H1 locs1 cells slots Q (F0 m (pc + 3) ls (.int r :: rest))) : W p l e R s m args below meth c H locs cells slots Q (F0 m pc ls st0) := g_doI hG hr kk
theorem g_doL0 {a : Array Value} {r : Int64} {u1 : Mem} (hG : gH D base s u H locs) (hr : va_Run p l e R s m args below meth c H locs cells slots 0 0 (F0 m pc ls st0) rest (gQl D base r u1 a) (gF base))
    (kk : ∀ (H1 : Heap) (locs1 : List Loc), gH D base s u1 H1 locs1 → u.1 ≤ u1.1 → W p l e R s m args below meth c H1 locs1 cells slots Q (F0 m (pc + 3) ls (.long r :: rest))) : W p l e R s m args below meth c H locs cells slots Q (F0 m pc ls st0) := g_doL hG hr kk
theorem g_doV0 {a : Array Value} {u1 : Mem} (hG : gH D base s u H locs) (hr : va_Run p l e R s m args below meth c H locs cells slots 0 0 (F0 m pc ls st0) rest (gQv D base u1 a) (gF base))
    (kk : ∀ (H1 : Heap) (locs1 : List Loc), gH D base s u1 H1 locs1 → u.1 ≤ u1.1 → W p l e R s m args below meth c H1 locs1 cells slots Q (F0 m (pc + 3) ls rest)) : W p l e R s m args below meth c H locs cells slots Q (F0 m pc ls st0) := g_doV hG hr kk
theorem g_doQ0 {a : Array Value} {r : Option Nat} {u1 : Mem} (hG : gH D base s u H locs) (hr : va_Run p l e R s m args below meth c H locs cells slots 0 0 (F0 m pc ls st0) rest (gQq D base r u1 a) (gF base))
    (kk : ∀ (H1 : Heap) (locs1 : List Loc), gH D base s u1 H1 locs1 → u.1 ≤ u1.1 → W p l e R s m args below meth c H1 locs1 cells slots Q (F0 m (pc + 3) ls (va_rf (r.map (fun x => base + x)) :: rest))) : W p l e R s m args below meth c H locs cells slots Q (F0 m pc ls st0) := g_doQ hG hr kk
end CPY
def omat {β : Type} (x : Option Nat) (a : Option β) (k : Nat → Option β) : Option β := match x with
  | none => a
  | some b => k b
theorem omat_n {β : Type} {a : Option β} {k : Nat → Option β} {r : β} (h : omat none a k = some r) : a = some r := h
theorem omat_v {β : Type} {b : Nat} {a : Option β} {k : Nat → Option β} {r : β} (h : omat (some b) a k = some r) : k b = some r := h
theorem pb_s {α β : Type} {x : Option α} {k : α → Option β} {r : β} (h : Option.bind x k = some r) : ∃ a, x = some a ∧ k a = some r := by
  cases x with
  | none => cases h
  | some q => exact ⟨q, rfl, h⟩
