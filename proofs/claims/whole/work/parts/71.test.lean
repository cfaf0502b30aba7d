/-! THE STATES of both while an E is read -/
def SCb (b x : Nat) : Prop := x ≠ 63 ∧ x ≠ b ∧ x ≠ b + 1
def CU (u : Mem) (b : Nat) : Prop := gR u 63 3 = b ∧ gokb u.1 b l0 = true ∧ (b = 65 ∨ 129 ≤ b)
def CB (u : Mem) (b : Nat) (T : Nat → Nat) (m a s : Nat) (C : List Nat) (v : Mem) : Prop := Agr (SCb b) TT u v ∧ gR v = gR u ∧ TV T m a v ∧ gI v b 1 = nI C.length ∧ gI v b 2 = nI s ∧ ∀ i, i < C.length → gA v (b + 1) i = nI (iC (C.getD i 0))
theorem CB.lv {u v v' : Mem} {b : Nat} {T : Nat → Nat} {m a s a' : Nat} {C : List Nat} (hU : CU u b) (h : CB u b T m a s C v) (h2 : LV v v' a') (ha : a' ≤ m) : CB u b T m a' s C v' := by
  obtain ⟨h1, h3, h4, h5, h6, h7⟩ := h
  have hb := hU.2.2
  refine ⟨h1.trans (h2.1.mono (fun x hx => hx.1) (fun _ h => h)), h2.2.1.trans h3, h4.lv h2 ha, ?_, ?_, ?_⟩
  · rw [h2.1.I (show b ≠ 63 by omega)]; exact h5
  · rw [h2.1.I (show b ≠ 63 by omega)]; exact h6
  · rw [h2.1.A (show b + 1 ≠ 63 by omega)]; exact h7
theorem getD_appN {L : List Nat} {b : Nat} {j : Nat} : (L ++ [b]).getD j 0 = if j < L.length then L.getD j 0 else if j = L.length then b else 0 := by
  simp only [List.getD_eq_getElem?_getD]
  by_cases h : j < L.length
  · rw [if_pos h, List.getElem?_append_left h]
  · rw [if_neg h, List.getElem?_append_right (by omega)]
    by_cases q : j = L.length
    · rw [if_pos q, q]
      simp
    · rw [if_neg q]
      obtain ⟨k, hk⟩ : ∃ k, j - L.length = k + 1 := ⟨j - L.length - 1, by omega⟩
      rw [hk]
      rfl
theorem CB.add {u v : Mem} {b : Nat} {T : Nat → Nat} {m a s : Nat} {C : List Nat} (hU : CU u b) (h : CB u b T m a s C v) (hC : C.length < 100) {p1 p2 p3 : Int32} {k : Nat} (hk : ((p1 <<< ((16 : Int32) &&& 31)) ||| (p2 <<< ((8 : Int32) &&& 31))) ||| p3 = nI (iC k)) : ∃ v', f_X0_add b p1 p2 p3 v = some ((), v') ∧ CB u b T m a s (C ++ [k]) v' := by
  obtain ⟨h1, h3, h4, h5, h6, h7⟩ := h
  have hb := hU.2.2
  have hl : (C ++ [k]).length = C.length + 1 := by simp
  unfold f_X0_add
  rw [hk, gI_sA, h5, if_neg (by (simp (disch := omega) only [le_I, lt_I, eq_I, nI_toInt, Int32.reduceToInt, ne_eq] <;> omega)), gin_nI hC (by decide), nI_clamp (by omega), nI_1]
  refine ⟨_, rfl, (h1.sa (fun q => q.2.2 rfl)).si (fun q => q.2.1 rfl) (Or.inl (by omega)), h3, ?_, ?_, ?_, fun i hi => ?_⟩
  · obtain ⟨t1, t2, t3, t4⟩ := h4
    refine ⟨fun i hi => ?_, ?_, ?_, t4⟩
    · rw [gA_sI, gA_sA_n (by omega)]; exact t1 i hi
    · rw [gI_sI_n (by omega)]; exact t2
    · rw [gI_sI_n (by omega)]; exact t3
  · rw [gI_sI_s, hl]
  · rw [gI_sI_k (by decide)]; exact h6
  · rw [gA_sI, gA_sA_s, upd_eq, getD_appN]
    rw [hl] at hi
    by_cases q : i = C.length
    · rw [if_pos q, if_neg (by omega), if_pos q]
    · rw [if_neg q, if_pos (by omega)]
      exact h7 i (by omega)
theorem CB.gob {u v : Mem} {b : Nat} {T : Nat → Nat} {m a s : Nat} {C : List Nat} {α : Type} (hU : CU u b) (h : CB u b T m a s C v) (k : Nat → Option α) : gob v.1 (gR v 63 3) l0 (k (gR v 63 3)) = k b := by
  have e : gR v 63 3 = b := by rw [h.2.1]; exact hU.1
  rw [e]
  exact gob_t (by rw [h.1.1]; exact hU.2.1)
/-! the reference -/
def opn : List Nat → Nat
  | [] => 0
  | x :: r => (if x = 33 ∨ x = 40 then 1 else 0) + opn r
def WST (g : Nat → Int32) : List Nat → Prop
  | [] => True
  | x :: r => g r.length = nI x ∧ x < 128 ∧ WST g r
theorem WST_upd {g : Nat → Int32} {x : Int32} {i : Nat} : ∀ {r : List Nat}, r.length ≤ i → WST g r → WST (upd g i x) r
  | [], _, _ => trivial
  | b :: r, h, hs => ⟨by
      rw [List.length_cons] at h
      show (if r.length = i then x else g r.length) = nI b
      rw [if_neg (by omega)]; exact hs.1, hs.2.1, WST_upd (by rw [List.length_cons] at h; omega) hs.2.2⟩
def SE (x : Nat) : Prop := x ≠ 82 ∧ ¬ (95 ≤ x ∧ x ≤ 97)
def FE (k : Nat) : Prop := k ≠ 15 ∧ k ≠ 16 ∧ k ≠ 25 ∧ k ≠ 26 ∧ k ≠ 27
def MX (y : Mem) (T : Nat → Nat) (m sb c a : Nat) (z : Mem) : Prop := Agr SE FE y z ∧ TZ T m a z ∧ (∀ x, x ≠ c → gA z 95 x = gA y 95 x) ∧ ∀ i, i < sb → gA z 96 i = gA y 96 i
def MB (y : Mem) (T : Nat → Nat) (m sb c a : Nat) (W S : List Nat) (z : Mem) : Prop := MX y T m sb c a z ∧ gI z 82 25 = nI (sb + S.length) ∧ gI z 82 26 = nI W.length ∧ gI z 82 27 = nI (opn W) ∧ (∀ i, i < S.length → gA z 96 (sb + i) = sg (S.getD i 0)) ∧ WST (gA z 97) W
theorem MX.lx {y z z' : Mem} {T : Nat → Nat} {m sb c a a' : Nat} (h : MX y T m sb c a z) (h2 : LX z z' a') (ha : a' ≤ m) : MX y T m sb c a' z' := by
  obtain ⟨h1, h3, h4, h5⟩ := h
  refine ⟨h1.trans (h2.1.mono (fun x hx => hx.1) (fun k hk => ⟨hk.1, hk.2.1⟩)), h3.lx h2 ha, ?_, ?_⟩
  · rw [h2.1.A (by decide)]; exact h4
  · rw [h2.1.A (by decide)]; exact h5
theorem MB.lx {y z z' : Mem} {T : Nat → Nat} {m sb c a a' : Nat} {W S : List Nat} (h : MB y T m sb c a W S z) (h2 : LX z z' a') (ha : a' ≤ m) : MB y T m sb c a' W S z' := by
  obtain ⟨h1, h3, h4, h5, h6, h7⟩ := h
  refine ⟨h1.lx h2 ha, (h2.1.2.2 25 (by decide)).trans h3, (h2.1.2.2 26 (by decide)).trans h4, (h2.1.2.2 27 (by decide)).trans h5, ?_, ?_⟩
  · rw [h2.1.A (by decide)]; exact h6
  · rw [h2.1.A (by decide)]; exact h7
theorem MX.si {y z : Mem} {T : Nat → Nat} {m sb c a : Nat} (h : MX y T m sb c a z) {k : Nat} {x : Int32} (hk : k = 16 ∨ k = 25 ∨ k = 26 ∨ k = 27) : MX y T m sb c a (sI z 82 k x) := by
  obtain ⟨h1, ⟨t1, t2, t3, t4⟩, h4, h5⟩ := h
  exact ⟨h1.si (fun q => q.1 rfl) (Or.inr (by unfold FE; omega)), ⟨t1, (gI_sI_k (by omega) 82).trans t2, (gI_sI_k (by omega) 82).trans t3, t4⟩, h4, h5⟩
theorem emitM {y z : Mem} {T : Nat → Nat} {m sb c a : Nat} {W S : List Nat} (h : MB y T m sb c a W S z) (hb : sb + S.length < 600) (k : Nat) {x : Int32} (hx : x = sg k) : ∃ z', f_X8_emits x z = some ((), z') ∧ MB y T m sb c a W (S ++ [k]) z' := by
  obtain ⟨⟨h1, ⟨t1, t2, t3, t4⟩, h2, h3⟩, h4, h5, h6, h7, h8⟩ := h
  have hl : (S ++ [k]).length = S.length + 1 := by simp
  unfold f_X8_emits
  rw [gI_sA, h4, gin_nI hb (by decide), nI_clamp (by omega), nI_1]
  refine ⟨_, rfl, ⟨(h1.sa (by unfold SE; omega)).si (fun q => q.1 rfl) (Or.inr (by unfold FE; omega)), ⟨t1, (gI_sI_k (by decide) 82).trans t2, (gI_sI_k (by decide) 82).trans t3, t4⟩, h2, fun i hi => ?_⟩, ?_, (gI_sI_k (by decide) 82).trans h5, (gI_sI_k (by decide) 82).trans h6, fun i hi => ?_, h8⟩
  · rw [gA_sI, gA_sA_s, upd_n (by omega)]; exact h3 i hi
  · rw [gI_sI_s, hl]; rfl
  · rw [gA_sI, gA_sA_s, upd_eq, getD_appN]
    rw [hl] at hi
    by_cases q : i = S.length
    · rw [if_pos (by omega), if_neg (by omega), if_pos q, hx]
    · rw [if_neg (by omega), if_pos (by omega)]
      exact h7 i (by omega)
def whl : List Nat → List Nat → List Nat × List Nat
  | [], S => ([], S)
  | x :: r, S => if x = 33 then whl r (S ++ [10003]) else (x :: r, S)
def stl (s : Nat) : List Nat → List Nat → List Nat × List Nat
  | [], S => ([], S)
  | x :: r, S => if x = 38 then stl s r (S ++ [10001]) else if x = 124 then (if s = 38 then (x :: r, S) else stl s r (S ++ [10002])) else (x :: r, S)
theorem nI_sm {x c : Nat} (hx : x < 128) (hc : c < 128) : (nI x = nI c) ↔ x = c := nI_eq (by omega) (by omega)
theorem wholeM {y : Mem} {T : Nat → Nat} {m sb c a : Nat} : ∀ (W S : List Nat) (z : Mem) (n : Nat), MB y T m sb c a W S z → sb + S.length + W.length ≤ 600 → W.length ≤ 101 → W.length < n → ∃ z', whileO (fun s => f_X8_whole_L0 s) n z = some ((), z') ∧ MB y T m sb c a (whl W S).1 (whl W S).2 z'
  | [], S, z, n, h, _, _, hn => by
    obtain ⟨n, rfl⟩ := Nat.exists_eq_succ_of_ne_zero (by omega : n ≠ 0)
    refine ⟨z, whileO_inr ?_, h⟩
    show f_X8_whole_L0 z = _
    unfold f_X8_whole_L0
    rw [h.2.2.1, if_pos (by decide)]
  | x :: r, S, z, n, h, hb, hw, hn => by
    rw [List.length_cons] at hb hw hn
    obtain ⟨n, rfl⟩ := Nat.exists_eq_succ_of_ne_zero (by omega : n ≠ 0)
    have h26 := h.2.2.1
    have h97 := h.2.2.2.2.2
    rw [List.length_cons] at h26
    unfold whl
    by_cases q : x = 33
    · rw [if_pos q]
      obtain ⟨z1, e1, e2⟩ := emitM h (by omega) 10003 (x := -33) rfl
      have h3 := e2.2.2.2.1
      have hz2 : MB y T m sb c a r (S ++ [10003]) (sI (sI z1 82 26 (nI r.length)) 82 27 (nI (opn r))) := by
        refine ⟨(e2.1.si (by decide)).si (by decide), (gI_sI_k (by decide) 82).trans ((gI_sI_k (by decide) 82).trans e2.2.1), (gI_sI_k (by decide) 82).trans (gI_sI_s _ _ _ _), gI_sI_s _ _ _ _, e2.2.2.2.2.1, ?_⟩
        exact e2.2.2.2.2.2.2.2
      obtain ⟨z', e3, e4⟩ := wholeM r (S ++ [10003]) _ n hz2 (by rw [List.length_append]; simp only [List.length_cons, List.length_nil]; omega) (by omega) (by omega)
      refine ⟨z', (whileO_inl ?_).trans e3, e4⟩
      show f_X8_whole_L0 z = _
      have e26 := e2.2.2.1
      rw [List.length_cons] at e26
      unfold f_X8_whole_L0
      rw [h26, if_neg (by (simp (disch := omega) only [le_I, lt_I, eq_I, nI_toInt, Int32.reduceToInt, ne_eq] <;> omega)), nI_pred, gin_nI (by omega) (by decide), nI_clamp (by omega), h97.1, if_pos (by rw [q]; rfl), obind_of e1, e26, nI_pred, gI_sI_k (by decide), h3]
      have e : nI (opn (x :: r)) - (1 : Int32) = nI (opn r) := by
        show nI ((if x = 33 ∨ x = 40 then 1 else 0) + opn r) - 1 = _
        rw [if_pos (Or.inl q), Nat.add_comm, nI_pred]
      rw [e]
    · rw [if_neg q]
      refine ⟨z, whileO_inr ?_, h⟩
      show f_X8_whole_L0 z = _
      unfold f_X8_whole_L0
      rw [h26, if_neg (by (simp (disch := omega) only [le_I, lt_I, eq_I, nI_toInt, Int32.reduceToInt, ne_eq] <;> omega)), nI_pred, gin_nI (by omega) (by decide), nI_clamp (by omega), h97.1, if_neg (show ¬ nI x = (33 : Int32) from fun z => q ((nI_sm (c := 33) h97.2.1 (by decide)).mp z))]
theorem settleM {y : Mem} {T : Nat → Nat} {m sb c a s : Nat} (hs : s = 38 ∨ s = 124) : ∀ (W S : List Nat) (z : Mem) (n : Nat), MB y T m sb c a W S z → sb + S.length + W.length ≤ 600 → W.length ≤ 101 → W.length < n → ∃ z', whileO (fun q => f_X8_settle_L0 (nI s) q) n z = some ((), z') ∧ MB y T m sb c a (stl s W S).1 (stl s W S).2 z'
  | [], S, z, n, h, _, _, hn => by
    obtain ⟨n, rfl⟩ := Nat.exists_eq_succ_of_ne_zero (by omega : n ≠ 0)
    refine ⟨z, whileO_inr ?_, h⟩
    show f_X8_settle_L0 (nI s) z = _
    unfold f_X8_settle_L0
    rw [h.2.2.1, if_pos (by decide)]
  | x :: r, S, z, n, h, hb, hw, hn => by
    rw [List.length_cons] at hb hw hn
    obtain ⟨n, rfl⟩ := Nat.exists_eq_succ_of_ne_zero (by omega : n ≠ 0)
    have h26 := h.2.2.1
    have h27 := h.2.2.2.1
    have h97 := h.2.2.2.2.2
    rw [List.length_cons] at h26
    have hpop : ∀ k : Nat, ¬ (x = 33 ∨ x = 40) → ∀ o : Int32, o = sg k → ∃ z1, f_X8_emits o (sI z 82 26 (nI r.length)) = some ((), z1) ∧ MB y T m sb c a r (S ++ [k]) z1 := by
      intro k hx o ho
      have hz1 : MB y T m sb c a r S (sI z 82 26 (nI r.length)) := by
        refine ⟨h.1.si (by decide), (gI_sI_k (by decide) 82).trans h.2.1, gI_sI_s _ _ _ _, (gI_sI_k (by decide) 82).trans ?_, h.2.2.2.2.1, h97.2.2⟩
        rw [h27]
        show nI ((if x = 33 ∨ x = 40 then 1 else 0) + opn r) = _
        rw [if_neg hx, Nat.zero_add]
      exact emitM hz1 (by omega) k ho
    have hgo : ∀ k : Nat, ¬ (x = 33 ∨ x = 40) → -(nI x) = sg k → (∀ z1, f_X8_emits (-(nI x)) (sI z 82 26 (nI r.length)) = some ((), z1) → f_X8_settle_L0 (nI s) z = some (.inl z1)) → ∃ z', whileO (fun q => f_X8_settle_L0 (nI s) q) (n + 1) z = some ((), z') ∧ MB y T m sb c a (stl s r (S ++ [k])).1 (stl s r (S ++ [k])).2 z' := by
      intro k hx hk hst
      obtain ⟨z1, e1, e2⟩ := hpop k hx _ hk
      obtain ⟨z', e3, e4⟩ := settleM hs r (S ++ [k]) z1 n e2 (by rw [List.length_append]; simp only [List.length_cons, List.length_nil]; omega) (by omega) (by omega)
      exact ⟨z', (whileO_inl (hst z1 e1)).trans e3, e4⟩
    have hstop : f_X8_settle_L0 (nI s) z = some (.inr ((), z)) → ∃ z', whileO (fun q => f_X8_settle_L0 (nI s) q) (n + 1) z = some ((), z') ∧ MB y T m sb c a (x :: r) S z' := fun e => ⟨z, whileO_inr e, h⟩
    have hx97 : gA (sI z 82 26 (nI r.length)) 97 r.length = nI x := h97.1
    unfold stl
    by_cases q : x = 38
    · rw [if_pos q]
      refine hgo 10001 (by omega) (by rw [q]; rfl) (fun z1 e1 => ?_)
      unfold f_X8_settle_L0
      rw [h26, if_neg (by (simp (disch := omega) only [le_I, lt_I, eq_I, nI_toInt, Int32.reduceToInt, ne_eq] <;> omega)), nI_pred, gin_nI (show r.length < 101 by omega) (by decide), nI_clamp (by omega), h97.1, if_pos (by rw [q]; rfl), gI_sI_s, gin_nI (show r.length < 101 by omega) (by decide), nI_clamp (by omega), hx97, obind_of e1]
    · rw [if_neg q]
      by_cases q2 : x = 124
      · rw [if_pos q2]
        rcases hs with rfl | rfl
        · rw [if_pos rfl]
          refine hstop ?_
          unfold f_X8_settle_L0
          rw [h26, if_neg (by (simp (disch := omega) only [le_I, lt_I, eq_I, nI_toInt, Int32.reduceToInt, ne_eq] <;> omega)), nI_pred, gin_nI (show r.length < 101 by omega) (by decide), nI_clamp (by omega), h97.1, if_neg (show ¬ nI x = (38 : Int32) from fun z => q ((nI_sm (c := 38) h97.2.1 (by decide)).mp z)), gin_nI (show r.length < 101 by omega) (by decide), if_pos (by rw [q2]; rfl), if_pos (show nI 38 = 38 from rfl)]
        · rw [if_neg (by decide)]
          refine hgo 10002 (by omega) (by rw [q2]; rfl) (fun z1 e1 => ?_)
          unfold f_X8_settle_L0
          rw [h26, if_neg (by (simp (disch := omega) only [le_I, lt_I, eq_I, nI_toInt, Int32.reduceToInt, ne_eq] <;> omega)), nI_pred, gin_nI (show r.length < 101 by omega) (by decide), nI_clamp (by omega), h97.1, if_neg (show ¬ nI x = (38 : Int32) from fun z => q ((nI_sm (c := 38) h97.2.1 (by decide)).mp z)), gin_nI (show r.length < 101 by omega) (by decide), if_pos (by rw [q2]; rfl), if_neg (show ¬ nI 124 = 38 by decide), gI_sI_s, gin_nI (show r.length < 101 by omega) (by decide), nI_clamp (by omega), hx97, obind_of e1]
      · rw [if_neg q2]
        refine hstop ?_
        unfold f_X8_settle_L0
        rw [h26, if_neg (by (simp (disch := omega) only [le_I, lt_I, eq_I, nI_toInt, Int32.reduceToInt, ne_eq] <;> omega)), nI_pred, gin_nI (show r.length < 101 by omega) (by decide), nI_clamp (by omega), h97.1, if_neg (show ¬ nI x = (38 : Int32) from fun z => q ((nI_sm (c := 38) h97.2.1 (by decide)).mp z)), gin_nI (show r.length < 101 by omega) (by decide), if_neg (show ¬ nI x = (124 : Int32) from fun z => q2 ((nI_sm (c := 124) h97.2.1 (by decide)).mp z))]
/-! a test -/
def plN (c : Nat) : Nat := if c = 112 then 0 else if c = 107 then 1 else if c = 118 then 2 else if c = 116 then 3 else if c = 111 then 4 else if c = 109 then 5 else 6
theorem place_dec : ∀ c, c < 128 → f_X8_place (nI c) = some (if plN c < 6 then nI (plN c) else -1) ∧ f_J0_indexOf_0f7a4 3 (((nI c).toUInt32 % 65536).toInt32) = some (if plN c < 6 then nI (plN c) else -1) := by decide +kernel
theorem code_dec : ∀ f, f < 6 → ∀ s, s < 3 → ∀ n, n < 100 → ((nI f <<< ((16 : Int32) &&& 31)) ||| (nI (60 + s) <<< ((8 : Int32) &&& 31))) ||| nI n = nI (f * 65536 + (60 + s) * 256 + n) := by decide +kernel
theorem iC_test {f s n : Nat} (hf : f < 6) (hs : s < 3) (hn : n < 100) : iC (1000 * f + 100 * s + n) = f * 65536 + (60 + s) * 256 + n := by
  unfold iC
  rw [if_neg (by omega), if_neg (by omega), if_neg (by omega), if_neg (by omega)]
  have e1 : (1000 * f + 100 * s + n) / 1000 = f := by omega
  have e2 : (1000 * f + 100 * s + n) / 100 % 10 = s := by omega
  have e3 : (1000 * f + 100 * s + n) % 100 = n := by omega
  rw [e1, e2, e3]
theorem testL {T : Nat → Nat} {m : Nat} (hm : m ≤ 100) (hT : ∀ i, i < m → T i < 128) (a : Nat) (ha : a ≤ m) :
    (∃ k a', a + 3 ≤ a' ∧ a' ≤ m ∧ k < 6000 ∧ k / 100 % 10 < 3 ∧ nx T m a ≠ 33 ∧ nx T m a ≠ 40 ∧
      (∀ u b s C v, CU u b → CB u b T m a s C v → C.length < 100 → ∃ v', f_X3_readTest v = some (1, v') ∧ CB u b T m a' s (C ++ [k]) v') ∧
      (∀ y sb c W S z, MB y T m sb c a W S z → sb + S.length + W.length < 600 → W.length ≤ 101 → ∃ z', f_X8_takesTest z = some (1, z') ∧ MB y T m sb c a' (whl W (S ++ [k])).1 (whl W (S ++ [k])).2 z')) ∨
    (∃ a', a ≤ a' ∧ a' ≤ m ∧ ((nx T m a = 33 ∨ nx T m a = 40) → a' = a) ∧
      (∀ u b s C v, CU u b → CB u b T m a s C v → ∃ v', f_X3_readTest v = some (0, v') ∧ CB u b T m a' s C v') ∧
      (∀ y sb c W S z, MB y T m sb c a W S z → ∃ z', f_X8_takesTest z = some (0, z') ∧ MB y T m sb c a' W S z')) := by
  rcases nx_lt (a := a) hT with ⟨c, hc, hnx, ham⟩ | ⟨hnx, ham⟩
  · obtain ⟨hp1, hp2⟩ := place_dec c hc
    by_cases hpl : plN c < 6
    · rw [if_pos hpl] at hp1 hp2
      have h33 : nx T m a ≠ 33 := by
        intro q
        rw [hnx] at q
        have : c = 33 := (nI_sm hc (by decide)).mp q
        rw [this] at hpl
        exact absurd hpl (by decide)
      have h40 : nx T m a ≠ 40 := by
        intro q
        rw [hnx] at q
        have : c = 40 := (nI_sm hc (by decide)).mp q
        rw [this] at hpl
        exact absurd hpl (by decide)
      have hr1 : (0 : Int32) ≤ nI c := by (simp (disch := omega) only [le_I, lt_I, eq_I, nI_toInt, Int32.reduceToInt, ne_eq] <;> omega)
      have hr2 : (0 : Int32) ≤ nI (plN c) := by (simp (disch := omega) only [le_I, lt_I, eq_I, nI_toInt, Int32.reduceToInt, ne_eq] <;> omega)
      have hv1 : ∀ u b q C v, CB u b T m a q C v → TV T m (a + 1) (sI v 63 2 (nI (a + 1))) := fun u b q C v h => h.2.2.1.lv (LV.go v (a + 1)) ham
      have hz1 : ∀ y sb cc W S z, MB y T m sb cc a W S z → TZ T m (a + 1) (sI z 82 15 (nI (a + 1))) := fun y sb cc W S z h => h.1.2.1.lx (LX.go z (a + 1)) ham
      by_cases hsg : ∃ s, s < 3 ∧ nx T m (a + 1) = nI (60 + s)
      · obtain ⟨s, hs, hnx2⟩ := hsg
        have ham2 := nx_nn hnx2 (by omega)
        obtain ⟨r, a', n1, n2, n3, n4, n5, n6⟩ := number (T := T) hm (a + 2)
        have n2 := n2 ham2
        have hs3 : s = 0 ∨ s = 1 ∨ s = 2 := by omega
        have hC : ∀ u b q C v, CB u b T m a q C v → ∀ val v3, f_X3_readNumber (sI (sI v 63 2 (nI (a + 1))) 63 2 (nI (a + 2))) = some (val, v3) → f_X3_readTest v = if (0 : Int32) ≤ val then gob v3.1 (gR v3 63 3) l0 (obind (f_X0_add (gR v3 63 3) (nI (plN c)) (nI (60 + s)) val v3) (fun _ u12 => some ((1 : Int32), u12))) else some ((0 : Int32), v3) := by
          intro u b q C v h val v3 hval
          have hv := h.2.2.1
          have hsk : ∀ o : Int32, f_X3_skip o (sI v 63 2 (nI (a + 1))) = if nI (60 + s) = o then some (1, sI (sI v 63 2 (nI (a + 1))) 63 2 (nI (a + 2))) else some (0, sI v 63 2 (nI (a + 1))) := fun o => by rw [skipC (hv1 u b q C v h), hnx2]
          unfold f_X3_readTest
          rw [pbind_of (nextC hv), hnx, if_pos hr1, pbind_of (nextC hv), hnx, pbind_of hp2, if_pos hr2, hv.2.2.1, nI_1, pbind_of (nextC (hv1 u b q C v h)), hnx2, hsk]
          rcases hs3 with rfl | rfl | rfl
          · rw [if_pos (show nI (60 + 0) = 60 from rfl), obind_some, if_neg (show ¬ (1 : Int32) = 0 by decide), obind_of hval]
          · rw [if_neg (show ¬ nI (60 + 1) = 60 by decide), obind_some, if_pos (show (0 : Int32) = 0 from rfl), hsk, if_pos (show nI (60 + 1) = 61 from rfl), obind_some, if_neg (show ¬ (1 : Int32) = 0 by decide), obind_of hval]
          · rw [if_neg (show ¬ nI (60 + 2) = 60 by decide), obind_some, if_pos (show (0 : Int32) = 0 from rfl), hsk, if_neg (show ¬ nI (60 + 2) = 61 by decide), obind_some, if_pos (show (0 : Int32) = 0 from rfl), hsk, if_pos (show nI (60 + 2) = 62 from rfl), obind_some, if_neg (show ¬ (1 : Int32) = 0 by decide), obind_of hval]
        have hM : ∀ y sb cc W S z, MB y T m sb cc a W S z → ∀ val z3, f_X8_takesNumber (sI (sI z 82 15 (nI (a + 1))) 82 15 (nI (a + 2))) = some (val, z3) → f_X8_takesTest z = if val = 0 then some ((0 : Int32), z3) else obind (f_X8_emits ((((1000 : Int32) * nI (plN c)) + ((100 : Int32) * (nI (60 + s) - (60 : Int32)))) + (gI z3 82 16)) z3) (fun _ u9 => obind (f_X8_whole u9) (fun _ u10 => some ((1 : Int32), u10))) := by
          intro y sb cc W S z h val z3 hval
          have hz := h.1.2.1
          unfold f_X8_takesTest
          rw [pbind_of (nextM hz), hnx, pbind_of hp1, if_pos hr2, hz.2.2.1, nI_1, pbind_of (nextM (hz1 y sb cc W S z h)), hnx2, pbind_of in_rng]
          have e60 : (60 : Int32).toInt = 60 := rfl
          have e62 : (62 : Int32).toInt = 62 := rfl
          rw [decide_eq_true (show (60 : Int32).toInt ≤ (nI (60 + s)).toInt ∧ (nI (60 + s)).toInt ≤ (62 : Int32).toInt by rw [nI_toInt (by omega)]; omega), if_neg bt, gI_sI_s, nI_1, obind_of hval]
        cases r with
        | none =>
          have ha' := n4 rfl
          refine Or.inr ⟨a', by omega, n2, fun q => ?_, fun u b q C v hU h => ?_, fun y sb cc W S z h => ?_⟩
          · rcases q with q | q
            · exact absurd q h33
            · exact absurd q h40
          · have hL := (LV.go v (a + 1)).trans (LV.go (sI v 63 2 (nI (a + 1))) (a + 2))
            obtain ⟨v3, e1, e2⟩ := n5 _ ((hv1 u b q C v h).lv (LV.go _ (a + 2)) ham2)
            refine ⟨v3, ?_, h.lv hU (hL.trans e2) n2⟩
            rw [hC u b q C v h _ _ e1, if_neg (show ¬ (0 : Int32) ≤ -1 by decide)]
          · have hL := (LX.go z (a + 1)).trans (LX.go (sI z 82 15 (nI (a + 1))) (a + 2))
            obtain ⟨z3, e1, e2, e3⟩ := n6 _ ((hz1 y sb cc W S z h).lx (LX.go _ (a + 2)) ham2)
            refine ⟨z3, ?_, h.lx (hL.trans e2) n2⟩
            rw [hM y sb cc W S z h _ _ e1]
            exact if_pos rfl
        | some n =>
          obtain ⟨hn, hna⟩ := n3 n rfl
          refine Or.inl ⟨1000 * plN c + 100 * s + n, a', by omega, n2, by omega, by omega, h33, h40, fun u b q C v hU h hCl => ?_, fun y sb cc W S z h hb hw => ?_⟩
          · have hL := (LV.go v (a + 1)).trans (LV.go (sI v 63 2 (nI (a + 1))) (a + 2))
            obtain ⟨v3, e1, e2⟩ := n5 _ ((hv1 u b q C v h).lv (LV.go _ (a + 2)) ham2)
            have h3 := h.lv hU (hL.trans e2) n2
            obtain ⟨v4, e3, e4⟩ := h3.add hU hCl (p1 := nI (plN c)) (p2 := nI (60 + s)) (p3 := nI n) (k := 1000 * plN c + 100 * s + n) (by rw [iC_test hpl hs hn]; exact code_dec _ hpl s hs n hn)
            have e : gR v3 63 3 = b := by rw [h3.2.1]; exact hU.1
            refine ⟨v4, ?_, e4⟩
            rw [hC u b q C v h _ _ e1]
            show (if (0 : Int32) ≤ nI n then _ else _) = _
            rw [if_pos (by (simp (disch := omega) only [le_I, lt_I, eq_I, nI_toInt, Int32.reduceToInt, ne_eq] <;> omega)), e, gob_t (by rw [h3.1.1]; exact hU.2.1), obind_of e3]
          · have hL := (LX.go z (a + 1)).trans (LX.go (sI z 82 15 (nI (a + 1))) (a + 2))
            obtain ⟨z3, e1, e2, e3⟩ := n6 _ ((hz1 y sb cc W S z h).lx (LX.go _ (a + 2)) ham2)
            have h3 := h.lx (hL.trans e2) n2
            have ek : (((1000 : Int32) * nI (plN c)) + ((100 : Int32) * (nI (60 + s) - (60 : Int32)))) + (gI z3 82 16) = sg (1000 * plN c + 100 * s + n) := by
              rw [e3 n rfl, show (60 : Int32) = nI 60 from rfl, nI_sub (by omega) (by omega), show (1000 : Int32) = nI 1000 from rfl, show (100 : Int32) = nI 100 from rfl, nI_mul, nI_mul, nI_add, nI_add]
              unfold sg
              rw [if_neg (by omega), if_neg (by omega), if_neg (by omega)]
              congr 1
              omega
            obtain ⟨z4, f1, f2⟩ := emitM h3 (by omega) _ ek
            obtain ⟨z5, f3, f4⟩ := wholeM W (S ++ [1000 * plN c + 100 * s + n]) z4 FUEL f2 (by rw [List.length_append]; simp only [List.length_cons, List.length_nil]; omega) hw (by show _ < 5000; omega)
            refine ⟨z5, ?_, f4⟩
            have f3 : f_X8_whole z4 = some ((), z5) := f3
            rw [hM y sb cc W S z h _ _ e1]
            show (if (1 : Int32) = 0 then _ else _) = _
            rw [if_neg (by decide), obind_of f1, obind_of f3]
      · have hno : ∀ s, s < 3 → ¬ nx T m (a + 1) = nI (60 + s) := fun s hs q => hsg ⟨s, hs, q⟩
        have hno0 : ¬ nx T m (a + 1) = 60 := hno 0 (by decide)
        have hno1 : ¬ nx T m (a + 1) = 61 := hno 1 (by decide)
        have hno2 : ¬ nx T m (a + 1) = 62 := hno 2 (by decide)
        refine Or.inr ⟨a + 1, by omega, ham, fun q => ?_, fun u b q C v hU h => ?_, fun y sb cc W S z h => ?_⟩
        · rcases q with q | q
          · exact absurd q h33
          · exact absurd q h40
        · have hv := h.2.2.1
          refine ⟨sI v 63 2 (nI (a + 1)), ?_, h.lv hU (LV.go v (a + 1)) ham⟩
          unfold f_X3_readTest
          rw [pbind_of (nextC hv), hnx, if_pos hr1, pbind_of (nextC hv), hnx, pbind_of hp2, if_pos hr2, hv.2.2.1, nI_1, pbind_of (nextC (hv1 u b q C v h)), skipC (hv1 u b q C v h), if_neg hno0, obind_some, if_pos (show (0 : Int32) = 0 from rfl), skipC (hv1 u b q C v h), if_neg hno1, obind_some, if_pos (show (0 : Int32) = 0 from rfl), skipC (hv1 u b q C v h), if_neg hno2, obind_some, if_pos (show (0 : Int32) = 0 from rfl)]
        · have hz := h.1.2.1
          refine ⟨sI z 82 15 (nI (a + 1)), ?_, h.lx (LX.go z (a + 1)) ham⟩
          unfold f_X8_takesTest
          rw [pbind_of (nextM hz), hnx, pbind_of hp1, if_pos hr2, hz.2.2.1, nI_1, pbind_of (nextM (hz1 y sb cc W S z h)), pbind_of in_rng]
          have e60 : (60 : Int32).toInt = 60 := rfl
          have e62 : (62 : Int32).toInt = 62 := rfl
          rw [decide_eq_false, if_pos bf]
          intro q
          obtain ⟨k, hk, hke⟩ : ∃ k, k < 63 ∧ nx T m (a + 1) = nI k := nI_in0 (by omega) (by omega)
          rw [hke, nI_toInt (by omega)] at q
          exact hno (k - 60) (by omega) (by rw [hke]; congr 1; omega)
    · rw [if_neg hpl] at hp1 hp2
      refine Or.inr ⟨a, Nat.le_refl _, ha, fun _ => rfl, fun u b q C v hU h => ⟨v, ?_, h⟩, fun y sb cc W S z h => ⟨z, ?_, h⟩⟩
      · have hv := h.2.2.1
        unfold f_X3_readTest
        rw [pbind_of (nextC hv), hnx, if_pos (show (0 : Int32) ≤ nI c by (simp (disch := omega) only [le_I, lt_I, eq_I, nI_toInt, Int32.reduceToInt, ne_eq] <;> omega)), pbind_of (nextC hv), hnx, pbind_of hp2, if_neg (show ¬ (0 : Int32) ≤ -1 by decide)]
      · have hz := h.1.2.1
        unfold f_X8_takesTest
        rw [pbind_of (nextM hz), hnx, pbind_of hp1, if_neg (show ¬ (0 : Int32) ≤ -1 by decide)]
  · refine Or.inr ⟨a, Nat.le_refl _, ha, fun _ => rfl, fun u b q C v hU h => ⟨v, ?_, h⟩, fun y sb cc W S z h => ⟨z, ?_, h⟩⟩
    · have hv := h.2.2.1
      unfold f_X3_readTest
      rw [pbind_of (nextC hv), hnx, if_neg (show ¬ (0 : Int32) ≤ -1 by decide)]
    · have hz := h.1.2.1
      unfold f_X8_takesTest
      rw [pbind_of (nextM hz), hnx, pbind_of (show f_X8_place (-1 : Int32) = some (-1) from rfl), if_neg (show ¬ (0 : Int32) ≤ -1 by decide)]
