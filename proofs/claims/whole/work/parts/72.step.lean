/-! THE REFERENCE'S STEPS over an E -/
theorem whl_len : ∀ (W S : List Nat), (whl W S).1.length + (whl W S).2.length = W.length + S.length
  | [], S => rfl
  | x :: r, S => by
    unfold whl
    by_cases q : x = 33
    · rw [if_pos q, whl_len r (S ++ [10003]), List.length_append]
      simp only [List.length_cons, List.length_nil]
      omega
    · rw [if_neg q]
theorem stl_len (s : Nat) : ∀ (W S : List Nat), (stl s W S).1.length + (stl s W S).2.length = W.length + S.length
  | [], S => rfl
  | x :: r, S => by
    unfold stl
    by_cases q : x = 38
    · rw [if_pos q, stl_len s r (S ++ [10001]), List.length_append]
      simp only [List.length_cons, List.length_nil]
      omega
    · rw [if_neg q]
      by_cases q2 : x = 124
      · rw [if_pos q2]
        by_cases q3 : s = 38
        · rw [if_pos q3]
        · rw [if_neg q3, stl_len s r (S ++ [10002]), List.length_append]
          simp only [List.length_cons, List.length_nil]
          omega
      · rw [if_neg q2]
theorem stl_le (s : Nat) : ∀ (W S : List Nat), (stl s W S).1.length ≤ W.length
  | [], S => Nat.le_refl _
  | x :: r, S => by
    have ih := fun S => stl_le s r S
    unfold stl
    by_cases q : x = 38
    · rw [if_pos q]
      exact Nat.le_trans (ih _) (Nat.le_succ _)
    · rw [if_neg q]
      by_cases q2 : x = 124
      · rw [if_pos q2]
        by_cases q3 : s = 38
        · rw [if_pos q3]; exact Nat.le_refl _
        · rw [if_neg q3]
          exact Nat.le_trans (ih _) (Nat.le_succ _)
      · rw [if_neg q2]; exact Nat.le_refl _
theorem pushM {y z : Mem} {T : Nat → Nat} {m sb c a x : Nat} {W S : List Nat} (h : MX y T m sb c a z) (h25 : gI z 82 25 = nI (sb + S.length)) (h27 : gI z 82 27 = nI (opn (x :: W))) (h96 : ∀ i, i < S.length → gA z 96 (sb + i) = sg (S.getD i 0)) (h97 : WST (gA z 97) W) (hx : x < 128) (ha : a + 1 ≤ m) : MB y T m sb c (a + 1) (x :: W) S (sI (sI (sA z 97 W.length (nI x)) 82 26 (nI (W.length + 1))) 82 15 (nI (a + 1))) := by
  obtain ⟨h1, ⟨t1, t2, t3, t4, t5⟩, h4, h5⟩ := h
  refine ⟨⟨((h1.sa (by unfold SE; omega)).si (fun q => q.1 rfl) (Or.inr (by unfold FE; omega))).si (fun q => q.1 rfl) (Or.inr (by unfold FE; omega)), ⟨t1, ?_, gI_sI_s _ _ _ _, ha, t5⟩, h4, h5⟩, ?_, ?_, ?_, h96, ?_, hx, ?_⟩
  · rw [gI_sI_k (by decide), gI_sI_k (by decide)]; exact t2
  · rw [gI_sI_k (by decide), gI_sI_k (by decide)]; exact h25
  · rw [gI_sI_k (by decide), gI_sI_s]; rfl
  · rw [gI_sI_k (by decide), gI_sI_k (by decide)]; exact h27
  · rw [gA_sI, gA_sI, gA_sA_s, upd_s]
  · rw [gA_sI, gA_sI, gA_sA_s]; exact WST_upd (Nat.le_refl _) h97
def Eb (c : Nat) : Int32 × Mem → Option ((Int32 × Mem) ⊕ (Int32 × Mem)) := fun s => f_X8_takesE_L22 (nI c) s.1 s.2
theorem stepOp {y z : Mem} {T : Nat → Nat} {m sb c a s : Nat} {W S : List Nat} (hs : s = 38 ∨ s = 124) (h : MB y T m sb c a W S z) (hx : nx T m a = nI s) (hb : sb + S.length + W.length ≤ 600) (hw : W.length ≤ 100) : ∃ z2, Eb c (0, z) = some (.inl (1, z2)) ∧ MB y T m sb c (a + 1) (s :: (stl s W S).1) (stl s W S).2 z2 := by
  have ham := nx_nn hx (by omega)
  have hlen := stl_len s W S
  obtain ⟨z1, e1, e2⟩ := settleM hs W S z FUEL h hb (by omega) (by show _ < 5000; omega)
  have e1 : f_X8_settle (nI s) z = some ((), z1) := e1
  have hW2 : (stl s W S).1.length < 101 := by
    have := stl_le s W S
    omega
  have hp := pushM (x := s) e2.1 e2.2.1 (by
    rw [e2.2.2.2.1]
    show _ = nI ((if s = 33 ∨ s = 40 then 1 else 0) + opn (stl s W S).1)
    rw [if_neg (by omega), Nat.zero_add]) e2.2.2.2.2.1 e2.2.2.2.2.2 (by omega) ham
  refine ⟨_, ?_, hp⟩
  have h15 : gI z1 82 15 = nI a := e2.1.2.1.2.2.1
  unfold Eb f_X8_takesE_L22
  rw [pbind_of (nextM h.1.2.1), hx, if_pos (show (0 : Int32) = 0 from rfl)]
  rcases hs with rfl | rfl
  · rw [if_pos (show nI 38 = 38 from rfl), obind_of e1, gI_sA, e2.2.2.1, gin_nI hW2 (by decide), nI_clamp (by omega), nI_1, gI_sI_k (by decide), gI_sA, h15, nI_1]
  · rw [if_neg (show ¬ nI 124 = 38 by decide), if_pos (show nI 124 = 124 from rfl), obind_of e1, gI_sA, e2.2.2.1, gin_nI hW2 (by decide), nI_clamp (by omega), nI_1, gI_sI_k (by decide), gI_sA, h15, nI_1]
theorem stepOpen {y z : Mem} {T : Nat → Nat} {m sb c a s : Nat} {W S : List Nat} (hs : s = 33 ∨ s = 40) (h : MB y T m sb c a W S z) (hx : nx T m a = nI s) (ho : opn W < 4) (hw : W.length ≤ 100) : ∃ z2, Eb c (1, z) = some (.inl (1, z2)) ∧ MB y T m sb c (a + 1) (s :: W) S z2 := by
  have ham := nx_nn hx (by omega)
  have h26 := h.2.2.1
  have h27 := h.2.2.2.1
  have hp := pushM (x := s) (z := sI z 82 27 (nI (opn W + 1))) (h.1.si (by decide)) ((gI_sI_k (by decide) 82).trans h.2.1) (by
    rw [gI_sI_s]
    show _ = nI ((if s = 33 ∨ s = 40 then 1 else 0) + opn W)
    rw [if_pos hs, Nat.add_comm]) h.2.2.2.2.1 h.2.2.2.2.2 (by omega) ham
  refine ⟨_, ?_, hp⟩
  have h15 : gI z 82 15 = nI a := h.1.2.1.2.2.1
  unfold Eb f_X8_takesE_L22
  rw [pbind_of (nextM h.1.2.1), hx, if_neg (show ¬ (1 : Int32) = 0 by decide)]
  rcases hs with rfl | rfl
  · rw [if_pos (show nI 33 = 33 from rfl), h27, if_neg (by (simp (disch := omega) only [le_I, lt_I, eq_I, nI_toInt, Int32.reduceToInt, ne_eq] <;> omega)), nI_1, gI_sA, gI_sI_k (show 26 ≠ 27 by decide), h26, gin_nI (show W.length < 101 by omega) (by decide), nI_clamp (by omega), nI_1, gI_sI_k (show 15 ≠ 26 by decide), gI_sA, gI_sI_k (show 15 ≠ 27 by decide), h15, nI_1]
  · rw [if_neg (show ¬ nI 40 = 33 by decide), if_pos (show nI 40 = 40 from rfl), h27, if_neg (by (simp (disch := omega) only [le_I, lt_I, eq_I, nI_toInt, Int32.reduceToInt, ne_eq] <;> omega)), nI_1, gI_sA, gI_sI_k (show 26 ≠ 27 by decide), h26, gin_nI (show W.length < 101 by omega) (by decide), nI_clamp (by omega), nI_1, gI_sI_k (show 15 ≠ 26 by decide), gI_sA, gI_sI_k (show 15 ≠ 27 by decide), h15, nI_1]
theorem stepOpenF {y z : Mem} {T : Nat → Nat} {m sb c a : Nat} {W S : List Nat} (h : MB y T m sb c a W S z) (hx : nx T m a = 33 ∨ nx T m a = 40) (ho : opn W = 4) : Eb c (1, z) = some (.inr (0, z)) := by
  have h27 := h.2.2.2.1
  rw [ho] at h27
  unfold Eb f_X8_takesE_L22
  rw [pbind_of (nextM h.1.2.1), if_neg (show ¬ (1 : Int32) = 0 by decide)]
  rcases hx with hx | hx
  · rw [hx, if_pos rfl, h27, if_pos (show nI 4 = 4 from rfl)]
  · rw [hx, if_neg (by decide), if_pos rfl, h27, if_pos (show nI 4 = 4 from rfl)]
theorem stepTest {y z z' : Mem} {T : Nat → Nat} {m sb c a : Nat} {W S : List Nat} {b : Bool} (h : MB y T m sb c a W S z) (h1 : nx T m a ≠ 33) (h2 : nx T m a ≠ 40) (ht : f_X8_takesTest z = some (bI b, z')) : Eb c (1, z) = if b = true then some (.inl (0, z')) else some (.inr (0, z')) := by
  unfold Eb f_X8_takesE_L22
  rw [pbind_of (nextM h.1.2.1), if_neg (show ¬ (1 : Int32) = 0 by decide), if_neg h1, if_neg h2, obind_of ht]
  cases b
  · rfl
  · rfl
/-- no sign that goes on: what waits is settled -/
theorem stepEnd {y z : Mem} {T : Nat → Nat} {m sb c a : Nat} {W S W2 S2 : List Nat} (hc : c < 60) (h : MB y T m sb c a W S z) (h1 : nx T m a ≠ 38) (h2 : nx T m a ≠ 124) (hst : stl 124 W S = (W2, S2)) (hb : sb + S.length + W.length ≤ 600) (hw : W.length ≤ 100) :
    ∃ z2, MB y T m sb c a W2 S2 z2 ∧ gA z2 95 c = nI (sb + S2.length) ∧ (W2 = [] → Eb c (0, z) = some (.inr (1, z2))) ∧ (W2 ≠ [] → nx T m a ≠ 41 → Eb c (0, z) = some (.inr (0, z2))) ∧
      (∀ r, W2 = 40 :: r → nx T m a = 41 → ∃ z3, Eb c (0, z) = some (.inl (0, z3)) ∧ MB y T m sb c (a + 1) (whl r S2).1 (whl r S2).2 z3) := by
  have hlen := stl_len 124 W S
  rw [hst] at hlen
  have hlen : W2.length + S2.length = W.length + S.length := hlen
  have hle := stl_le 124 W S
  rw [hst] at hle
  have hle : W2.length ≤ W.length := hle
  obtain ⟨z1, e1, e2⟩ := settleM (s := 124) (Or.inr rfl) W S z FUEL h hb (by omega) (by show _ < 5000; omega)
  have e1 : f_X8_settle (124 : Int32) z = some ((), z1) := e1
  rw [hst] at e2
  have e2 : MB y T m sb c a W2 S2 z1 := e2
  have hz2 : MB y T m sb c a W2 S2 (sA z1 95 c (nI (sb + S2.length))) := by
    obtain ⟨⟨g1, ⟨t1, t2⟩, g3, g4⟩, g5, g6, g7, g8, g9⟩ := e2
    refine ⟨⟨g1.sa (by unfold SE; omega), ⟨t1, t2⟩, fun x hx => ?_, g4⟩, g5, g6, g7, g8, g9⟩
    rw [gA_sA_s, upd_n hx]
    exact g3 x hx
  have hE : Eb c (0, z) = if W2.length = 0 then some (.inr (1, sA z1 95 c (nI (sb + S2.length)))) else if nx T m a = 41 then obind (f_X8_whole (sI (sI (sI (sA z1 95 c (nI (sb + S2.length))) 82 26 (nI W2.length - 1)) 82 27 (nI (opn W2) - 1)) 82 15 (nI (a + 1)))) (fun _ u13 => some (.inl (0, u13))) else some (.inr (0, sA z1 95 c (nI (sb + S2.length)))) := by
    unfold Eb f_X8_takesE_L22
    rw [pbind_of (nextM h.1.2.1), if_pos (show (0 : Int32) = 0 from rfl), if_neg h1, if_neg h2, obind_of e1, gin_nI hc (by decide), nI_clamp (by omega)]
    simp (disch := decide) only [gI_sI_k, gI_sA]
    rw [e2.2.1, e2.2.2.1, e2.2.2.2.1, e2.1.2.1.2.2.1, nI_1]
    by_cases q : W2.length = 0
    · rw [if_pos q, if_pos (by rw [q]; rfl)]
    · rw [if_neg q, if_neg (by (simp (disch := omega) only [le_I, lt_I, eq_I, nI_toInt, Int32.reduceToInt, ne_eq] <;> omega))]
  refine ⟨_, hz2, by rw [gA_sA_s, upd_s], fun q => ?_, fun q q2 => ?_, fun r q q2 => ?_⟩
  · rw [hE, if_pos (by rw [q]; rfl)]
  · rw [hE, if_neg (by intro z; exact q (List.length_eq_zero_iff.mp z)), if_neg q2]
  · subst q
    have ham := nx_nn (c := 41) q2 (by omega)
    have hz3 : MB y T m sb c (a + 1) r S2 (sI (sI (sI (sA z1 95 c (nI (sb + S2.length))) 82 26 (nI r.length)) 82 27 (nI (opn r))) 82 15 (nI (a + 1))) := by
      obtain ⟨g1, g5, g6, g7, g8, g9⟩ := hz2
      refine ⟨((g1.si (k := 26) (by decide)).si (k := 27) (by decide)).lx (LX.go _ (a + 1)) ham, ?_, ?_, ?_, g8, g9.2.2⟩
      · rw [gI_sI_k (by decide), gI_sI_k (by decide), gI_sI_k (by decide)]; exact g5
      · rw [gI_sI_k (by decide), gI_sI_k (by decide), gI_sI_s]
      · rw [gI_sI_k (by decide), gI_sI_s]
    rw [List.length_cons] at hlen hle
    obtain ⟨z3, e3, e4⟩ := wholeM r S2 _ FUEL hz3 (by omega) (by omega) (by show _ < 5000; omega)
    have e3 : f_X8_whole _ = some ((), z3) := e3
    refine ⟨z3, ?_, e4⟩
    have eo : nI (opn (40 :: r)) - (1 : Int32) = nI (opn r) := by
      show nI (1 + opn r) - 1 = _
      rw [Nat.add_comm, nI_pred]
    rw [hE, if_neg (by simp), if_pos q2, eo, List.length_cons, nI_pred, obind_of e3]
