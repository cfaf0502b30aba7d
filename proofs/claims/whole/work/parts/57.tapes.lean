/-! TAPES -/
def okL (a b : Option Int64) : Prop := ∃ r, a = some r ∧ b = some r
theorem sub1_I {n : Nat} (hn : n < 2 ^ 31) : (nI n - (1 : Int32)).toInt + 1 = n := by
  cases n with
  | zero => rfl
  | succ k => rw [nI_pred, nI_toInt (by omega)]; omega
theorem isTape_eq {x : Int32} : f_X8_isTape x = some (bI (wn x 6)) := by
  unfold f_X8_isTape
  rw [pbind_of (in_eq (N := 6) rfl)]
  cases wn x 6 <;> rfl
theorem tapeAt_f {x : Int32} {u : Mem} (h : wn x 6 = false) : f_X7_tapeAt x u = some none := by
  unfold f_X7_tapeAt
  rw [pbind_of (isWithin_eq (N := 6) rfl), h]
  exact if_pos bf
theorem tapeAt_t {j : Nat} {u : Mem} (h : j < 6) : f_X7_tapeAt (nI j) u = some (some (70 + 2 * j)) := by
  unfold f_X7_tapeAt
  rw [pbind_of (isWithin_eq (N := 6) rfl), wn_nI h (by omega), if_neg bt, gin_nI h (by decide), nI_clamp (by omega)]
theorem l5_ok : ∀ j, j < 6 → gokb 129 (70 + 2 * j) l5 = true := by decide +kernel
theorem e60 {j i : Nat} : (60 : Int32) * nI j + nI i = nI (60 * j + i) := by rw [show (60 : Int32) = nI 60 from rfl, nI_mul, nI_add]
theorem neg_s {s : Int32} {m : Nat} (h : s = (-1 : Int32) ∧ m = 0 ∨ ∃ k, k < 5 ∧ s = nI k) : (s = -1 ∧ m = 0 ∧ s < 0 ∧ ¬ 0 ≤ s) ∨ (¬ s = -1 ∧ ¬ s < 0 ∧ 0 ≤ s) := by
  rcases h with ⟨rfl, rfl⟩ | ⟨k, hk, rfl⟩
  · exact Or.inl ⟨rfl, rfl, by decide, by decide⟩
  · exact Or.inr ⟨by (simp (disch := omega) only [le_I, lt_I, eq_I, nI_toInt, Int32.reduceToInt, ne_eq] <;> omega), by (simp (disch := omega) only [le_I, lt_I, eq_I, nI_toInt, Int32.reduceToInt, ne_eq] <;> omega), by (simp (disch := omega) only [le_I, lt_I, eq_I, nI_toInt, Int32.reduceToInt, ne_eq] <;> omega)⟩
theorem st_read {u : Mem} (hI : Inv u) (t i : Int32) : okL (f_X7_read t i u) (f_X8_read t i u) := by
  obtain ⟨K, w, B, pgs, -, -, -, -, -, -, h7, -⟩ := hI
  unfold f_X7_read f_X8_read
  rw [pbind_of isTape_eq]
  cases ht : wn t 6
  · rw [pbind_of (tapeAt_f ht)]
    exact ⟨_, rfl, if_pos bf⟩
  · obtain ⟨j, hj, rfl⟩ := wn_of ht
    obtain ⟨s, m, hs, hm, t1, t2, t3, t4, t5⟩ := h7 j hj
    rw [pbind_of (tapeAt_t hj), if_neg bt]
    show okL (gob 129 (70 + 2 * j) l5 _) _
    simp only [gin_nI hj (show 6 ≤ 2147483648 by decide), nI_clamp (show j < 2 ^ 31 by omega)]
    rw [gob_t (l5_ok j hj), t2, t3, t4, pbind_of (isWithin_eq (nI_toInt (by omega)))]
    rcases neg_s hs with ⟨q1, q2, q3, q4⟩ | ⟨q1, q3, q4⟩
    · rw [if_pos q3, q2]
      have : wn i 0 = false := by
        unfold wn
        rw [decide_eq_false_iff_not]
        omega
      rw [this]
      exact ⟨_, if_pos bf, rfl⟩
    · rw [if_neg q3, pbind_of (in_eq (sub1_I (by omega)))]
      cases hi : wn i m
      · exact ⟨_, if_pos bf, if_pos bf⟩
      · obtain ⟨k, hk, rfl⟩ := wn_of hi
        rw [if_neg bt, if_neg bt, e60, gin_nI (show k < 60 by omega) (by decide), gin_nI (show 60 * j + k < 360 by omega) (by decide), nI_clamp (by omega), nI_clamp (by omega), show 70 + 2 * j + 1 = 71 + 2 * j by omega, t5 k (by omega)]
        exact ⟨_, rfl, rfl⟩
theorem narrow_eq {u : Mem} {b : Nat} {s : Int32} {x : Int64} (h : gI u b 1 = s) : ∃ r, f_X5_lowestBits b x u = some r ∧ f_X8_narrow s x = some r := by
  unfold f_X5_lowestBits f_X8_narrow
  rw [h]
  have hsome : ∀ o : Option Int64, (∃ r, o = some r) → ∃ r, o = some r ∧ o = some r := fun o ⟨r, hr⟩ => ⟨r, hr, hr⟩
  refine hsome _ ?_
  repeat' split
  all_goals exact ⟨_, rfl⟩
theorem item_TAP {u : Mem} {j i : Nat} {x : Int64} (hj : j < 6) (hi : i < 60) (h : TAP u) : TAP (sL (sL u (71 + 2 * j) i x) 127 (60 * j + i) x) := by
  intro q hq
  obtain ⟨s, m, hs, hm, t1, t2, t3, t4, t5⟩ := h q hq
  refine ⟨s, m, hs, hm, t1, t2, t3, t4, fun k hk => ?_⟩
  rw [gL_sL, gL_sL, gL_sL, gL_sL, t5 k hk]
  rw [if_neg (show ¬ (71 + 2 * q = 127 ∧ k = 60 * j + i) by omega), if_neg (show ¬ (127 = 71 + 2 * j ∧ 60 * q + k = i) by omega)]
  by_cases e : q = j ∧ k = i
  · obtain ⟨rfl, rfl⟩ := e
    rw [if_pos ⟨rfl, rfl⟩, if_pos ⟨rfl, rfl⟩]
  · rw [if_neg (by omega), if_neg (by omega)]
theorem st_item {u : Mem} (hI : Inv u) (t i : Int32) (x : Int64) : okS u (f_X7_item t i x u) (f_X8_item t i x) := by
  have hI0 := hI
  obtain ⟨K, w, B, pgs, hA⟩ := hI
  have h7 := hA.2.2.2.2.2.2.1
  unfold f_X7_item
  cases ht : wn t 6
  · rw [pbind_of (tapeAt_f ht)]
    exact ⟨_, _, _, rfl, (by unfold f_X8_item; rw [pbind_of isTape_eq, ht]; exact if_pos bf), hI0⟩
  · obtain ⟨j, hj, rfl⟩ := wn_of ht
    obtain ⟨s, m, hs, hm, t1, t2, t3, t4, t5⟩ := h7 j hj
    rw [pbind_of (tapeAt_t hj)]
    show okS u (gob 129 (70 + 2 * j) l5 _) _
    rw [gob_t (l5_ok j hj), t1, t3]
    rcases neg_s hs with ⟨q1, q2, q3, q4⟩ | ⟨q1, q3, q4⟩
    · rw [if_pos q1]
      exact ⟨_, _, _, rfl, (by unfold f_X8_item; rw [pbind_of isTape_eq, ht, if_neg bt, gin_nI hj (by decide), nI_clamp (by omega), t2, if_neg q4]), hI0⟩
    · rw [if_neg q1, pbind_of (isWithin_eq (nI_toInt (by omega)))]
      cases hi : wn i m
      · exact ⟨_, _, _, if_pos bf, (by unfold f_X8_item; rw [pbind_of isTape_eq, ht, if_neg bt, gin_nI hj (by decide), nI_clamp (by omega), t2, if_pos q4, gin_nI hj (by decide), t4, pbind_of (in_eq (sub1_I (by omega))), hi]; exact if_pos bf), hI0⟩
      · obtain ⟨k, hk, rfl⟩ := wn_of hi
        obtain ⟨r, n1, n2⟩ := narrow_eq (x := x) t1
        rw [if_neg bt, pbind_of n1, gin_nI (show k < 60 by omega) (by decide), nI_clamp (by omega), show 70 + 2 * j + 1 = 71 + 2 * j by omega]
        have hI2 : Inv (sL (sL u (71 + 2 * j) k r) 127 (60 * j + k) r) := ⟨K, w, B, pgs, hA.tape (((Agr.rf _ _ _).sl (by unfold SP; omega)).sl (by unfold SP; omega)) (item_TAP hj (by omega) h7)⟩
        refine ⟨_, _, _, rfl, ?_, hI2⟩
        unfold f_X8_item
        simp only [gA_sL]
        rw [pbind_of isTape_eq, ht, if_neg bt, gin_nI hj (by decide), nI_clamp (by omega), t2, if_pos q4, gin_nI hj (by decide), t4, pbind_of (in_eq (sub1_I (by omega))), hi, if_neg bt, gin_nI hj (by decide), pbind_of n2, e60, gin_nI (show 60 * j + k < 360 by omega) (by decide), nI_clamp (by omega)]
