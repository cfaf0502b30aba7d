/-! TAPES -/
def okL (a b : Option Int64) : Prop := ∃ r, a = some r ∧ b = some r
theorem sub1_I {n : Nat} (hn : n < 2 ^ 31) : (nI n - (1 : Int32)).toInt + 1 = n := by
  cases n with
  | zero => rfl
  | succ k => rw [nI_pred, nI_toInt (by omega)]; omega
theorem isTape_eq {x : Int32} : f_X8_isTape x = some (bI (wn x 6)) := by
  unfold f_X8_isTape
  rw [pbind_of (in_eq (N := 6) rfl)]
  cases wn x 6 <;> rfl
theorem tapeAt_f {x : Int32} {u : Mem} (h : wn x 6 = false) : f_X7_tapeAt x u = some none := by
  unfold f_X7_tapeAt
  rw [pbind_of (isWithin_eq (N := 6) rfl), h]
  exact if_pos bf
theorem tapeAt_t {j : Nat} {u : Mem} (h : j < 6) : f_X7_tapeAt (nI j) u = some (some (70 + 2 * j)) := by
  unfold f_X7_tapeAt
  rw [pbind_of (isWithin_eq (N := 6) rfl), wn_nI h (by omega), if_neg bt, gin_nI h (by decide), nI_clamp (by omega)]
theorem l5_ok : ∀ j, j < 6 → gokb 129 (70 + 2 * j) l5 = true := by decide +kernel
theorem e60 {j i : Nat} : (60 : Int32) * nI j + nI i = nI (60 * j + i) := by rw [show (60 : Int32) = nI 60 from rfl, nI_mul, nI_add]
theorem neg_s {s : Int32} {m : Nat} (h : s = (-1 : Int32) ∧ m = 0 ∨ ∃ k, k < 5 ∧ s = nI k) : (s = -1 ∧ m = 0 ∧ s < 0 ∧ ¬ 0 ≤ s) ∨ (¬ s = -1 ∧ ¬ s < 0 ∧ 0 ≤ s) := by
  rcases h with ⟨rfl, rfl⟩ | ⟨k, hk, rfl⟩
  · exact Or.inl ⟨rfl, rfl, by decide, by decide⟩
  · exact Or.inr ⟨by (simp (disch := omega) only [le_I, lt_I, eq_I, nI_toInt, Int32.reduceToInt, ne_eq] <;> omega), by (simp (disch := omega) only [le_I, lt_I, eq_I, nI_toInt, Int32.reduceToInt, ne_eq] <;> omega), by (simp (disch := omega) only [le_I, lt_I, eq_I, nI_toInt, Int32.reduceToInt, ne_eq] <;> omega)⟩
theorem st_read {u : Mem} (hI : Inv u) (t i : Int32) : okL (f_X7_read t i u) (f_X8_read t i u) := by
  obtain ⟨K, w, B, pgs, -, -, -, -, -, -, h7, -⟩ := hI
  unfold f_X7_read f_X8_read
  rw [pbind_of isTape_eq]
  cases ht : wn t 6
  · rw [pbind_of (tapeAt_f ht)]
    exact ⟨_, rfl, if_pos bf⟩
  · obtain ⟨j, hj, rfl⟩ := wn_of ht
    obtain ⟨s, m, hs, hm, t1, t2, t3, t4, t5⟩ := h7 j hj
    rw [pbind_of (tapeAt_t hj), if_neg bt]
    show okL (gob 129 (70 + 2 * j) l5 _) _
    simp only [gin_nI hj (show 6 ≤ 2147483648 by decide), nI_clamp (show j < 2 ^ 31 by omega)]
    rw [gob_t (l5_ok j hj), t2, t3, t4, pbind_of (isWithin_eq (nI_toInt (by omega)))]
    rcases neg_s hs with ⟨q1, q2, q3, q4⟩ | ⟨q1, q3, q4⟩
    · rw [if_pos q3, q2]
      have : wn i 0 = false := by
        unfold wn
        rw [decide_eq_false_iff_not]
        omega
      rw [this]
      exact ⟨_, if_pos bf, rfl⟩
    · rw [if_neg q3, pbind_of (in_eq (sub1_I (by omega)))]
      cases hi : wn i m
      · exact ⟨_, if_pos bf, if_pos bf⟩
      · obtain ⟨k, hk, rfl⟩ := wn_of hi
        rw [if_neg bt, if_neg bt, e60, gin_nI (show k < 60 by omega) (by decide), gin_nI (show 60 * j + k < 360 by omega) (by decide), nI_clamp (by omega), nI_clamp (by omega), show 70 + 2 * j + 1 = 71 + 2 * j by omega, t5 k (by omega)]
        exact ⟨_, rfl, rfl⟩
theorem narrow_eq {u : Mem} {b : Nat} {s : Int32} {x : Int64} (h : gI u b 1 = s) : ∃ r, f_X5_lowestBits b x u = some r ∧ f_X8_narrow s x = some r := by
  unfold f_X5_lowestBits f_X8_narrow
  rw [h]
  have hsome : ∀ o : Option Int64, (∃ r, o = some r) → ∃ r, o = some r ∧ o = some r := fun o ⟨r, hr⟩ => ⟨r, hr, hr⟩
  refine hsome _ ?_
  repeat' split
  all_goals exact ⟨_, rfl⟩
theorem item_TAP {u : Mem} {j i : Nat} {x : Int64} (hj : j < 6) (hi : i < 60) (h : TAP u) : TAP (sL (sL u (71 + 2 * j) i x) 127 (60 * j + i) x) := by
  intro q hq
  obtain ⟨s, m, hs, hm, t1, t2, t3, t4, t5⟩ := h q hq
  refine ⟨s, m, hs, hm, t1, t2, t3, t4, fun k hk => ?_⟩
  rw [gL_sL, gL_sL, gL_sL, gL_sL, t5 k hk]
  rw [if_neg (show ¬ (71 + 2 * q = 127 ∧ k = 60 * j + i) by omega), if_neg (show ¬ (127 = 71 + 2 * j ∧ 60 * q + k = i) by omega)]
  by_cases e : q = j ∧ k = i
  · obtain ⟨rfl, rfl⟩ := e
    rw [if_pos ⟨rfl, rfl⟩, if_pos ⟨rfl, rfl⟩]
  · rw [if_neg (by omega), if_neg (by omega)]
theorem st_item {u : Mem} (hI : Inv u) (t i : Int32) (x : Int64) : okS u (f_X7_item t i x u) (f_X8_item t i x) := by
  have hI0 := hI
  obtain ⟨K, w, B, pgs, hA⟩ := hI
  have h7 := hA.2.2.2.2.2.2.1
  unfold f_X7_item
  cases ht : wn t 6
  · rw [pbind_of (tapeAt_f ht)]
    exact ⟨_, _, _, rfl, (by unfold f_X8_item; rw [pbind_of isTape_eq, ht]; exact if_pos bf), hI0⟩
  · obtain ⟨j, hj, rfl⟩ := wn_of ht
    obtain ⟨s, m, hs, hm, t1, t2, t3, t4, t5⟩ := h7 j hj
    rw [pbind_of (tapeAt_t hj)]
    show okS u (gob 129 (70 + 2 * j) l5 _) _
    rw [gob_t (l5_ok j hj), t1, t3]
    rcases neg_s hs with ⟨q1, q2, q3, q4⟩ | ⟨q1, q3, q4⟩
    · rw [if_pos q1]
      exact ⟨_, _, _, rfl, (by unfold f_X8_item; rw [pbind_of isTape_eq, ht, if_neg bt, gin_nI hj (by decide), nI_clamp (by omega), t2, if_neg q4]), hI0⟩
    · rw [if_neg q1, pbind_of (isWithin_eq (nI_toInt (by omega)))]
      cases hi : wn i m
      · exact ⟨_, _, _, if_pos bf, (by unfold f_X8_item; rw [pbind_of isTape_eq, ht, if_neg bt, gin_nI hj (by decide), nI_clamp (by omega), t2, if_pos q4, gin_nI hj (by decide), t4, pbind_of (in_eq (sub1_I (by omega))), hi]; exact if_pos bf), hI0⟩
      · obtain ⟨k, hk, rfl⟩ := wn_of hi
        obtain ⟨r, n1, n2⟩ := narrow_eq (x := x) t1
        rw [if_neg bt, pbind_of n1, gin_nI (show k < 60 by omega) (by decide), nI_clamp (by omega), show 70 + 2 * j + 1 = 71 + 2 * j by omega]
        have hI2 : Inv (sL (sL u (71 + 2 * j) k r) 127 (60 * j + k) r) := ⟨K, w, B, pgs, hA.tape (((Agr.rf _ _ _).sl (by unfold SP; omega)).sl (by unfold SP; omega)) (item_TAP hj (by omega) h7)⟩
        refine ⟨_, _, _, rfl, ?_, hI2⟩
        unfold f_X8_item
        rw [pbind_of isTape_eq, ht, if_neg bt, gin_nI hj (by decide), nI_clamp (by omega), show gA (sL u (71 + 2 * j) k r) 125 j = s from t2, if_pos q4, gin_nI hj (by decide), show gA (sL u (71 + 2 * j) k r) 126 j = nI m from t4, pbind_of (in_eq (sub1_I (by omega))), hi, if_neg bt, gin_nI hj (by decide), pbind_of n2, e60, gin_nI (show 60 * j + k < 360 by omega) (by decide), nI_clamp (by omega)]

/-! tape: an empty one -/
theorem sL_sLr (u : Mem) (a i : Nat) (x : Int64) (g : Nat → Int64) : sL (sLr u a g) a i x = sLr u a (vp_updL g i x) := by
  unfold sL
  rw [gL_sLr, if_pos rfl]
  unfold sLr
  congr 4
  exact up1_twice
theorem sLr_self (u : Mem) (a : Nat) : sLr u a (gL u a) = u := by
  unfold sLr gL
  congr 4
  funext x
  unfold up1
  by_cases h : x = a <;> simp [h]
theorem becomeC {u : Mem} {t m : Nat} {s : Int32} (hm : m ≤ 60) : ∃ f, f_X5_become t s (nI m) u = some (1, sLr (sI (sI u t 1 s) t 2 (nI m)) (t + 1) f) ∧ ∀ i, i < 60 → f i = 0 := by
  have hx : imax (0 : Int32) (imin (nI m) (60 : Int32)) = nI m := by
    have h1 : imin (nI m) (60 : Int32) = nI m := by
      unfold imin
      rw [if_neg (by (simp (disch := omega) only [le_I, lt_I, eq_I, nI_toInt, Int32.reduceToInt, ne_eq] <;> omega))]
    rw [h1]
    unfold imax
    by_cases q : (0 : Int32) < nI m
    · rw [if_pos q]
    · rw [if_neg q]
      have : m = 0 := by (simp (disch := omega) only [le_I, lt_I, eq_I, nI_toInt, Int32.reduceToInt, ne_eq] at * <;> omega)
      rw [this]; rfl
  unfold f_X5_become
  rw [hx]
  generalize sI (sI u t 1 s) t 2 (nI m) = v
  have h := while_F (body := fun s : Int32 × Mem => f_X5_become_L21 t s.1 s.2) 60 (fun i s => ∃ f, s = (nI i, sLr v (t + 1) f) ∧ ∀ k, k < i → f k = 0) (fun r => ∃ f, r = ((1 : Int32), sLr v (t + 1) f) ∧ ∀ k, k < 60 → f k = 0) (s := ((0 : Int32), v)) (by decide) ⟨gL v (t + 1), by rw [sLr_self]; rfl, fun k hk => absurd hk (Nat.not_lt_zero k)⟩ ?_ ?_
  · obtain ⟨r, h1, f, rfl, h2⟩ := h
    exact ⟨f, h1, h2⟩
  · rintro i s hi ⟨f, rfl, hf⟩
    refine Or.inl ?_
    show ∃ s', f_X5_become_L21 t (nI i) (sLr v (t + 1) f) = some (Sum.inl s') ∧ _
    unfold f_X5_become_L21
    rw [if_neg (by (simp (disch := omega) only [le_I, lt_I, eq_I, nI_toInt, Int32.reduceToInt, ne_eq] <;> omega)), gin_nI hi (by decide), nI_clamp (by omega), sL_sLr, nI_1]
    refine ⟨_, rfl, _, rfl, fun k hk => ?_⟩
    show (if k = i then 0 else f k) = 0
    by_cases e : k = i
    · rw [if_pos e]
    · rw [if_neg e]; exact hf k (by omega)
  · rintro s ⟨f, rfl, hf⟩
    refine ⟨_, ?_, f, rfl, hf⟩
    show f_X5_become_L21 t (nI 60) (sLr v (t + 1) f) = _
    unfold f_X5_become_L21
    rw [if_pos (by (simp (disch := omega) only [le_I, lt_I, eq_I, nI_toInt, Int32.reduceToInt, ne_eq] <;> omega))]
theorem zeroM {v : Mem} {j : Nat} (hj : j < 6) (body : Int32 → Mem → Option ((Int32 × Mem) ⊕ (Int32 × Mem))) (hb : ∀ x u, body x u = if (60 : Int32) ≤ x then some (Sum.inr ((1 : Int32), u)) else gin (((60 : Int32) * nI j) + x) 360 (some (Sum.inl (x + (1 : Int32), sL u 127 (((60 : Int32) * nI j) + x).toNatClampNeg (0 : Int64))))) :
    ∃ f, whileO (fun s => body s.1 s.2) FUEL ((0 : Int32), v) = some (1, sLr v 127 f) ∧ (∀ i, i < 60 → f (60 * j + i) = 0) ∧ ∀ x, (x < 60 * j ∨ 60 * j + 60 ≤ x) → f x = gL v 127 x := by
  have h := while_F (body := fun s : Int32 × Mem => body s.1 s.2) 60 (fun i s => ∃ f, s = (nI i, sLr v 127 f) ∧ (∀ k, k < i → f (60 * j + k) = 0) ∧ ∀ x, (x < 60 * j ∨ 60 * j + 60 ≤ x) → f x = gL v 127 x) (fun r => ∃ f, r = ((1 : Int32), sLr v 127 f) ∧ (∀ k, k < 60 → f (60 * j + k) = 0) ∧ ∀ x, (x < 60 * j ∨ 60 * j + 60 ≤ x) → f x = gL v 127 x) (s := ((0 : Int32), v)) (by decide) ⟨gL v 127, by rw [sLr_self]; rfl, fun k hk => absurd hk (Nat.not_lt_zero k), fun _ _ => rfl⟩ ?_ ?_
  · obtain ⟨r, h1, f, rfl, h2⟩ := h
    exact ⟨f, h1, h2⟩
  · rintro i s hi ⟨f, rfl, hf, hf2⟩
    refine Or.inl ?_
    show ∃ s', body (nI i) (sLr v 127 f) = some (Sum.inl s') ∧ _
    rw [hb, if_neg (by (simp (disch := omega) only [le_I, lt_I, eq_I, nI_toInt, Int32.reduceToInt, ne_eq] <;> omega)), e60, gin_nI (show 60 * j + i < 360 by omega) (by decide), nI_clamp (by omega), sL_sLr, nI_1]
    refine ⟨_, rfl, _, rfl, fun k hk => ?_, fun x hx => ?_⟩
    · show (if 60 * j + k = 60 * j + i then 0 else f (60 * j + k)) = 0
      by_cases e : k = i
      · rw [if_pos (by omega)]
      · rw [if_neg (by omega)]; exact hf k (by omega)
    · show (if x = 60 * j + i then 0 else f x) = _
      rw [if_neg (by omega)]
      exact hf2 x hx
  · rintro s ⟨f, rfl, hf⟩
    refine ⟨_, ?_, f, rfl, hf⟩
    show body (nI 60) (sLr v 127 f) = _
    rw [hb, if_pos (by (simp (disch := omega) only [le_I, lt_I, eq_I, nI_toInt, Int32.reduceToInt, ne_eq] <;> omega))]
theorem tape_TAP {u : Mem} {j m : Nat} {s : Int32} {f g : Nat → Int64} (hj : j < 6) (hm : m ≤ 60) (hs : s = (-1 : Int32) ∧ m = 0 ∨ ∃ k, k < 5 ∧ s = nI k) (hf : ∀ i, i < 60 → f i = 0) (hg : ∀ i, i < 60 → g (60 * j + i) = 0) (hg2 : ∀ x, (x < 60 * j ∨ 60 * j + 60 ≤ x) → g x = gL u 127 x) (h : TAP u) :
    TAP (sLr (sA (sA (sLr (sI (sI u (70 + 2 * j) 1 s) (70 + 2 * j) 2 (nI m)) (70 + 2 * j + 1) f) 125 j s) 126 j (nI m)) 127 g) := by
  intro q hq
  by_cases e : q = j
  · subst e
    refine ⟨s, m, hs, hm, ?_, ?_, ?_, ?_, fun i hi => ?_⟩
    · show gI (sI (sI u (70 + 2 * q) 1 s) (70 + 2 * q) 2 (nI m)) (70 + 2 * q) 1 = s
      rw [gI_sI, if_neg (by omega), gI_sI, if_pos ⟨rfl, rfl⟩]
    · show gA (sA (sA (sLr (sI (sI u (70 + 2 * q) 1 s) (70 + 2 * q) 2 (nI m)) (70 + 2 * q + 1) f) 125 q s) 126 q (nI m)) 125 q = s
      rw [gA_sA_n (by decide), gA_sA_s, upd_s]
    · show gI (sI (sI u (70 + 2 * q) 1 s) (70 + 2 * q) 2 (nI m)) (70 + 2 * q) 2 = nI m
      rw [gI_sI_s]
    · show gA (sA (sA (sLr (sI (sI u (70 + 2 * q) 1 s) (70 + 2 * q) 2 (nI m)) (70 + 2 * q + 1) f) 125 q s) 126 q (nI m)) 126 q = nI m
      rw [gA_sA_s, upd_s]
    · rw [gL_sLr, if_neg (by omega), gL_sLr, if_pos rfl, hg i hi]
      show gL (sLr (sI (sI u (70 + 2 * q) 1 s) (70 + 2 * q) 2 (nI m)) (70 + 2 * q + 1) f) (71 + 2 * q) i = 0
      rw [gL_sLr, if_pos (by omega), hf i hi]
  · obtain ⟨s1, m1, hs1, hm1, t1, t2, t3, t4, t5⟩ := h q hq
    refine ⟨s1, m1, hs1, hm1, ?_, ?_, ?_, ?_, fun i hi => ?_⟩
    · show gI (sI (sI u (70 + 2 * j) 1 s) (70 + 2 * j) 2 (nI m)) (70 + 2 * q) 1 = s1
      rw [gI_sI, if_neg (by omega), gI_sI, if_neg (by omega), t1]
    · show gA (sA (sA (sLr (sI (sI u (70 + 2 * j) 1 s) (70 + 2 * j) 2 (nI m)) (70 + 2 * j + 1) f) 125 j s) 126 j (nI m)) 125 q = s1
      rw [gA_sA_n (by decide), gA_sA_s, upd_n e]
      exact t2
    · show gI (sI (sI u (70 + 2 * j) 1 s) (70 + 2 * j) 2 (nI m)) (70 + 2 * q) 2 = nI m1
      rw [gI_sI, if_neg (by omega), gI_sI, if_neg (by omega), t3]
    · show gA (sA (sA (sLr (sI (sI u (70 + 2 * j) 1 s) (70 + 2 * j) 2 (nI m)) (70 + 2 * j + 1) f) 125 j s) 126 j (nI m)) 126 q = nI m1
      rw [gA_sA_s, upd_n e, gA_sA_n (by decide)]
      exact t4
    · rw [gL_sLr, if_neg (by omega), gL_sLr, if_pos rfl, hg2 _ (by omega)]
      show gL (sLr (sI (sI u (70 + 2 * j) 1 s) (70 + 2 * j) 2 (nI m)) (70 + 2 * j + 1) f) (71 + 2 * q) i = _
      rw [gL_sLr, if_neg (by omega)]
      exact t5 i hi

theorem in_m1 {x : Int32} : f_X8_in x (-1 : Int32) (4 : Int32) = some (bI (decide (x = -1) || wn x 5)) := by
  unfold f_X8_in wn
  by_cases h1 : x < -1
  · rw [if_pos h1]
    have : (decide (x = -1) || decide (0 ≤ x.toInt ∧ x.toInt < (5 : Nat))) = false := by
      rw [Bool.or_eq_false_iff, decide_eq_false_iff_not, decide_eq_false_iff_not]
      constructor <;> (intro q; (simp (disch := omega) only [le_I, lt_I, eq_I, nI_toInt, Int32.reduceToInt, ne_eq] at * <;> omega))
    rw [this]; rfl
  · rw [if_neg h1]
    by_cases h2 : (4 : Int32) < x
    · rw [if_pos h2]
      have : (decide (x = -1) || decide (0 ≤ x.toInt ∧ x.toInt < (5 : Nat))) = false := by
        rw [Bool.or_eq_false_iff, decide_eq_false_iff_not, decide_eq_false_iff_not]
        constructor <;> (intro q; (simp (disch := omega) only [le_I, lt_I, eq_I, nI_toInt, Int32.reduceToInt, ne_eq] at * <;> omega))
      rw [this]; rfl
    · rw [if_neg h2]
      have : (decide (x = -1) || decide (0 ≤ x.toInt ∧ x.toInt < (5 : Nat))) = true := by
        rw [Bool.or_eq_true, decide_eq_true_eq, decide_eq_true_eq]
        by_cases q : x = -1
        · exact Or.inl q
        · refine Or.inr ?_
          (simp (disch := omega) only [le_I, lt_I, eq_I, nI_toInt, Int32.reduceToInt, ne_eq] at * <;> omega)
      rw [this]; rfl
theorem tape_inv {u : Mem} {K : gK8} {w : gW5} {B : Nat} {pgs : Nat → gPg} {j m : Nat} {s : Int32} {f g : Nat → Int64} (hA : InvA u K w B pgs) (hj : j < 6) (hm : m ≤ 60) (hs : s = (-1 : Int32) ∧ m = 0 ∨ ∃ k, k < 5 ∧ s = nI k) (hf : ∀ i, i < 60 → f i = 0) (hg : ∀ i, i < 60 → g (60 * j + i) = 0) (hg2 : ∀ x, (x < 60 * j ∨ 60 * j + 60 ≤ x) → g x = gL u 127 x) :
    Inv (sLr (sA (sA (sLr (sI (sI u (70 + 2 * j) 1 s) (70 + 2 * j) 2 (nI m)) (70 + 2 * j + 1) f) 125 j s) 126 j (nI m)) 127 g) := by
  refine ⟨K, w, B, pgs, hA.tape (((((((Agr.rf _ _ _).si ?_ ?_).si ?_ ?_).slr ?_).sa ?_).sa ?_).slr ?_) (tape_TAP hj hm hs hf hg hg2 hA.2.2.2.2.2.2.1)⟩ <;> first | (unfold SP; omega) | omega
theorem st_tape {u : Mem} (hI : Inv u) (t s n : Int32) : okS u (f_X7_tape t s n u) (f_X8_tape t s n) := by
  have hI0 := hI
  obtain ⟨K, w, B, pgs, hA⟩ := hI
  unfold f_X7_tape
  cases ht : wn t 6
  · rw [pbind_of (tapeAt_f ht)]
    exact ⟨_, _, _, rfl, (by unfold f_X8_tape; rw [pbind_of isTape_eq, ht]; exact if_pos bf), hI0⟩
  · obtain ⟨j, hj, rfl⟩ := wn_of ht
    rw [pbind_of (tapeAt_t hj)]
    show okS u (gob 129 (70 + 2 * j) l5 _) _
    rw [gob_t (l5_ok j hj)]
    by_cases h1 : s = -1
    · subst h1
      obtain ⟨f, c1, c2⟩ := becomeC (u := u) (t := 70 + 2 * j) (m := 0) (s := -1) (by decide)
      have c1 : f_X5_become (70 + 2 * j) (-1 : Int32) (0 : Int32) u = _ := c1
      rw [if_pos rfl, obind_of c1]
      obtain ⟨g, m1, m2, m3⟩ := zeroM (v := sA (sA (sLr (sI (sI u (70 + 2 * j) 1 (-1)) (70 + 2 * j) 2 (nI 0)) (70 + 2 * j + 1) f) 125 j (-1)) 126 j (nI 0)) hj (fun x u => f_X8_tape_L69b (nI j) x u) (fun x u => rfl)
      refine ⟨_, _, _, rfl, ?_, tape_inv hA hj (Nat.zero_le _) (Or.inl ⟨rfl, rfl⟩) c2 m2 ?_⟩
      · unfold f_X8_tape
        rw [pbind_of isTape_eq, ht, if_neg bt, pbind_of in_m1]
        rw [show (decide ((-1 : Int32) = -1) || wn (-1) 5) = true from rfl, if_neg bt, if_pos (show (-1 : Int32) < 0 by decide), gin_nI hj (by decide), if_neg (show ¬ (0 : Int32) ≤ -1 by decide), gin_nI hj (by decide), nI_clamp (by omega)]
        exact m1
      · intro x hx
        rw [m3 x hx]
        show gL (sLr (sI (sI u (70 + 2 * j) 1 (-1)) (70 + 2 * j) 2 (nI 0)) (70 + 2 * j + 1) f) 127 x = _
        rw [gL_sLr, if_neg (by omega)]
        rfl
    · rw [if_neg h1, pbind_of (isWithin_eq (N := 5) rfl)]
      have hb : (decide (s = -1) || wn s 5) = wn s 5 := by rw [decide_eq_false h1, Bool.false_or]
      cases hs : wn s 5
      · exact ⟨_, _, _, if_pos bf, (by unfold f_X8_tape; rw [pbind_of isTape_eq, ht, if_neg bt, pbind_of in_m1, hb, hs]; exact if_pos bf), hI0⟩
      · obtain ⟨k, hk, rfl⟩ := wn_of hs
        have hk0 : ¬ nI k < 0 := by (simp (disch := omega) only [le_I, lt_I, eq_I, nI_toInt, Int32.reduceToInt, ne_eq] <;> omega)
        have hk1 : (0 : Int32) ≤ nI k := by (simp (disch := omega) only [le_I, lt_I, eq_I, nI_toInt, Int32.reduceToInt, ne_eq] <;> omega)
        rw [if_neg bt]
        by_cases h2 : n ≤ 60
        · rw [if_pos h2]
          by_cases h3 : 0 ≤ n
          · obtain ⟨m, hm, rfl⟩ : ∃ m, m < 61 ∧ n = nI m := nI_in0 (by (simp (disch := omega) only [le_I, lt_I, eq_I, nI_toInt, Int32.reduceToInt, ne_eq] at * <;> omega)) (by (simp (disch := omega) only [le_I, lt_I, eq_I, nI_toInt, Int32.reduceToInt, ne_eq] at * <;> omega))
            obtain ⟨f, c1, c2⟩ := becomeC (u := u) (t := 70 + 2 * j) (m := m) (s := nI k) (by omega)
            rw [if_pos h3, obind_of c1]
            obtain ⟨g, m1, m2, m3⟩ := zeroM (v := sA (sA (sLr (sI (sI u (70 + 2 * j) 1 (nI k)) (70 + 2 * j) 2 (nI m)) (70 + 2 * j + 1) f) 125 j (nI k)) 126 j (nI m)) hj (fun x u => f_X8_tape_L69bb (nI j) x u) (fun x u => rfl)
            refine ⟨_, _, _, rfl, ?_, tape_inv (m := m) hA hj (by omega) (Or.inr ⟨k, hk, rfl⟩) c2 m2 ?_⟩
            · unfold f_X8_tape
              rw [pbind_of isTape_eq, ht, if_neg bt, pbind_of in_m1, hb, hs, if_neg bt, if_neg hk0, if_pos h2, if_pos h3, gin_nI hj (by decide), if_pos hk1, gin_nI hj (by decide), nI_clamp (by omega)]
              exact m1
            · intro x hx
              rw [m3 x hx]
              show gL (sLr (sI (sI u (70 + 2 * j) 1 (nI k)) (70 + 2 * j) 2 (nI m)) (70 + 2 * j + 1) f) 127 x = _
              rw [gL_sLr, if_neg (by omega)]
              rfl
          · rw [if_neg h3]
            exact ⟨_, _, _, rfl, (by unfold f_X8_tape; rw [pbind_of isTape_eq, ht, if_neg bt, pbind_of in_m1, hb, hs, if_neg bt, if_neg hk0, if_pos h2, if_neg h3]), hI0⟩
        · rw [if_neg h2]
          exact ⟨_, _, _, rfl, (by unfold f_X8_tape; rw [pbind_of isTape_eq, ht, if_neg bt, pbind_of in_m1, hb, hs, if_neg bt, if_neg hk0, if_neg h2]), hI0⟩
