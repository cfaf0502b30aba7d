theorem gI_sI_s (u : Mem) (t k : Nat) (v : Int32) : gI (sI u t k v) t k = v := by rw [gI_sI, if_pos ⟨rfl, rfl⟩]
theorem gA_sA_s (u : Mem) (a i : Nat) (x : Int32) : gA (sA u a i x) a = upd (gA u a) i x := gA_sAr_s _ _ _
theorem gA_sA_n {u : Mem} {a i : Nat} {x : Int32} {b : Nat} (h : b ≠ a) : gA (sA u a i x) b = gA u b := gA_sAr_n h
theorem appendC {u : Mem} {t m M : Nat} {a b c : Int32} (h4 : gI u t 4 = nI m) (h3 : gI u t 3 = nI M) (hM : M ≤ 10) (hm : m < M) : f_X2_append t a b c u = some (nI (m + 1), sI (sA (sA (sA u (t + 1) m a) (t + 2) m b) (t + 3) m c) t 4 (nI (m + 1))) := by
  unfold f_X2_append
  simp only [gI_sA, gI_sI_s, h4, h3]
  rw [if_pos (by (simp (disch := omega) only [le_I, lt_I, eq_I, nI_toInt, Int32.reduceToInt, ne_eq] <;> omega))]
  simp only [gin_nI (show m < 10 by omega) (show 10 ≤ 2147483648 by decide), nI_clamp (show m < 2 ^ 31 by omega), nI_1]
theorem appendC_full {u : Mem} {t M : Nat} {a b c : Int32} (h4 : gI u t 4 = nI M) (h3 : gI u t 3 = nI M) (hM : M ≤ 10) : f_X2_append t a b c u = some (-4, u) := by
  unfold f_X2_append
  rw [h4, h3, if_neg (by (simp (disch := omega) only [le_I, lt_I, eq_I, nI_toInt, Int32.reduceToInt, ne_eq] <;> omega))]
theorem upd_s {f : Nat → Int32} {i : Nat} {x : Int32} : upd f i x i = x := if_pos rfl
theorem upd_n {f : Nat → Int32} {i j : Nat} {x : Int32} (h : j ≠ i) : upd f i x j = f j := if_neg h
theorem clearC {u : Mem} {t : Nat} : f_X2_clear t u = some (0, sI u t 4 (0 : Int32)) := by
  unfold f_X2_clear
  rw [gI_sI_s]
/-! see -/
theorem seenP_add {N m : Nat} {a b c a' b' c' : Nat → Int32} {p x : Nat} {g : Int32} (hm : m < 5) (hp : p < N) (hx : x < 8) (h : ∀ i, i < m → ∃ p x, p < N ∧ x < 8 ∧ a i = nI p ∧ a' i = nI p ∧ b i = nI x ∧ b' i = nI x ∧ c i = c' i) :
    seenP N (nI (m + 1)) (nI (m + 1)) (upd a m (nI p)) (upd b m (nI x)) (upd c m g) (upd a' m (nI p)) (upd b' m (nI x)) (upd c' m g) := by
  refine ⟨m + 1, by omega, rfl, rfl, fun i hi => ?_⟩
  by_cases q : i = m
  · subst q
    exact ⟨p, x, hp, hx, upd_s, upd_s, upd_s, upd_s, upd_s.trans upd_s.symm⟩
  · obtain ⟨p1, x1, h1⟩ := h i (by omega)
    rw [upd_n q, upd_n q, upd_n q, upd_n q, upd_n q, upd_n q]
    exact ⟨p1, x1, h1⟩
theorem see_full {K : gK8} {p t : Nat} {g : Int32} {v : Mem} (hn6 : cN K ≤ 6) (hm1 : gI v 82 0 = nI (cN K)) (hp : p < cN K) (ht : t < 8) (hg : wn g 100 = true) {m : Nat} (hm : m ≤ 5) (h37 : gI v 82 37 = nI m) :
    f_X8_see (nI p) (nI t) g v = if m = 5 then some (-4, v) else some (nI (m + 1), sI (sA (sA (sA v 103 m (nI p)) 104 m (nI t)) 105 m g) 82 37 (nI (m + 1))) := by
  unfold f_X8_see
  rw [if_neg (by (simp (disch := omega) only [le_I, lt_I, eq_I, nI_toInt, Int32.reduceToInt, ne_eq] <;> omega)), pbind_of (isOne_eq hn6 hm1), wn_nI hp (by omega), if_neg bt, pbind_of isTaleM_eq, wn_nI ht (by omega), if_neg bt, pbind_of (in_eq (N := 100) rfl), hg, if_neg bt]
  simp only [gI_sA, gI_sI_s, h37]
  by_cases q : m = 5
  · rw [if_pos q, if_pos (by rw [q]; rfl)]
  · rw [if_neg q, if_neg (by (simp (disch := omega) only [le_I, lt_I, eq_I, nI_toInt, Int32.reduceToInt, ne_eq] <;> omega))]
    simp only [gin_nI (show m < 5 by omega) (show 5 ≤ 2147483648 by decide), nI_clamp (show m < 2 ^ 31 by omega), nI_1]
theorem st_see {u : Mem} (hI : Inv u) (p t g : Int32) : okS u (f_X7_see p t g u) (f_X8_see p t g) := by
  have hI0 := hI
  obtain ⟨K, w, B, pgs, hA⟩ := hI
  obtain ⟨⟨hn6, hn1⟩, -⟩ := hA.1.1
  have hm1 := hA.1.2.2.1.1
  obtain ⟨f1, f2, f3, ⟨m, hm, h38, h37, hs⟩, hpl, hbo⟩ := hA.2.2.2.2.1
  unfold f_X7_see
  by_cases h1 : p = -1
  · rw [if_pos h1, obind_of clearC]
    have hI2 : Inv (sI (sI u 38 4 0) 82 37 0) := ⟨K, w, B, pgs, hA.notes (((Agr.rf _ _ _).si (by unfold SN; omega) (by omega)).si (by unfold SN; omega) (by unfold FN; omega)) ⟨f1, f2, f3, ⟨0, by decide, rfl, rfl, fun i hi => absurd hi (Nat.not_lt_zero i)⟩, hpl, hbo⟩⟩
    exact ⟨_, _, _, rfl, (by unfold f_X8_see; rw [if_pos h1]), hI2⟩
  · rw [if_neg h1, pbind_of (isPerson_eq hn6 hn1)]
    cases hp : wn p (cN K)
    · exact ⟨_, _, _, if_pos bf, (by unfold f_X8_see; rw [if_neg h1, pbind_of (isOne_eq hn6 hm1), hp]; exact if_pos bf), hI0⟩
    · rw [if_neg bt, pbind_of isTaleC_eq]
      cases ht : wn t 8
      · exact ⟨_, _, _, if_pos bf, (by unfold f_X8_see; rw [if_neg h1, pbind_of (isOne_eq hn6 hm1), hp, if_neg bt, pbind_of isTaleM_eq, ht]; exact if_pos bf), hI0⟩
      · rw [if_neg bt, pbind_of (isUpTo_eq (N := 100) rfl)]
        cases hg : wn g 100
        · exact ⟨_, _, _, if_pos bf, (by unfold f_X8_see; rw [if_neg h1, pbind_of (isOne_eq hn6 hm1), hp, if_neg bt, pbind_of isTaleM_eq, ht, if_neg bt, pbind_of (in_eq (N := 100) rfl), hg]; exact if_pos bf), hI0⟩
        · obtain ⟨i, hi, rfl⟩ := wn_of hp
          obtain ⟨x, hx, rfl⟩ := wn_of ht
          rw [if_neg bt]
          by_cases q : m = 5
          · rw [obind_of (appendC_full (M := 5) (by rw [h38, q]) f1 (by decide))]
            refine ⟨_, _, _, rfl, ?_, hI0⟩
            rw [see_full hn6 hm1 hi hx hg hm h37, if_pos q]
          · rw [obind_of (appendC h38 (M := 5) f1 (by decide) (by omega))]
            have hI2 : Inv (sI (sA (sA (sA (sI (sA (sA (sA u 39 m (nI i)) 40 m (nI x)) 41 m g) 38 4 (nI (m + 1))) 103 m (nI i)) 104 m (nI x)) 105 m g) 82 37 (nI (m + 1))) := by
              refine ⟨K, w, B, pgs, hA.notes (((((((((Agr.rf _ _ _).sa ?_).sa ?_).sa ?_).si ?_ ?_).sa ?_).sa ?_).sa ?_).si ?_ ?_) ⟨f1, f2, f3, seenP_add (by omega) hi hx hs, hpl, hbo⟩⟩ <;> first | (unfold SN; omega) | (unfold FN; omega) | omega
            refine ⟨_, _, _, rfl, ?_, hI2⟩
            refine (see_full (v := sI (sA (sA (sA u 39 m (nI i)) 40 m (nI x)) 41 m g) 38 4 (nI (m + 1))) hn6 hm1 hi hx hg hm h37).trans ?_
            rw [if_neg q]
/-! book -/
theorem bookP_add {N m : Nat} {a b a' b' : Nat → Int32} {p : Nat} {g : Int32} (hm : m < 8) (hp : p < N) (h : ∀ i, i < m → ∃ p, p < N ∧ a i = nI p ∧ a' i = nI p ∧ b i = b' i) :
    bookP N (nI (m + 1)) (nI (m + 1)) (upd a m (nI p)) (upd b m g) (upd a' m (nI p)) (upd b' m g) := by
  refine ⟨m + 1, by omega, rfl, rfl, fun i hi => ?_⟩
  by_cases q : i = m
  · subst q
    exact ⟨p, hp, upd_s, upd_s, upd_s.trans upd_s.symm⟩
  · obtain ⟨p1, h1⟩ := h i (by omega)
    rw [upd_n q, upd_n q, upd_n q, upd_n q]
    exact ⟨p1, h1⟩
theorem book_full {K : gK8} {p : Nat} {g : Int32} {v : Mem} (hn6 : cN K ≤ 6) (hm1 : gI v 82 0 = nI (cN K)) (hp : p < cN K) (hg : wn g 256 = true) {m : Nat} (hm : m ≤ 8) (h37 : gI v 82 42 = nI m) :
    f_X8_book (nI p) g v = if m = 8 then some (-4, v) else some (nI (m + 1), sI (sA (sA v 108 m (nI p)) 109 m g) 82 42 (nI (m + 1))) := by
  unfold f_X8_book
  rw [if_neg (by (simp (disch := omega) only [le_I, lt_I, eq_I, nI_toInt, Int32.reduceToInt, ne_eq] <;> omega)), pbind_of (isOne_eq hn6 hm1), wn_nI hp (by omega), if_neg bt, pbind_of isTales_eq, hg, if_neg bt]
  simp only [gI_sA, gI_sI_s, h37]
  by_cases q : m = 8
  · rw [if_pos q, if_pos (by rw [q]; rfl)]
  · rw [if_neg q, if_neg (by (simp (disch := omega) only [le_I, lt_I, eq_I, nI_toInt, Int32.reduceToInt, ne_eq] <;> omega))]
    simp only [gin_nI (show m < 8 by omega) (show 8 ≤ 2147483648 by decide), nI_clamp (show m < 2 ^ 31 by omega), nI_1]
theorem st_book {u : Mem} (hI : Inv u) (p g : Int32) : okS u (f_X7_book p g u) (f_X8_book p g) := by
  have hI0 := hI
  obtain ⟨K, w, B, pgs, hA⟩ := hI
  obtain ⟨⟨hn6, hn1⟩, -⟩ := hA.1.1
  have hm1 := hA.1.2.2.1.1
  obtain ⟨f1, f2, f3, hse, hpl, ⟨m, hm, h38, h37, hs⟩⟩ := hA.2.2.2.2.1
  unfold f_X7_book
  by_cases h1 : p = -1
  · rw [if_pos h1, obind_of clearC]
    have hI2 : Inv (sI (sI u 46 4 0) 82 42 0) := ⟨K, w, B, pgs, hA.notes (((Agr.rf _ _ _).si (by unfold SN; omega) (by omega)).si (by unfold SN; omega) (by unfold FN; omega)) ⟨f1, f2, f3, hse, hpl, ⟨0, by decide, rfl, rfl, fun i hi => absurd hi (Nat.not_lt_zero i)⟩⟩⟩
    exact ⟨_, _, _, rfl, (by unfold f_X8_book; rw [if_pos h1]), hI2⟩
  · rw [if_neg h1, pbind_of (isPerson_eq hn6 hn1)]
    cases hp : wn p (cN K)
    · exact ⟨_, _, _, if_pos bf, (by unfold f_X8_book; rw [if_neg h1, pbind_of (isOne_eq hn6 hm1), hp]; exact if_pos bf), hI0⟩
    · rw [if_neg bt, pbind_of (isUpTo_eq (N := 256) rfl)]
      cases hg : wn g 256
      · exact ⟨_, _, _, if_pos bf, (by unfold f_X8_book; rw [if_neg h1, pbind_of (isOne_eq hn6 hm1), hp, if_neg bt, pbind_of isTales_eq, hg]; exact if_pos bf), hI0⟩
      · obtain ⟨i, hi, rfl⟩ := wn_of hp
        rw [if_neg bt]
        by_cases q : m = 8
        · rw [obind_of (appendC_full (M := 8) (by rw [h38, q]) f3 (by decide))]
          refine ⟨_, _, _, rfl, ?_, hI0⟩
          rw [book_full hn6 hm1 hi hg hm h37, if_pos q]
        · rw [obind_of (appendC h38 (M := 8) f3 (by decide) (by omega))]
          have hI2 : Inv (sI (sA (sA (sI (sA (sA (sA u 47 m (nI i)) 48 m g) 49 m 0) 46 4 (nI (m + 1))) 108 m (nI i)) 109 m g) 82 42 (nI (m + 1))) := by
            refine ⟨K, w, B, pgs, hA.notes ((((((((Agr.rf _ _ _).sa ?_).sa ?_).sa ?_).si ?_ ?_).sa ?_).sa ?_).si ?_ ?_) ⟨f1, f2, f3, hse, hpl, bookP_add (by omega) hi hs⟩⟩ <;> first | (unfold SN; omega) | (unfold FN; omega) | omega
          refine ⟨_, _, _, rfl, ?_, hI2⟩
          refine (book_full (v := sI (sA (sA (sA u 47 m (nI i)) 48 m g) 49 m 0) 46 4 (nI (m + 1))) hn6 hm1 hi hg hm h37).trans ?_
          rw [if_neg q]
/-! feed -/
theorem feed_full {v : Mem} {x : Int32} {m : Nat} (hm : m ≤ 100) (hx : wn x 128 = true) (h : gI v 82 14 = nI m) : f_X8_feed x v = if m = 100 then some (-4, v) else some (nI (m + 1), sI (sA v 90 m x) 82 14 (nI (m + 1))) := by
  unfold f_X8_feed
  rw [pbind_of (in_eq (N := 128) rfl), hx, if_neg bt]
  simp only [gI_sA, gI_sI_s, h]
  by_cases q : m = 100
  · rw [if_pos q, if_pos (by rw [q]; rfl)]
  · rw [if_neg q, if_neg (by (simp (disch := omega) only [le_I, lt_I, eq_I, nI_toInt, Int32.reduceToInt, ne_eq] <;> omega))]
    simp only [gin_nI (show m < 100 by omega) (show 100 ≤ 2147483648 by decide), nI_clamp (show m < 2 ^ 31 by omega), nI_1]
theorem st_feed {u : Mem} (hI : Inv u) (x : Int32) : okS u (f_X7_feed x u) (f_X8_feed x) := by
  have hI0 := hI
  obtain ⟨K, w, B, pgs, hA⟩ := hI
  obtain ⟨m, hm, h1, h2, h3⟩ := hA.2.2.2.1
  unfold f_X7_feed
  rw [pbind_of (isUpTo_eq (N := 128) rfl)]
  cases hx : wn x 128
  · exact ⟨_, _, _, if_pos bf, (by unfold f_X8_feed; rw [pbind_of (in_eq (N := 128) rfl), hx]; exact if_pos bf), hI0⟩
  · rw [if_neg bt]
    by_cases q : m = 100
    · have hw : f_X3_write x u = some (-4, u) := by
        unfold f_X3_write
        rw [h1, q, if_neg (by decide)]
      rw [obind_of hw]
      exact ⟨_, _, _, rfl, (by rw [feed_full hm hx h2, if_pos q]), hI0⟩
    · have hw : f_X3_write x u = some (nI (m + 1), sI (sA u 64 m x) 63 1 (nI (m + 1))) := by
        unfold f_X3_write
        simp only [gI_sA, gI_sI_s, h1]
        rw [if_pos (by (simp (disch := omega) only [le_I, lt_I, eq_I, nI_toInt, Int32.reduceToInt, ne_eq] <;> omega))]
        simp only [gin_nI (show m < 100 by omega) (show 100 ≤ 2147483648 by decide), nI_clamp (show m < 2 ^ 31 by omega), nI_1]
      rw [obind_of hw]
      obtain ⟨c, hc, hxc⟩ := wn_of hx
      have hI2 : Inv (sI (sA (sI (sA u 64 m x) 63 1 (nI (m + 1))) 90 m x) 82 14 (nI (m + 1))) := by
        refine ⟨K, w, B, pgs, hA.text (((((Agr.rf _ _ _).sa ?_).si ?_ ?_).sa ?_).si ?_ ?_) rfl ⟨m + 1, by omega, rfl, rfl, fun i hi => ?_⟩⟩
        iterate 6 first | (unfold STx; omega) | (unfold FT; omega) | omega
        by_cases e : i = m
        · subst e
          exact ⟨c, hc, (upd_s (f := gA u 64)).trans hxc, (upd_s (f := gA u 90)).trans hxc⟩
        · obtain ⟨d, hd, e1, e2⟩ := h3 i (by omega)
          exact ⟨d, hd, (upd_n (f := gA u 64) e).trans e1, (upd_n (f := gA u 90) e).trans e2⟩
      refine ⟨_, _, _, rfl, ?_, hI2⟩
      refine (feed_full (v := sI (sA u 64 m x) 63 1 (nI (m + 1))) hm hx h2).trans ?_
      rw [if_neg q]
