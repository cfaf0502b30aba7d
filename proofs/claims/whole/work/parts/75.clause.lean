/-! A CLAUSE, read by both -/
def EF (T : Nat → Nat) (m sb c a' : Nat) (z z' : Mem) : Prop := Agr (fun x => x ≠ 82 ∧ ¬ (94 ≤ x ∧ x ≤ 97)) FE z z' ∧ TZ T m a' z' ∧ (∀ x, x ≠ c → gA z' 94 x = gA z 94 x ∧ gA z' 95 x = gA z 95 x) ∧ ∀ i, i < sb → gA z' 96 i = gA z 96 i
theorem eL {T : Nat → Nat} {m a : Nat} (hm : m ≤ 100) (hT : ∀ i, i < m → T i < 128) (ha : a ≤ m) : ∃ ok a' tks, a ≤ a' ∧ a' ≤ m ∧ (ok = true → a + tks.length ≤ a' ∧ tkG tks 0 = true) ∧ CRel T m (f_X3_readChoice 0) a ok a' tks ∧
    (∀ z sb c, c < 60 → TZ T m a z → gI z 82 25 = nI sb → sb ≤ 500 + a → (ok = true → ∃ z', f_X8_takesE (nI c) z = some (1, z') ∧ EF T m sb c a' z z' ∧ gI z' 82 25 = nI (sb + tks.length) ∧ gA z' 94 c = nI sb ∧ gA z' 95 c = nI (sb + tks.length) ∧ ∀ i, i < tks.length → gA z' 96 (sb + i) = sg (tks.getD i 0)) ∧ (ok = false → ∃ z', f_X8_takesE (nI c) z = some (0, z') ∧ EF T m sb c a' z z')) := by
  obtain ⟨ok, a', tks, p1, p2, p3, p4, p5⟩ := PAR hm hT 20 0 0 a (by decide) (by decide) (by decide) ha
  refine ⟨ok, a', tks, p1, p2, fun h => ⟨(p3 h).1, ?_⟩, p4, fun z sb c hc hz h25 hsb => ?_⟩
  · have := (p3 h).2.2.2.2 [] 0 (by decide) rfl
    rwa [List.append_nil] at this
  · obtain ⟨y, hy⟩ : ∃ y, y = sA (sI (sI z 82 26 (0 : Int32)) 82 27 (0 : Int32)) 94 c (nI sb) := ⟨_, rfl⟩
    have hgz : Agr (fun x => x ≠ 82 ∧ ¬ (94 ≤ x ∧ x ≤ 97)) FE z y := by
      rw [hy]
      exact (((Agr.rf _ _ _).si (fun q => q.1 rfl) (Or.inr (by unfold FE; omega))).si (fun q => q.1 rfl) (Or.inr (by unfold FE; omega))).sa (by omega)
    have hyT : TZ T m a y := by
      obtain ⟨t1, t2, t3, t4⟩ := hz
      rw [hy]
      refine ⟨t1, ?_, ?_, t4⟩
      · rw [gI_sA, gI_sI_k (by decide), gI_sI_k (by decide)]; exact t2
      · rw [gI_sA, gI_sI_k (by decide), gI_sI_k (by decide)]; exact t3
    have hyM : MB y T m sb c a [] [] y := by
      refine ⟨⟨Agr.rf _ _ _, hyT, fun _ _ => rfl, fun _ _ => rfl⟩, ?_, ?_, ?_, fun i hi => absurd hi (Nat.not_lt_zero i), trivial⟩
      · rw [hy, gI_sA, gI_sI_k (by decide), gI_sI_k (by decide)]; exact h25
      · rw [hy, gI_sA, gI_sI_k (by decide), gI_sI_s]; rfl
      · rw [hy, gI_sA, gI_sI_s]; rfl
    have hE : f_X8_takesE (nI c) z = whileO (Eb c) FUEL ((1 : Int32), y) := by
      unfold f_X8_takesE
      rw [gin_nI hc (by decide), nI_clamp (by omega), gI_sI_k (by decide), gI_sI_k (by decide), h25, ← hy]
      rfl
    have hgo := p5 y sb c [] [] y hc hyM ⟨fun _ => ⟨by decide, by decide⟩, fun _ => by decide⟩ rfl ⟨by simp only [List.length_nil]; omega, by simp only [List.length_nil]; omega⟩
    have h94 : ∀ x, gA y 94 x = if x = c then nI sb else gA z 94 x := by
      intro x
      rw [hy, gA_sA_s]
      rfl
    have h95 : gA y 95 = gA z 95 := by
      rw [hy, gA_sA_n (by decide)]
      rfl
    have h96 : gA y 96 = gA z 96 := by
      rw [hy, gA_sA_n (by decide)]
      rfl
    clear hy
    have hEF : ∀ z', MX y T m sb c a' z' → EF T m sb c a' z z' := by
      rintro z' ⟨g1, g2, g3, g4⟩
      refine ⟨hgz.trans (g1.mono (fun x hx => by unfold SE; omega) (fun _ h => h)), g2, fun x hx => ⟨?_, ?_⟩, fun i hi => ?_⟩
      · rw [g1.A (show SE 94 by unfold SE; omega), h94, if_neg hx]
      · rw [g3 x hx, h95]
      · rw [g4 i hi, h96]
    refine ⟨fun hok => ?_, fun hok => ?_⟩
    · obtain ⟨j, W', S', z', f1, f2, f3, f4, f5⟩ := hgo.1 hok
      obtain ⟨-, -, s3, s4, -⟩ := p3 hok
      obtain ⟨z2, g1, g2, g3, g4, g5⟩ := stepEnd hc f3 (s3 (by decide)) (s4 rfl) (fin_0.mp f4) (by have := f5.1; omega) (by have := f5.2; omega)
      refine ⟨z2, ?_, hEF z2 g1.1, g1.2.1, ?_, g2, g1.2.2.2.2.1⟩
      · rw [hE]
        obtain ⟨n0, hn0⟩ : ∃ n0, FUEL = (n0 + 1) + j := ⟨5000 - j - 1, by show 5000 = _; omega⟩
        rw [hn0, f2]
        exact whileO_inr (g3 rfl)
      · rw [g1.1.1.A (show SE 94 by unfold SE; omega), h94, if_pos rfl]
    · obtain ⟨z', f1, f2⟩ := hgo.2 hok
      exact ⟨z', by rw [hE]; exact f1 FUEL (by show _ < 5000; omega), hEF z' f2⟩
/-! heads -/
def wl (w : Nat) : List Nat := if w = 0 then [119, 97, 114, 109, 32] else if w = 1 then [115, 104, 97, 109, 101, 32] else [115, 108, 111, 112, 101, 32]
def hd (T : Nat → Nat) (m a : Nat) : Nat := if nx T m a = 119 then 0 else if nx T m (a + 1) = 108 then 2 else 1
theorem wl_lt (w : Nat) : ∀ c ∈ wl w, c < 128 := by
  unfold wl
  split
  · decide
  · split
    · decide
    · decide
theorem headC {T : Nat → Nat} {m a : Nat} {v : Mem} (hv : TV T m a v) : ∃ v0, LV v v0 (mt T m (wl (hd T m a)) a) ∧ f_X3_readClause v = if mtOk T m (wl (hd T m a)) a = true then (if hd T m a = 2 then obind (f_X3_readSlope v0) (fun r13 u13 => (if r13 = 0 then some ((0 : Int32), u13) else some ((1 : Int32), u13))) else obind (f_X3_readWarmth (nI (9 + hd T m a)) v0) (fun r17 u17 => (if r17 = 0 then some ((0 : Int32), u17) else some ((1 : Int32), u17)))) else some (0, v0) := by
  unfold hd
  by_cases h1 : nx T m a = 119
  · rw [if_pos h1]
    obtain ⟨v0, e1, e2⟩ := skipWordC (i := 0) (by decide) _ 0 a v FUEL rfl (by decide) (by show 5 < 5000; decide) hv
    have e1 : f_X3_skipWord 0 v = some (bI (mtOk T m (wl 0) a), v0) := e1
    refine ⟨v0, e2, ?_⟩
    unfold f_X3_readClause
    rw [pbind_of (nextC hv), if_pos h1, obind_of e1]
    cases mtOk T m (wl 0) a
    · rfl
    · rfl
  · rw [if_neg h1]
    by_cases h2 : nx T m a = 115
    · have ham := nx_nn (c := 115) h2 (by decide)
      have hv1 := hv.lv (LV.go v (a + 1)) ham
      have hmt : ∀ w r, wl w = 115 :: r → mt T m (wl w) a = mt T m r (a + 1) ∧ mtOk T m (wl w) a = mtOk T m r (a + 1) := by
        intro w r e
        rw [e]
        exact ⟨if_pos h2, if_pos h2⟩
      by_cases h3 : nx T m (a + 1) = 108
      · rw [if_pos h3]
        obtain ⟨m1, m2⟩ := hmt 2 [108, 111, 112, 101, 32] rfl
        obtain ⟨v0, e1, e2⟩ := skipWordC (i := 1) (by decide) _ 0 (a + 1) _ FUEL rfl (by decide) (by show 5 < 5000; decide) hv1
        have e1 : f_X3_skipWord 1 (sI v 63 2 (nI (a + 1))) = some (bI (mtOk T m [108, 111, 112, 101, 32] (a + 1)), v0) := e1
        refine ⟨v0, by rw [m1]; exact (LV.go v (a + 1)).trans e2, ?_⟩
        rw [m2]
        unfold f_X3_readClause
        rw [pbind_of (nextC hv), if_neg h1, skipC hv, if_pos h2, obind_some, if_neg (show ¬ (1 : Int32) = 0 by decide), pbind_of (nextC hv1), if_pos h3, obind_of e1]
        cases mtOk T m [108, 111, 112, 101, 32] (a + 1)
        · rfl
        · rfl
      · rw [if_neg h3]
        obtain ⟨m1, m2⟩ := hmt 1 [104, 97, 109, 101, 32] rfl
        obtain ⟨v0, e1, e2⟩ := skipWordC (i := 2) (by decide) _ 0 (a + 1) _ FUEL rfl (by decide) (by show 5 < 5000; decide) hv1
        have e1 : f_X3_skipWord 2 (sI v 63 2 (nI (a + 1))) = some (bI (mtOk T m [104, 97, 109, 101, 32] (a + 1)), v0) := e1
        refine ⟨v0, by rw [m1]; exact (LV.go v (a + 1)).trans e2, ?_⟩
        rw [m2]
        unfold f_X3_readClause
        rw [pbind_of (nextC hv), if_neg h1, skipC hv, if_pos h2, obind_some, if_neg (show ¬ (1 : Int32) = 0 by decide), pbind_of (nextC hv1), if_neg h3, obind_of e1]
        cases mtOk T m [104, 97, 109, 101, 32] (a + 1)
        · rfl
        · rfl
    · have hmt : ∀ w, w ≠ 0 → mt T m (wl w) a = a ∧ mtOk T m (wl w) a = false := by
        intro w hw
        unfold wl
        rw [if_neg hw]
        split
        · exact ⟨if_neg h2, if_neg h2⟩
        · exact ⟨if_neg h2, if_neg h2⟩
      have hne : (if nx T m (a + 1) = 108 then 2 else 1) ≠ 0 := by split <;> decide
      obtain ⟨m1, m2⟩ := hmt _ hne
      rw [m1, m2]
      refine ⟨v, LV.rf hv, ?_⟩
      unfold f_X3_readClause
      rw [pbind_of (nextC hv), if_neg h1, skipC hv, if_neg h2, obind_some, if_pos rfl]
      rfl
theorem secondM {T : Nat → Nat} {m a : Nat} {z : Mem} (h : TZ T m a z) : f_X8_second z = some (nx T m (a + 1)) := by
  obtain ⟨h1, h3, h4, h5, h6, h7⟩ := h
  unfold f_X8_second nx
  rw [h3, h4, nI_1]
  by_cases q : a + 1 < m
  · rw [if_neg (by (simp (disch := omega) only [le_I, lt_I, eq_I, nI_toInt, Int32.reduceToInt, ne_eq] <;> omega)), gin_nI (by omega) (by decide), nI_clamp (by omega), if_pos q, h1 _ q]
  · rw [if_pos (by (simp (disch := omega) only [le_I, lt_I, eq_I, nI_toInt, Int32.reduceToInt, ne_eq] <;> omega)), if_neg q]
theorem headM {T : Nat → Nat} {m a c : Nat} {z : Mem} (hc : c < 60) (h98 : ∀ i, i < 14 → gA z 98 i = letM i) (hz : TZ T m a z) : ∃ z0, f_X8_takesHead (nI c) z = some (bI (mtOk T m (wl (hd T m a)) a), z0) ∧ LX (sA z 92 c (nI (hd T m a))) z0 (mt T m (wl (hd T m a)) a) := by
  have hzw : ∀ w : Int32, TZ T m a (sA z 92 c w) := fun w => hz
  have h98w : ∀ w : Int32, ∀ i, i < 14 → gA (sA z 92 c w) 98 i = letM i := fun w i hi => by
    rw [gA_sA_n (by decide)]
    exact h98 i hi
  have hg : ∀ (b : Bool) (u : Mem), gbo (bI b) (some (bI b, u)) = some (bI b, u) := fun b u => by
    cases b
    · exact gbo_0
    · exact gbo_1
  unfold hd
  by_cases h1 : nx T m a = 119
  · rw [if_pos h1]
    obtain ⟨z0, e1, e2⟩ := takesWordM (p := 0) (N := 4) (W := [119, 97, 114, 109]) rfl (by decide) (by decide) (by decide) _ 0 a (sA z 92 c (nI 0)) FUEL rfl (by decide) (by show 4 < 5000; decide) (h98w _) (hzw _)
    have e1 : f_X8_takesWord (0 : Int32) (4 : Int32) (sA z 92 c (0 : Int32)) = some (bI (mtOk T m (wl 0) a), z0) := e1
    refine ⟨z0, ?_, e2⟩
    unfold f_X8_takesHead
    rw [pbind_of (nextM hz), if_pos h1, gin_nI hc (by decide), nI_clamp (by omega), obind_of e1, hg]
  · rw [if_neg h1]
    by_cases h3 : nx T m (a + 1) = 108
    · rw [if_pos h3]
      obtain ⟨z0, e1, e2⟩ := takesWordM (p := 9) (N := 5) (W := [115, 108, 111, 112, 101]) rfl (by decide) (by decide) (by decide) _ 0 a (sA z 92 c (nI 2)) FUEL rfl (by decide) (by show 5 < 5000; decide) (h98w _) (hzw _)
      have e1 : f_X8_takesWord (9 : Int32) (5 : Int32) (sA z 92 c (2 : Int32)) = some (bI (mtOk T m (wl 2) a), z0) := e1
      refine ⟨z0, ?_, e2⟩
      unfold f_X8_takesHead
      rw [pbind_of (nextM hz), if_neg h1, pbind_of (secondM hz), if_pos h3, gin_nI hc (by decide), gin_nI hc (by decide), nI_clamp (by omega), gA_sA_s, upd_s, if_pos rfl, obind_of e1, hg]
    · rw [if_neg h3]
      obtain ⟨z0, e1, e2⟩ := takesWordM (p := 4) (N := 5) (W := [115, 104, 97, 109, 101]) rfl (by decide) (by decide) (by decide) _ 0 a (sA z 92 c (nI 1)) FUEL rfl (by decide) (by show 5 < 5000; decide) (h98w _) (hzw _)
      have e1 : f_X8_takesWord (4 : Int32) (5 : Int32) (sA z 92 c (1 : Int32)) = some (bI (mtOk T m (wl 1) a), z0) := e1
      refine ⟨z0, ?_, e2⟩
      unfold f_X8_takesHead
      rw [pbind_of (nextM hz), if_neg h1, pbind_of (secondM hz), if_neg h3, gin_nI hc (by decide), gin_nI hc (by decide), nI_clamp (by omega), gA_sA_s, upd_s, if_neg (by decide), obind_of e1, hg]
