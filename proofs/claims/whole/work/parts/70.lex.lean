/-! THE TEXT, read by both -/
def nx (T : Nat → Nat) (m a : Nat) : Int32 := if a < m then nI (T a) else -1
def TV (T : Nat → Nat) (m a : Nat) (v : Mem) : Prop := (∀ i, i < m → gA v 64 i = nI (T i)) ∧ gI v 63 1 = nI m ∧ gI v 63 2 = nI a ∧ a ≤ m ∧ m ≤ 100 ∧ ∀ i, i < m → T i < 128
def TZ (T : Nat → Nat) (m a : Nat) (z : Mem) : Prop := (∀ i, i < m → gA z 90 i = nI (T i)) ∧ gI z 82 14 = nI m ∧ gI z 82 15 = nI a ∧ a ≤ m ∧ m ≤ 100 ∧ ∀ i, i < m → T i < 128
def LV (v v' : Mem) (a' : Nat) : Prop := Agr (fun x => x ≠ 63) TT v v' ∧ gR v' = gR v ∧ gI v' 63 1 = gI v 63 1 ∧ gI v' 63 2 = nI a'
def LX (z z' : Mem) (a' : Nat) : Prop := Agr (fun x => x ≠ 82) (fun k => k ≠ 15 ∧ k ≠ 16) z z' ∧ gI z' 82 15 = nI a'
theorem LV.rf {T : Nat → Nat} {m a : Nat} {v : Mem} (h : TV T m a v) : LV v v a := ⟨Agr.rf _ _ _, rfl, rfl, h.2.2.1⟩
theorem LX.rf {T : Nat → Nat} {m a : Nat} {z : Mem} (h : TZ T m a z) : LX z z a := ⟨Agr.rf _ _ _, h.2.2.1⟩
theorem LV.trans {v v1 v2 : Mem} {a1 a2 : Nat} (h : LV v v1 a1) (h2 : LV v1 v2 a2) : LV v v2 a2 := ⟨h.1.trans h2.1, h2.2.1.trans h.2.1, h2.2.2.1.trans h.2.2.1, h2.2.2.2⟩
theorem LX.trans {v v1 v2 : Mem} {a1 a2 : Nat} (h : LX v v1 a1) (h2 : LX v1 v2 a2) : LX v v2 a2 := ⟨h.1.trans h2.1, h2.2⟩
theorem LV.go (v : Mem) (a : Nat) : LV v (sI v 63 2 (nI a)) a := ⟨(Agr.rf _ _ _).si (fun q => q rfl) (Or.inl (by decide)), rfl, gI_sI_k (by decide) 63, gI_sI_s _ _ _ _⟩
theorem LX.go (z : Mem) (a : Nat) : LX z (sI z 82 15 (nI a)) a := ⟨(Agr.rf _ _ _).si (fun q => q rfl) (Or.inr (by omega)), gI_sI_s _ _ _ _⟩
theorem TV.lv {T : Nat → Nat} {m a a' : Nat} {v v' : Mem} (h : TV T m a v) (h2 : LV v v' a') (ha : a' ≤ m) : TV T m a' v' := by
  obtain ⟨h1, h3, h4, h5, h6, h7⟩ := h
  refine ⟨fun i hi => ?_, h2.2.2.1.trans h3, h2.2.2.2, ha, h6, h7⟩
  rw [h2.1.A (by decide)]
  exact h1 i hi
theorem TZ.lx {T : Nat → Nat} {m a a' : Nat} {v v' : Mem} (h : TZ T m a v) (h2 : LX v v' a') (ha : a' ≤ m) : TZ T m a' v' := by
  obtain ⟨h1, h3, h4, h5, h6, h7⟩ := h
  refine ⟨fun i hi => ?_, (h2.1.2.2 14 (by decide)).trans h3, h2.2, ha, h6, h7⟩
  rw [h2.1.A (by decide)]
  exact h1 i hi
theorem nextC {T : Nat → Nat} {m a : Nat} {v : Mem} (h : TV T m a v) : f_X3_next v = some (nx T m a) := by
  obtain ⟨h1, h3, h4, h5, h6, h7⟩ := h
  unfold f_X3_next nx
  rw [h3, h4]
  by_cases q : a < m
  · rw [if_neg (by (simp (disch := omega) only [le_I, lt_I, eq_I, nI_toInt, Int32.reduceToInt, ne_eq] <;> omega)), if_neg (by (simp (disch := omega) only [le_I, lt_I, eq_I, nI_toInt, Int32.reduceToInt, ne_eq] <;> omega)), gin_nI (by omega) (by decide), nI_clamp (by omega), if_pos q, h1 a q]
  · rw [if_pos (by (simp (disch := omega) only [le_I, lt_I, eq_I, nI_toInt, Int32.reduceToInt, ne_eq] <;> omega)), if_neg q]
theorem nextM {T : Nat → Nat} {m a : Nat} {v : Mem} (h : TZ T m a v) : f_X8_next v = some (nx T m a) := by
  obtain ⟨h1, h3, h4, h5, h6, h7⟩ := h
  unfold f_X8_next nx
  rw [h3, h4]
  by_cases q : a < m
  · rw [if_neg (by (simp (disch := omega) only [le_I, lt_I, eq_I, nI_toInt, Int32.reduceToInt, ne_eq] <;> omega)), gin_nI (by omega) (by decide), nI_clamp (by omega), if_pos q, h1 a q]
  · rw [if_pos (by (simp (disch := omega) only [le_I, lt_I, eq_I, nI_toInt, Int32.reduceToInt, ne_eq] <;> omega)), if_neg q]
theorem nx_nn {T : Nat → Nat} {m a c : Nat} (h : nx T m a = nI c) (hc : c < 2 ^ 31) : a < m := by
  unfold nx at h
  by_cases q : a < m
  · exact q
  · rw [if_neg q] at h
    exfalso
    have := congrArg Int32.toInt h
    rw [nI_toInt hc] at this
    have : (-1 : Int32).toInt = -1 := rfl
    omega
theorem nx_lt {T : Nat → Nat} {m a : Nat} (hT : ∀ i, i < m → T i < 128) : (∃ c, c < 128 ∧ nx T m a = nI c ∧ a < m) ∨ (nx T m a = -1 ∧ ¬ a < m) := by
  unfold nx
  by_cases q : a < m
  · rw [if_pos q]; exact Or.inl ⟨_, hT a q, rfl, q⟩
  · rw [if_neg q]; exact Or.inr ⟨rfl, q⟩
theorem skipC {T : Nat → Nat} {m a : Nat} {v : Mem} (h : TV T m a v) (c : Int32) : f_X3_skip c v = if nx T m a = c then some (1, sI v 63 2 (nI (a + 1))) else some (0, v) := by
  unfold f_X3_skip
  rw [pbind_of (nextC h), h.2.2.1, nI_1]
theorem takesM {T : Nat → Nat} {m a : Nat} {v : Mem} (h : TZ T m a v) (c : Int32) : f_X8_takes c v = if nx T m a = c then some (1, sI v 82 15 (nI (a + 1))) else some (0, v) := by
  unfold f_X8_takes
  rw [pbind_of (nextM h), h.2.2.1, nI_1]
/-! numbers -/
def isD (x : Int32) : Bool := decide (48 ≤ x.toInt ∧ x.toInt ≤ 57)
theorem isDigitC (x : Int32) : f_X3_isDigit x = some (bI (isD x)) := by
  have e1 : (48 : Int32).toInt = 48 := rfl
  have e2 : (57 : Int32).toInt = 57 := rfl
  unfold f_X3_isDigit isD
  by_cases h : x < 48
  · rw [if_pos h, decide_eq_false (by rw [lt_I] at h; omega)]; rfl
  · rw [if_neg h]
    by_cases q : 57 < x
    · rw [if_pos q, decide_eq_false (by rw [lt_I] at q; omega)]; rfl
    · rw [if_neg q, decide_eq_true (by rw [lt_I] at h q; omega)]; rfl
theorem isDigitM {T : Nat → Nat} {m a : Nat} {v : Mem} (h : TZ T m a v) : f_X8_isDigit v = some (bI (isD (nx T m a))) := by
  unfold f_X8_isDigit
  rw [pbind_of (nextM h), pbind_of in_rng]
  change gbo (bI (isD (nx T m a))) (some (bI (isD (nx T m a)))) = _
  cases isD (nx T m a)
  · exact if_pos (Or.inl rfl)
  · exact if_pos (Or.inr rfl)
theorem isD_t {x : Int32} (h : isD x = true) : ∃ d, d < 10 ∧ x = nI (48 + d) := by
  obtain ⟨h1, h2⟩ := of_decide_eq_true h
  obtain ⟨z, hz, rfl⟩ : ∃ z, z < 58 ∧ x = nI z := nI_in0 (by omega) (by omega)
  rw [nI_toInt (by omega)] at h1
  exact ⟨z - 48, by omega, by congr 1; omega⟩
theorem number {T : Nat → Nat} {m : Nat} (hm : m ≤ 100) (a : Nat) : ∃ (r : Option Nat) (a' : Nat), a ≤ a' ∧ (a ≤ m → a' ≤ m) ∧ (∀ n, r = some n → n < 100 ∧ a < a') ∧ (r = none → a' = a) ∧
    (∀ v, TV T m a v → ∃ v', f_X3_readNumber v = some ((match r with | none => -1 | some n => nI n), v') ∧ LV v v' a') ∧
    (∀ z, TZ T m a z → ∃ z', f_X8_takesNumber z = some (bI r.isSome, z') ∧ LX z z' a' ∧ ∀ n, r = some n → gI z' 82 16 = nI n) := by
  have e48 : ∀ n : Nat, n < 1000 → nI (48 + n) - (48 : Int32) = nI n := by
    intro n hn
    rw [show (48 : Int32) = nI 48 from rfl, nI_sub (by omega) (by omega)]
    congr 1
    omega
  cases hd : isD (nx T m a)
  · refine ⟨none, a, Nat.le_refl _, fun h => h, fun n h => (by cases h), fun _ => rfl, fun v hv => ⟨v, ?_, LV.rf hv⟩, fun z hz => ⟨z, ?_, LX.rf hz, fun n h => (by cases h)⟩⟩
    · unfold f_X3_readNumber
      rw [pbind_of (nextC hv), pbind_of (isDigitC _), hd, if_pos bf]
    · unfold f_X8_takesNumber
      rw [pbind_of (isDigitM hz), hd, if_pos bf]
      rfl
  · obtain ⟨d, hd10, hde⟩ := isD_t hd
    have ham := nx_nn hde (by omega)
    have hone : ∀ z, TZ T m a z → whileO (fun s => f_X8_takesNumber_L16 s.1 s.2) FUEL ((0 : Int32), sI z 82 16 (0 : Int32)) = whileO (fun s => f_X8_takesNumber_L16 s.1 s.2) 4999 ((1 : Int32), sI (sI (sI z 82 16 (0 : Int32)) 82 16 (nI d)) 82 15 (nI (a + 1))) := by
      intro z hz
      refine whileO_inl ?_
      show f_X8_takesNumber_L16 0 (sI z 82 16 (0 : Int32)) = _
      have hz1 : TZ T m a (sI z 82 16 (0 : Int32)) := hz.lx ⟨(Agr.rf _ _ _).si (fun q => q rfl) (Or.inr (by omega)), (gI_sI_k (by decide) 82).trans hz.2.2.1⟩ hz.2.2.2.1
      unfold f_X8_takesNumber_L16
      rw [if_neg (by decide), pbind_of (isDigitM hz1), hd, if_neg bt, pbind_of (nextM hz1), gI_sI_s, hde]
      have e : (10 : Int32) * 0 + nI (48 + d) - (48 : Int32) = nI d := by
        rw [show (10 : Int32) * 0 + nI (48 + d) = nI (48 + d) from Int32.zero_add _]
        exact e48 d (by omega)
      rw [e, gI_sI_k (by decide), hz1.2.2.1, nI_1]
      rfl
    have hz1 : ∀ z, TZ T m a z → LX z (sI (sI (sI z 82 16 (0 : Int32)) 82 16 (nI d)) 82 15 (nI (a + 1))) (a + 1) := fun z hz =>
      ⟨(((Agr.rf _ _ _).si (fun q => q rfl) (Or.inr (by omega))).si (fun q => q rfl) (Or.inr (by omega))).si (fun q => q rfl) (Or.inr (by omega)), gI_sI_s _ _ _ _⟩
    cases he : isD (nx T m (a + 1))
    · refine ⟨some d, a + 1, by omega, fun _ => ham, fun n h => (by cases h; omega), fun h => (by cases h), fun v hv => ?_, fun z hz => ?_⟩
      · refine ⟨sI v 63 2 (nI (a + 1)), ?_, LV.go v (a + 1)⟩
        have hv1 := hv.lv (LV.go v (a + 1)) ham
        unfold f_X3_readNumber
        rw [pbind_of (nextC hv), pbind_of (isDigitC _), hd, if_neg bt, pbind_of (nextC hv), hv.2.2.1, nI_1, pbind_of (nextC hv1), pbind_of (isDigitC _), he, if_pos bf, hde, e48 d (by omega)]
      · refine ⟨_, ?_, hz1 z hz, fun n h => ?_⟩
        · unfold f_X8_takesNumber
          rw [pbind_of (isDigitM hz), hd, if_neg bt, hone z hz]
          refine whileO_inr ?_
          show f_X8_takesNumber_L16 1 _ = _
          unfold f_X8_takesNumber_L16
          rw [if_neg (by decide), pbind_of (isDigitM (hz.lx (hz1 z hz) ham)), he, if_pos bf]
          rfl
        · cases h
          rw [gI_sI_k (by decide), gI_sI_s]
    · obtain ⟨e, he10, hee⟩ := isD_t he
      have ham2 := nx_nn hee (by omega)
      refine ⟨some (d * 10 + e), a + 2, by omega, fun _ => ham2, fun n h => (by cases h; omega), fun h => (by cases h), fun v hv => ?_, fun z hz => ?_⟩
      · refine ⟨sI (sI v 63 2 (nI (a + 1))) 63 2 (nI (a + 2)), ?_, (LV.go v (a + 1)).trans (LV.go _ (a + 2))⟩
        have hv1 := hv.lv (LV.go v (a + 1)) ham
        unfold f_X3_readNumber
        rw [pbind_of (nextC hv), pbind_of (isDigitC _), hd, if_neg bt, pbind_of (nextC hv), hv.2.2.1, nI_1, pbind_of (nextC hv1), pbind_of (isDigitC _), he, if_neg bt, pbind_of (nextC hv1), gI_sI_s, nI_1, hde, hee, e48 d (by omega)]
        have e3 : nI d * (10 : Int32) + nI (48 + e) - (48 : Int32) = nI (d * 10 + e) := by
          rw [show (10 : Int32) = nI 10 from rfl, nI_mul, nI_add, show d * 10 + (48 + e) = 48 + (d * 10 + e) by omega, e48 _ (by omega)]
        rw [e3]
      · have hzz := hz.lx (hz1 z hz) ham
        refine ⟨sI (sI (sI (sI (sI z 82 16 (0 : Int32)) 82 16 (nI d)) 82 15 (nI (a + 1))) 82 16 (nI (d * 10 + e))) 82 15 (nI (a + 2)), ?_, ⟨((hz1 z hz).1.si (fun q => q rfl) (Or.inr (by omega))).si (fun q => q rfl) (Or.inr (by omega)), gI_sI_s _ _ _ _⟩, fun n h => ?_⟩
        · unfold f_X8_takesNumber
          rw [pbind_of (isDigitM hz), hd, if_neg bt, hone z hz]
          refine (whileO_inl (s' := ((2 : Int32), sI (sI (sI (sI (sI z 82 16 (0 : Int32)) 82 16 (nI d)) 82 15 (nI (a + 1))) 82 16 (nI (d * 10 + e))) 82 15 (nI (a + 2)))) ?_).trans (whileO_inr ?_)
          · show f_X8_takesNumber_L16 1 _ = _
            unfold f_X8_takesNumber_L16
            rw [if_neg (by decide), pbind_of (isDigitM hzz), he, if_neg bt, pbind_of (nextM hzz), gI_sI_k (show 16 ≠ 15 by decide), gI_sI_s, hee]
            have e3 : (10 : Int32) * nI d + nI (48 + e) - (48 : Int32) = nI (d * 10 + e) := by
              rw [show (10 : Int32) = nI 10 from rfl, nI_mul, nI_add, show 10 * d + (48 + e) = 48 + (d * 10 + e) by omega, e48 _ (by omega)]
            rw [e3, gI_sI_k (show 15 ≠ 16 by decide), gI_sI_s, nI_1]
            rfl
          · show f_X8_takesNumber_L16 2 _ = _
            unfold f_X8_takesNumber_L16
            rw [if_pos (by decide)]
            rfl
        · cases h
          rw [gI_sI_k (by decide), gI_sI_s]
/-! words: a row of signs, then both stand behind what fits -/
def mt (T : Nat → Nat) (m : Nat) : List Nat → Nat → Nat
  | [], a => a
  | c :: r, a => if nx T m a = nI c then mt T m r (a + 1) else a
def mtOk (T : Nat → Nat) (m : Nat) : List Nat → Nat → Bool
  | [], _ => true
  | c :: r, a => if nx T m a = nI c then mtOk T m r (a + 1) else false
theorem mt_le {T : Nat → Nat} {m : Nat} : ∀ (r : List Nat) (a : Nat), (∀ c ∈ r, c < 128) → a ≤ m → a ≤ mt T m r a ∧ mt T m r a ≤ m ∧ (mtOk T m r a = true → mt T m r a = a + r.length)
  | [], a, _, h => ⟨Nat.le_refl _, h, fun _ => rfl⟩
  | c :: r, a, hc, h => by
    unfold mt mtOk
    by_cases q : nx T m a = nI c
    · rw [if_pos q, if_pos q]
      have h1 := nx_nn q (by have := hc c List.mem_cons_self; omega)
      obtain ⟨h2, h3, h4⟩ := mt_le r (a + 1) (fun c hc' => hc c (List.mem_cons_of_mem _ hc')) h1
      refine ⟨by omega, h3, fun z => ?_⟩
      rw [h4 z, List.length_cons]
      omega
    · rw [if_neg q, if_neg q]
      exact ⟨Nat.le_refl _, h, fun z => by cases z⟩
theorem char_dec : ∀ i, i < 3 → ∀ k, k < 5 → f_J0_charAt_5068e i (nI k) = some (nI (([[119, 97, 114, 109, 32], [108, 111, 112, 101, 32], [104, 97, 109, 101, 32]] : List (List Nat)).getD i [] |>.getD k 0)) := by decide +kernel
theorem skipWordC {T : Nat → Nat} {m i : Nat} (hi : i < 3) : ∀ (R : List Nat) (k a : Nat) (v : Mem) (n : Nat), (([[119, 97, 114, 109, 32], [108, 111, 112, 101, 32], [104, 97, 109, 101, 32]] : List (List Nat)).getD i []).drop k = R → k + R.length = 5 → R.length < n → TV T m a v →
    ∃ v', whileO (fun s => f_X3_skipWord_L2 i s.1 s.2) n (nI k, v) = some (bI (mtOk T m R a), v') ∧ LV v v' (mt T m R a) := by
  intro R
  have hlen : f_J0_length_8abf5 i = some (5 : Int32) := by
    have h : i = 0 ∨ i = 1 ∨ i = 2 := by omega
    rcases h with rfl | rfl | rfl <;> rfl
  induction R with
  | nil =>
    intro k a v n hd hk hn hv
    obtain ⟨n, rfl⟩ := Nat.exists_eq_succ_of_ne_zero (by omega : n ≠ 0)
    refine ⟨v, whileO_inr ?_, LV.rf hv⟩
    show f_X3_skipWord_L2 i (nI k) v = _
    unfold f_X3_skipWord_L2
    have : k = 5 := by simpa using hk
    rw [pbind_of hlen, this, if_pos (by decide)]
    rfl
  | cons c R ih =>
    intro k a v n hd hk hn hv
    rw [List.length_cons] at hk hn
    obtain ⟨n, rfl⟩ := Nat.exists_eq_succ_of_ne_zero (by omega : n ≠ 0)
    obtain ⟨d1, d2, d3⟩ := drop_cons hd 0
    have hc : c < 128 := by
      have h : ∀ i, i < 3 → ∀ k, k < 5 → (([[119, 97, 114, 109, 32], [108, 111, 112, 101, 32], [104, 97, 109, 101, 32]] : List (List Nat)).getD i []).getD k 0 < 128 := by decide
      have := h i hi k (by omega)
      rwa [d2] at this
    have hch := char_dec i hi k (by omega)
    rw [d2] at hch
    unfold mt mtOk
    have hst : f_X3_skipWord_L2 i (nI k) v = if nx T m a = nI c then some (.inl (nI (k + 1), sI v 63 2 (nI (a + 1)))) else some (.inr (0, v)) := by
      unfold f_X3_skipWord_L2
      rw [pbind_of hlen, if_neg (by (simp (disch := omega) only [le_I, lt_I, eq_I, nI_toInt, Int32.reduceToInt, ne_eq] <;> omega)), pbind_of hch, skipC hv]
      by_cases q : nx T m a = nI c
      · rw [if_pos q, if_pos q]
        rw [obind_some, if_neg (show ¬ (1 : Int32) = 0 by decide), nI_1]
      · rw [if_neg q, if_neg q]
        rfl
    by_cases q : nx T m a = nI c
    · rw [if_pos q] at hst
      rw [if_pos q, if_pos q]
      have ham := nx_nn q (by omega)
      obtain ⟨v', h1, h2⟩ := ih (k + 1) (a + 1) (sI v 63 2 (nI (a + 1))) n d3 (by omega) (by omega) (hv.lv (LV.go v (a + 1)) ham)
      exact ⟨v', (whileO_inl hst).trans h1, (LV.go v (a + 1)).trans h2⟩
    · rw [if_neg q] at hst
      rw [if_neg q, if_neg q]
      exact ⟨v, whileO_inr hst, LV.rf hv⟩
theorem takesWordM {T : Nat → Nat} {m p N : Nat} {W : List Nat} (hW : W.length = N) (hpN : p + N ≤ 14) (hl : ∀ k, k < N → letM (p + k) = nI (W.getD k 0)) (hc : ∀ c ∈ W, c < 128) : ∀ (R : List Nat) (k a : Nat) (v : Mem) (n : Nat), W.drop k = R → k + R.length = N → R.length < n → (∀ i, i < 14 → gA v 98 i = letM i) → TZ T m a v →
    ∃ v', whileO (fun s => f_X8_takesWord_L2 (nI N) (nI p) s.1 s.2) n (nI k, v) = some (bI (mtOk T m (R ++ [32]) a), v') ∧ LX v v' (mt T m (R ++ [32]) a) := by
  intro R
  induction R with
  | nil =>
    intro k a v n hd hk hn h98 hv
    obtain ⟨n, rfl⟩ := Nat.exists_eq_succ_of_ne_zero (by omega : n ≠ 0)
    have : k = N := by simpa using hk
    show ∃ v', _ = some (bI (if nx T m a = nI 32 then true else false), v') ∧ LX v v' (if nx T m a = nI 32 then a + 1 else a)
    have hst : f_X8_takesWord_L2 (nI N) (nI p) (nI k) v = if nx T m a = nI 32 then some (.inr (1, sI v 82 15 (nI (a + 1)))) else some (.inr (0, v)) := by
      unfold f_X8_takesWord_L2
      rw [if_pos (by (simp (disch := omega) only [le_I, lt_I, eq_I, nI_toInt, Int32.reduceToInt, ne_eq] <;> omega)), takesM hv]
      by_cases q : nx T m a = 32
      · rw [if_pos q, if_pos (show nx T m a = nI 32 from q)]
        exact gbo_1
      · rw [if_neg q, if_neg (show ¬ nx T m a = nI 32 from q)]
        exact gbo_0
    by_cases q : nx T m a = nI 32
    · rw [if_pos q] at hst ⊢
      rw [if_pos q]
      exact ⟨_, whileO_inr hst, LX.go v (a + 1)⟩
    · rw [if_neg q] at hst ⊢
      rw [if_neg q]
      exact ⟨_, whileO_inr hst, LX.rf hv⟩
  | cons c R ih =>
    intro k a v n hd hk hn h98 hv
    rw [List.length_cons] at hk hn
    obtain ⟨n, rfl⟩ := Nat.exists_eq_succ_of_ne_zero (by omega : n ≠ 0)
    obtain ⟨d1, d2, d3⟩ := drop_cons hd 0
    have hcm : c ∈ W := by
      rw [← d2, List.getD_eq_getElem?_getD, List.getElem?_eq_getElem d1]
      exact List.getElem_mem d1
    have hc128 := hc c hcm
    show ∃ v', _ = some (bI (if nx T m a = nI c then mtOk T m (R ++ [32]) (a + 1) else false), v') ∧ LX v v' (if nx T m a = nI c then mt T m (R ++ [32]) (a + 1) else a)
    have hst : f_X8_takesWord_L2 (nI N) (nI p) (nI k) v = if nx T m a = nI c then some (.inl (nI (k + 1), sI v 82 15 (nI (a + 1)))) else some (.inr (0, v)) := by
      unfold f_X8_takesWord_L2
      rw [if_neg (by (simp (disch := omega) only [le_I, lt_I, eq_I, nI_toInt, Int32.reduceToInt, ne_eq] <;> omega)), nI_add, gin_nI (by omega) (by decide), nI_clamp (by omega), h98 _ (by omega), hl k (by omega), d2, takesM hv]
      by_cases q : nx T m a = nI c
      · rw [if_pos q, if_pos q]
        rw [obind_some, if_neg (show ¬ (1 : Int32) = 0 by decide), nI_1]
      · rw [if_neg q, if_neg q]
        rfl
    by_cases q : nx T m a = nI c
    · rw [if_pos q] at hst
      rw [if_pos q, if_pos q]
      have ham := nx_nn q (by omega)
      obtain ⟨v', h1, h2⟩ := ih (k + 1) (a + 1) (sI v 82 15 (nI (a + 1))) n d3 (by omega) (by omega) h98 (hv.lx (LX.go v (a + 1)) ham)
      exact ⟨v', (whileO_inl hst).trans h1, (LX.go v (a + 1)).trans h2⟩
    · rw [if_neg q] at hst
      rw [if_neg q, if_neg q]
      exact ⟨v, whileO_inr hst, LX.rf hv⟩
