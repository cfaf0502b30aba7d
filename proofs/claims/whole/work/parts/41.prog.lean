/-! PROGRAMS: tokens in postfix. A token: 1000*f + 100*s + n a test, 10001 and, 10002 or, 10003 not; in a list of steps 20000 + 100*w + n an end. -/
def tkT (k : Nat) (lt : Nat → Int32) : Bool := if k / 100 % 10 = 0 then decide (lt (k / 1000) < nI (k % 100)) else if k / 100 % 10 = 1 then decide (lt (k / 1000) = nI (k % 100)) else decide (nI (k % 100) < lt (k / 1000))
def tkS (lt : Nat → Int32) (st : List Bool) (k : Nat) : List Bool :=
  if k = 10003 then (match st with
    | b :: r => (!b) :: r
    | [] => [])
  else if k = 10001 then (match st with
    | b :: a :: r => (a && b) :: r
    | r => r)
  else if k = 10002 then (match st with
    | b :: a :: r => (a || b) :: r
    | r => r)
  else tkT k lt :: st
def tkG : List Nat → Nat → Bool
  | [], d => d == 1
  | k :: r, d => if k = 10003 then decide (1 ≤ d) && tkG r d else if k = 10001 ∨ k = 10002 then decide (2 ≤ d) && tkG r (d - 1) else (decide (k < 6000) && decide (k / 100 % 10 < 3) && decide (d < 24)) && tkG r (d + 1)
def pgW (lt : Nat → Int32) (pg : List (Nat × Nat × List Nat)) : Int32 :=
  pg.foldl (fun s c => if c.1 = 2 then s else if (c.2.2.foldl (tkS lt) []).headD false = true then (if c.1 = 0 then s + nI c.2.1 else s - nI c.2.1) else s) 0
def pgS (pg : List (Nat × Nat × List Nat)) : Nat := pg.foldl (fun n c => if c.1 = 2 then c.2.1 else n) 5
def pgOK (pg : List (Nat × Nat × List Nat)) : Prop := ∀ c ∈ pg, c.1 ≤ 2 ∧ c.2.1 < 100 ∧ (c.1 ≠ 2 → tkG c.2.2 0 = true)
/-! the class' code of a list of steps -/
def iC (k : Nat) : Nat := if 20000 ≤ k then (9 + (k - 20000) / 100) * 65536 + k % 100 else if k = 10003 then 8 * 65536 else if k = 10001 then 6 * 65536 else if k = 10002 then 7 * 65536 else k / 1000 * 65536 + (60 + k / 100 % 10) * 256 + k % 100
def iS (pg : List (Nat × Nat × List Nat)) : List Nat := pg.flatMap fun c => if c.1 = 2 then [] else c.2.2 ++ [20000 + 100 * c.1 + c.2.1]
def mS (lt : Nat → Int32) (q : Int32 × List Bool) (k : Nat) : Int32 × List Bool :=
  if 20000 ≤ k then (if q.2.headD false = true then (if (k - 20000) / 100 = 0 then q.1 + nI (k % 100) else q.1 - nI (k % 100)) else q.1, []) else (q.1, tkS lt q.2 k)
/-- steps that are good from depth d on -/
def iG : List Nat → Nat → Bool
  | [], d => d == 0
  | k :: r, d => if 20000 ≤ k then decide (k < 20200) && decide (d = 1) && iG r 0 else if k = 10003 then decide (1 ≤ d) && iG r d else if k = 10001 ∨ k = 10002 then decide (2 ≤ d) && iG r (d - 1) else (decide (k < 6000) && decide (k / 100 % 10 < 3) && decide (d < 24)) && iG r (d + 1)
/-! the stack as bits of an int -/
def EN (x : Int32) (r : List Bool) : Prop := ∀ i, i < 32 → x.toBitVec.getLsbD i = r.getD i false
theorem bx_ext {x y : Int32} (h : ∀ i, i < 32 → x.toBitVec.getLsbD i = y.toBitVec.getLsbD i) : x = y := Int32.toBitVec_inj.mp (BitVec.eq_of_getLsbD_eq (fun i hi => h i hi))
theorem bx_shl1 (x : Int32) {i : Nat} (hi : i < 32) : (x <<< ((1 : Int32) &&& 31)).toBitVec.getLsbD i = (decide (1 ≤ i) && x.toBitVec.getLsbD (i - 1)) := by
  rw [Int32.toBitVec_shiftLeft, show (((1 : Int32) &&& 31).toBitVec.smod 32) = 1#32 by decide, BitVec.shiftLeft_eq', show (1#32).toNat = 1 from rfl, BitVec.getLsbD_shiftLeft]
  by_cases h : i < 1
  · have : i = 0 := by omega
    subst this; simp
  · simp [hi, h, Nat.not_lt.mp h]
theorem bx_shr1 (x : Int32) {i : Nat} (hi : i < 31) : (x >>> ((1 : Int32) &&& 31)).toBitVec.getLsbD i = x.toBitVec.getLsbD (i + 1) := by
  rw [Int32.toBitVec_shiftRight, show (((1 : Int32) &&& 31).toBitVec.smod 32) = 1#32 by decide, BitVec.sshiftRight_eq', show (1#32).toNat = 1 from rfl, BitVec.getLsbD_sshiftRight]
  have h1 : ¬ 32 ≤ i := by omega
  have h2 : 1 + i < 32 := by omega
  simp [h1, h2, Nat.add_comm]
  intro h
  omega
theorem bx_shr1t (x : Int32) : (x >>> ((1 : Int32) &&& 31)).toBitVec.getLsbD 31 = x.toBitVec.getLsbD 31 := by
  rw [Int32.toBitVec_shiftRight, show (((1 : Int32) &&& 31).toBitVec.smod 32) = 1#32 by decide, BitVec.sshiftRight_eq', show (1#32).toNat = 1 from rfl, BitVec.getLsbD_sshiftRight]
  simp [BitVec.msb_eq_getLsbD_last]
theorem bx_1 : ∀ i, i < 32 → (1 : Int32).toBitVec.getLsbD i = decide (i = 0) := by decide +kernel
theorem bx_m2 : ∀ i, i < 32 → (-2 : Int32).toBitVec.getLsbD i = decide (i ≠ 0) := by decide +kernel
theorem bx_0 : ∀ i, i < 32 → (0 : Int32).toBitVec.getLsbD i = false := by decide +kernel
theorem EN_nil : EN 0 [] := fun i hi => by rw [bx_0 i hi]; rfl
theorem EN_push {x : Int32} {r : List Bool} (h : EN x r) {y : Int32} {b : Bool} (hy : y = if b = true then 1 else 0) : EN ((x <<< ((1 : Int32) &&& 31)) ||| y) (b :: r) := by
  intro i hi
  rw [Int32.toBitVec_or, BitVec.getLsbD_or, bx_shl1 x hi]
  cases i with
  | zero =>
    subst hy
    cases b
    · simp [bx_0 0 hi]
    · simp [bx_1 0 hi]
  | succ i =>
    have : y.toBitVec.getLsbD (i + 1) = false := by
      subst hy
      cases b
      · simp [bx_0 (i + 1) hi]
      · simp [bx_1 (i + 1) hi]
    rw [this, h (i + 1 - 1) (by omega)]
    simp
theorem EN_top {x : Int32} {r : List Bool} (h : EN x r) : x &&& (1 : Int32) = if r.headD false = true then 1 else 0 := by
  refine bx_ext fun i hi => ?_
  rw [Int32.toBitVec_and, BitVec.getLsbD_and, h i hi, bx_1 i hi]
  cases i with
  | zero =>
    cases r with
    | nil => simp
    | cons b r => cases b <;> simp
  | succ i =>
    split
    · rw [bx_1 _ hi]; simp
    · rw [bx_0 _ hi]; simp
theorem EN_not {x : Int32} {b : Bool} {r : List Bool} (h : EN x (b :: r)) : EN (x ^^^ (1 : Int32)) ((!b) :: r) := by
  intro i hi
  rw [Int32.toBitVec_xor, BitVec.getLsbD_xor, h i hi, bx_1 i hi]
  cases i with
  | zero => simp
  | succ i => simp
theorem EN_and {x : Int32} {a b : Bool} {r : List Bool} (hr : r.length < 29) (h : EN x (b :: a :: r)) : EN ((x >>> ((1 : Int32) &&& 31)) &&& (x ||| (-2 : Int32))) ((a && b) :: r) := by
  intro i hi
  rw [Int32.toBitVec_and, BitVec.getLsbD_and, Int32.toBitVec_or, BitVec.getLsbD_or, bx_m2 i hi, h i hi]
  by_cases h31 : i < 31
  · rw [bx_shr1 x h31, h (i + 1) (by omega)]
    cases i with
    | zero => simp
    | succ i => simp
  · have : i = 31 := by omega
    subst this
    rw [bx_shr1t, h 31 (by omega)]
    simp [List.getElem?_eq_none (show r.length ≤ 29 by omega), List.getElem?_eq_none (show r.length ≤ 30 by omega)]
theorem EN_or {x : Int32} {a b : Bool} {r : List Bool} (hr : r.length < 29) (h : EN x (b :: a :: r)) : EN ((x >>> ((1 : Int32) &&& 31)) ||| (x &&& (1 : Int32))) ((a || b) :: r) := by
  intro i hi
  rw [Int32.toBitVec_or, BitVec.getLsbD_or, Int32.toBitVec_and, BitVec.getLsbD_and, bx_1 i hi, h i hi]
  by_cases h31 : i < 31
  · rw [bx_shr1 x h31, h (i + 1) (by omega)]
    cases i with
    | zero => simp
    | succ i => simp
  · have : i = 31 := by omega
    subst this
    rw [bx_shr1t, h 31 (by omega)]
    simp [List.getElem?_eq_none (show r.length ≤ 29 by omega), List.getElem?_eq_none (show r.length ≤ 30 by omega)]
/-! codes, read -/
theorem cd_test : ∀ f, f < 6 → ∀ s, s < 3 → ∀ n, n < 100 → (nI (f * 65536 + (60 + s) * 256 + n) >>> ((16 : Int32) &&& 31) = nI f ∧ (nI (f * 65536 + (60 + s) * 256 + n) >>> ((8 : Int32) &&& 31)) &&& (255 : Int32) = nI (60 + s) ∧ nI (f * 65536 + (60 + s) * 256 + n) &&& (255 : Int32) = nI n) := by decide +kernel
theorem cd_end : ∀ w, w < 2 → ∀ n, n < 100 → (nI ((9 + w) * 65536 + n) >>> ((16 : Int32) &&& 31) = nI (9 + w) ∧ nI ((9 + w) * 65536 + n) &&& (255 : Int32) = nI n) := by decide +kernel
theorem cd_op : ∀ w, w < 3 → nI ((6 + w) * 65536) >>> ((16 : Int32) &&& 31) = nI (6 + w) := by decide +kernel

theorem bitOfTest_eq {u : Mem} {p1 : Nat} {lt : Nat → Int32} (hlt : ∀ i, i < 6 → gA u p1 i = lt i) {k : Nat} (h6 : k < 6000) (h3 : k / 100 % 10 < 3) : f_X0_bitOfTest (nI (k / 1000 * 65536 + (60 + k / 100 % 10) * 256 + k % 100)) p1 u = some (if tkT k lt = true then 1 else 0) := by
  obtain ⟨c1, c2, c3⟩ := cd_test (k / 1000) (by omega) (k / 100 % 10) h3 (k % 100) (Nat.mod_lt _ (by decide))
  have hf : k / 1000 < 6 := by omega
  have h9 : k % 100 < 100 := Nat.mod_lt _ (by decide)
  unfold f_X0_bitOfTest tkT
  rw [c1, c2, c3]
  generalize k / 1000 = f at *
  generalize k / 100 % 10 = s at *
  generalize k % 100 = n at *
  rw [if_neg (by (simp (disch := omega) only [le_I, lt_I, eq_I, nI_toInt, Int32.reduceToInt, ne_eq] <;> omega)), if_pos (by (simp (disch := omega) only [le_I, lt_I, eq_I, nI_toInt, Int32.reduceToInt, ne_eq] <;> omega)), gin_nI hf (by decide), nI_clamp (by omega), hlt f hf]
  have hs : s = 0 ∨ s = 1 ∨ s = 2 := by omega
  rcases hs with rfl | rfl | rfl
  · have hl : (lt f < nI n) ↔ ¬ nI n ≤ lt f := by (simp (disch := omega) only [le_I, lt_I, eq_I, nI_toInt, Int32.reduceToInt, ne_eq] <;> omega)
    rw [if_pos (by decide)]
    by_cases h : nI n ≤ lt f <;> simp [h, hl]
  · rw [if_neg (by decide), if_neg (by decide)]
    by_cases h : lt f = nI n <;> simp [h]
  · have hl : (nI n < lt f) ↔ ¬ lt f ≤ nI n := by (simp (disch := omega) only [le_I, lt_I, eq_I, nI_toInt, Int32.reduceToInt, ne_eq] <;> omega)
    rw [if_neg (by decide), if_pos (by decide)]
    by_cases h : lt f ≤ nI n <;> simp [h, hl]
theorem mS_end {lt : Nat → Int32} {q : Int32 × List Bool} {k : Nat} (h : 20000 ≤ k) : mS lt q k = (if q.2.headD false = true then (if (k - 20000) / 100 = 0 then q.1 + nI (k % 100) else q.1 - nI (k % 100)) else q.1, []) := if_pos h
theorem mS_tk {lt : Nat → Int32} {q : Int32 × List Bool} {k : Nat} (h : ¬ 20000 ≤ k) : mS lt q k = (q.1, tkS lt q.2 k) := if_neg h
theorem warm_step {u : Mem} {b p1 : Nat} {lt : Nat → Int32} {N i k : Nat} {s bits : Int32} {st : List Bool} {R : List Nat} (hlt : ∀ i, i < 6 → gA u p1 i = lt i) (hN : N ≤ 100) (hsz : gI u b 1 = nI N) (hi : i < N) (hk : gA u (b + 1) i = nI (iC k)) (hE : EN bits st) (hG : iG (k :: R) st.length = true) (hd : st.length ≤ 24) :
    ∃ bits', f_X0_warmth_L7 u b p1 s bits (nI i) = some (.inl ((mS lt (s, st) k).1, (bits', nI (i + 1)))) ∧ EN bits' (mS lt (s, st) k).2 ∧ iG R (mS lt (s, st) k).2.length = true ∧ (mS lt (s, st) k).2.length ≤ 24 := by
  unfold f_X0_warmth_L7
  rw [hsz, if_neg (by (simp (disch := omega) only [le_I, lt_I, eq_I, nI_toInt, Int32.reduceToInt, ne_eq] <;> omega)), gin_nI (by omega) (by decide), gin_nI (by omega) (by decide), gin_nI (by omega) (by decide), nI_clamp (by omega), hk, nI_1]
  unfold iG at hG
  by_cases h1 : 20000 ≤ k
  · rw [if_pos h1] at hG
    simp only [Bool.and_eq_true, decide_eq_true_eq] at hG
    obtain ⟨⟨h2, h3⟩, h4⟩ := hG
    obtain ⟨c1, c2⟩ := cd_end ((k - 20000) / 100) (by omega) (k % 100) (Nat.mod_lt _ (by decide))
    have hc : iC k = (9 + (k - 20000) / 100) * 65536 + k % 100 := if_pos h1
    rw [hc, c1, c2, mS_end h1, EN_top hE]
    refine ⟨0, ?_, EN_nil, h4, Nat.zero_le _⟩
    generalize hw : (k - 20000) / 100 = w
    have hw2 : w = 0 ∨ w = 1 := by omega
    rcases hw2 with rfl | rfl
    · rw [if_neg (by decide), if_neg (by decide), if_neg (by decide), if_pos (by decide), if_pos rfl]
      show some (Sum.inl (_, _)) = some (Sum.inl (_, _))
      split <;> simp
    · rw [if_neg (by decide), if_neg (by decide), if_neg (by decide), if_neg (by decide), if_pos (by decide), if_neg (show ¬ (1 : Nat) = 0 by decide)]
      show some (Sum.inl (_, _)) = some (Sum.inl (_, _))
      split <;> simp
  · rw [if_neg h1] at hG
    rw [mS_tk h1]
    by_cases h2 : k = 10003
    · rw [if_pos h2] at hG
      simp only [Bool.and_eq_true, decide_eq_true_eq] at hG
      subst h2
      have hc : iC 10003 = (6 + 2) * 65536 := rfl
      rw [hc, cd_op 2 (by decide), if_neg (by decide), if_neg (by decide), if_pos (by decide)]
      match st, hE, hG, hd with
      | [], hE, hG, hd => exact absurd hG.1 (by decide)
      | b :: r, hE, hG, hd => exact ⟨_, rfl, EN_not hE, hG.2, hd⟩
    · rw [if_neg h2] at hG
      by_cases h3 : k = 10001 ∨ k = 10002
      · rw [if_pos h3] at hG
        simp only [Bool.and_eq_true, decide_eq_true_eq] at hG
        match st, hE, hG, hd with
        | [], hE, hG, hd => exact absurd hG.1 (by decide)
        | [b], hE, hG, hd => exact absurd hG.1 (by simp)
        | b :: a :: r, hE, hG, hd =>
          simp only [List.length_cons] at hd hG
          rcases h3 with rfl | rfl
          · have hc : iC 10001 = (6 + 0) * 65536 := rfl
            rw [hc, cd_op 0 (by decide), if_pos (by decide)]
            exact ⟨_, rfl, EN_and (by omega) hE, hG.2, by show r.length + 1 ≤ 24; omega⟩
          · have hc : iC 10002 = (6 + 1) * 65536 := rfl
            rw [hc, cd_op 1 (by decide), if_neg (by decide), if_pos (by decide)]
            exact ⟨_, rfl, EN_or (by omega) hE, hG.2, by show r.length + 1 ≤ 24; omega⟩
      · rw [if_neg h3] at hG
        simp only [Bool.and_eq_true, decide_eq_true_eq] at hG
        obtain ⟨⟨⟨h4, h5⟩, h6⟩, h7⟩ := hG
        have hc : iC k = k / 1000 * 65536 + (60 + k / 100 % 10) * 256 + k % 100 := by
          unfold iC
          rw [if_neg h1, if_neg h2, if_neg (fun q => h3 (Or.inl q)), if_neg (fun q => h3 (Or.inr q))]
        have hf : k / 1000 < 6 := by omega
        obtain ⟨c1, -, -⟩ := cd_test (k / 1000) (by omega) (k / 100 % 10) h5 (k % 100) (Nat.mod_lt _ (by decide))
        have ht : tkS lt st k = tkT k lt :: st := by
          unfold tkS
          rw [if_neg h2, if_neg (fun q => h3 (Or.inl q)), if_neg (fun q => h3 (Or.inr q))]
        have hb := bitOfTest_eq hlt h4 h5
        rw [hc, c1, pbind_of hb]
        generalize k / 1000 = f at hf
        rw [if_neg (by (simp (disch := omega) only [le_I, lt_I, eq_I, nI_toInt, Int32.reduceToInt, ne_eq] <;> omega)), if_neg (by (simp (disch := omega) only [le_I, lt_I, eq_I, nI_toInt, Int32.reduceToInt, ne_eq] <;> omega)), if_neg (by (simp (disch := omega) only [le_I, lt_I, eq_I, nI_toInt, Int32.reduceToInt, ne_eq] <;> omega)), if_neg (by (simp (disch := omega) only [le_I, lt_I, eq_I, nI_toInt, Int32.reduceToInt, ne_eq] <;> omega)), if_neg (by (simp (disch := omega) only [le_I, lt_I, eq_I, nI_toInt, Int32.reduceToInt, ne_eq] <;> omega))]
        show ∃ bits', _ ∧ EN bits' (tkS lt st k) ∧ iG R (tkS lt st k).length = true ∧ (tkS lt st k).length ≤ 24
        rw [ht]
        exact ⟨_, rfl, EN_push hE rfl, h7, h6⟩
theorem warm_go {u : Mem} {b p1 N : Nat} {lt : Nat → Int32} {L : List Nat} (hlt : ∀ i, i < 6 → gA u p1 i = lt i) (hN : N ≤ 100) (hL : L.length = N) (hsz : gI u b 1 = nI N) (hcode : ∀ i, i < N → gA u (b + 1) i = nI (iC (L.getD i 0))) :
    ∀ (R : List Nat) (i : Nat) (s bits : Int32) (st : List Bool) (n : Nat), L.drop i = R → i + R.length = N → R.length < n → EN bits st → iG R st.length = true → st.length ≤ 24 →
      whileO (fun s => f_X0_warmth_L7 u b p1 s.1 s.2.1 s.2.2) n (s, (bits, nI i)) = some (R.foldl (mS lt) (s, st)).1 := by
  intro R
  induction R with
  | nil =>
    intro i s bits st n hd hi hn hE hG h24
    obtain ⟨n, rfl⟩ := Nat.exists_eq_succ_of_ne_zero (by omega : n ≠ 0)
    refine whileO_inr ?_
    show f_X0_warmth_L7 u b p1 s bits (nI i) = _
    unfold f_X0_warmth_L7
    have hi' : i = N := hi
    subst hi'
    rw [hsz, if_pos (by (simp (disch := omega) only [le_I, lt_I, eq_I, nI_toInt, Int32.reduceToInt, ne_eq] <;> omega))]
    rfl
  | cons k R ih =>
    intro i s bits st n hd hi hn hE hG h24
    rw [List.length_cons] at hi hn
    obtain ⟨n, rfl⟩ := Nat.exists_eq_succ_of_ne_zero (by omega : n ≠ 0)
    have hiN : i < N := by omega
    have h2 : L[i]'(by omega) = k ∧ L.drop (i + 1) = R := by
      rw [List.drop_eq_getElem_cons (by omega)] at hd
      exact ⟨(List.cons.inj hd).1, (List.cons.inj hd).2⟩
    have hk : gA u (b + 1) i = nI (iC k) := by
      rw [hcode i hiN, List.getD_eq_getElem?_getD, List.getElem?_eq_getElem (by omega), h2.1]
      rfl
    obtain ⟨bits', w1, w2, w3, w4⟩ := warm_step (s := s) hlt hN hsz hiN hk hE hG h24
    refine (whileO_inl w1).trans ?_
    exact ih (i + 1) _ bits' _ n h2.2 (by omega) (by omega) w2 w3 w4
/-- what a Branch holds -/
def PC (u : Mem) (b : Nat) (pg : List (Nat × Nat × List Nat)) : Prop := (iS pg).length ≤ 100 ∧ gI u b 1 = nI (iS pg).length ∧ gI u b 2 = nI (pgS pg) ∧ ∀ i, i < (iS pg).length → gA u (b + 1) i = nI (iC ((iS pg).getD i 0))
theorem tkG_iG : ∀ (ks : List Nat) (d : Nat) (e : Nat) (R : List Nat), e < 200 → tkG ks d = true → iG R 0 = true → iG (ks ++ (20000 + e) :: R) d = true := by
  intro ks
  induction ks with
  | nil =>
    intro d e R he h hR
    simp [tkG] at h
    simp [iG, h, hR]
    omega
  | cons k ks ih =>
    intro d e R he h hR
    unfold tkG at h
    rw [List.cons_append]
    unfold iG
    by_cases h2 : k = 10003
    · subst h2
      simp only [if_true, Bool.and_eq_true, decide_eq_true_eq] at h ⊢
      rw [if_neg (by decide)]
      simp only [Bool.and_eq_true, decide_eq_true_eq]
      exact ⟨h.1, ih _ _ _ he h.2 hR⟩
    · rw [if_neg h2] at h
      by_cases h3 : k = 10001 ∨ k = 10002
      · rw [if_pos h3] at h
        rw [if_neg (by omega), if_neg h2, if_pos h3]
        simp only [Bool.and_eq_true, decide_eq_true_eq] at h ⊢
        exact ⟨h.1, ih _ _ _ he h.2 hR⟩
      · rw [if_neg h3] at h
        simp only [Bool.and_eq_true, decide_eq_true_eq] at h
        rw [if_neg (by omega), if_neg h2, if_neg h3]
        simp only [Bool.and_eq_true, decide_eq_true_eq]
        exact ⟨h.1, ih _ _ _ he h.2 hR⟩
theorem mS_tks {lt : Nat → Int32} : ∀ (ks : List Nat) (d : Nat) (s : Int32) (st : List Bool), tkG ks d = true → ks.foldl (mS lt) (s, st) = (s, ks.foldl (tkS lt) st) := by
  intro ks
  induction ks with
  | nil => intro d s st h; rfl
  | cons k ks ih =>
    intro d s st h
    unfold tkG at h
    rw [List.foldl_cons, List.foldl_cons]
    have hk : ¬ 20000 ≤ k := by
      intro q
      rw [if_neg (by omega), if_neg (by omega)] at h
      simp only [Bool.and_eq_true, decide_eq_true_eq] at h
      omega
    rw [mS_tk hk]
    by_cases h2 : k = 10003
    · rw [if_pos h2] at h
      simp only [Bool.and_eq_true, decide_eq_true_eq] at h
      exact ih _ _ _ h.2
    · rw [if_neg h2] at h
      by_cases h3 : k = 10001 ∨ k = 10002
      · rw [if_pos h3] at h
        simp only [Bool.and_eq_true, decide_eq_true_eq] at h
        exact ih _ _ _ h.2
      · rw [if_neg h3] at h
        simp only [Bool.and_eq_true, decide_eq_true_eq] at h
        exact ih _ _ _ h.2
theorem iS_good : ∀ pg, pgOK pg → iG (iS pg) 0 = true := by
  intro pg
  induction pg with
  | nil => intro _; rfl
  | cons c pg ih =>
    intro h
    have hc := h c List.mem_cons_self
    have hr : iG (iS pg) 0 = true := ih fun c hc => h c (List.mem_cons_of_mem _ hc)
    show iG ((if c.1 = 2 then [] else c.2.2 ++ [20000 + 100 * c.1 + c.2.1]) ++ iS pg) 0 = true
    by_cases h2 : c.1 = 2
    · rw [if_pos h2]; exact hr
    · rw [if_neg h2, List.append_assoc, Nat.add_assoc]
      exact tkG_iG _ _ _ _ (by omega) (hc.2.2 h2) hr
theorem iS_run {lt : Nat → Int32} : ∀ pg, pgOK pg → ∀ s : Int32, ((iS pg).foldl (mS lt) (s, [])).1 = pg.foldl (fun s c => if c.1 = 2 then s else if (c.2.2.foldl (tkS lt) []).headD false = true then (if c.1 = 0 then s + nI c.2.1 else s - nI c.2.1) else s) s := by
  intro pg
  induction pg with
  | nil => intro _ s; rfl
  | cons c pg ih =>
    intro h s
    have hc := h c List.mem_cons_self
    have hr := ih fun c hc => h c (List.mem_cons_of_mem _ hc)
    show (((if c.1 = 2 then [] else c.2.2 ++ [20000 + 100 * c.1 + c.2.1]) ++ iS pg).foldl (mS lt) (s, [])).1 = _
    rw [List.foldl_cons, List.foldl_append]
    by_cases h2 : c.1 = 2
    · rw [if_pos h2, if_pos h2]; exact hr s
    · rw [if_neg h2, if_neg h2, List.foldl_append, mS_tks _ _ _ _ (hc.2.2 h2)]
      show ((iS pg).foldl (mS lt) (mS lt (s, c.2.2.foldl (tkS lt) []) (20000 + 100 * c.1 + c.2.1))).1 = _
      rw [mS_end (by omega)]
      rw [show (20000 + 100 * c.1 + c.2.1 - 20000) / 100 = c.1 by omega, show (20000 + 100 * c.1 + c.2.1) % 100 = c.2.1 by omega]
      exact hr _
theorem warmth_eq {u : Mem} {b p1 : Nat} {pg : List (Nat × Nat × List Nat)} (hP : PC u b pg) (hO : pgOK pg) {lt : Nat → Int32} (hlt : ∀ i, i < 6 → gA u p1 i = lt i) : f_X0_warmth b p1 u = some (pgW lt pg) := by
  have h := warm_go (L := iS pg) hlt hP.1 rfl hP.2.1 hP.2.2.2 (iS pg) 0 0 0 [] FUEL rfl (Nat.zero_add _) (by have := hP.1; show _ < 5000; omega) EN_nil (iS_good pg hO) (Nat.zero_le _)
  rw [iS_run pg hO] at h
  exact h
