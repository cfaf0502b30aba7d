/-! THE REFERENCE'S PROGRAMS -/
theorem nI_div {a b : Nat} (ha : a < 2 ^ 31) (hb : b < 2 ^ 31) : nI a / nI b = nI (a / b) := by
  have h1 : a / b ≤ a := Nat.div_le_self a b
  rw [eq_I, Int32.toInt_div, nI_toInt ha, nI_toInt hb, nI_toInt (by omega), Int.tdiv_eq_ediv_of_nonneg (by omega), ← Int.natCast_ediv]
  generalize a / b = q at h1 ⊢
  exact Int.bmod_eq_of_le (by omega) (by omega)
theorem nI_sub {a b : Nat} (ha : a < 2 ^ 31) (hb : b ≤ a) : nI a - nI b = nI (a - b) := by
  rw [eq_I, Int32.toInt_sub, nI_toInt ha, nI_toInt (by omega), nI_toInt (by omega)]
  rw [Int.bmod_eq_of_le (by omega) (by omega)]
  omega
theorem nI_rem {a b : Nat} (ha : a < 2 ^ 31) (hb : b < 2 ^ 31) : nI a - nI a / nI b * nI b = nI (a % b) := by
  have h1 : a / b * b ≤ a := Nat.div_mul_le_self a b
  rw [nI_div ha hb, nI_mul, nI_sub ha h1]
  congr 1
  have := Nat.div_add_mod' a b
  omega
theorem nI_m1 {a : Nat} (h0 : 0 < a) : nI a + (-1 : Int32) = nI (a - 1) := by
  obtain ⟨k, rfl⟩ := Nat.exists_eq_succ_of_ne_zero (by omega : a ≠ 0)
  rw [Nat.succ_eq_add_one, nI_succ, Nat.add_sub_cancel, Int32.add_assoc]
  exact Int32.add_zero _
theorem nI_s1 {a : Nat} (h0 : 0 < a) : nI a - (1 : Int32) = nI (a - 1) := by
  obtain ⟨k, rfl⟩ := Nat.exists_eq_succ_of_ne_zero (by omega : a ≠ 0)
  exact nI_pred k
theorem sAr_sAr (u : Mem) (a : Nat) (f g : Nat → Int32) : sAr (sAr u a f) a g = sAr u a g := by
  unfold sAr
  congr 3
  congr 1
  funext x
  unfold up1
  by_cases h : x = a <;> simp [h]
theorem sA_sAr (u : Mem) (a i : Nat) (x : Int32) (g : Nat → Int32) : sA (sAr u a g) a i x = sAr u a (upd g i x) := by
  unfold sA
  rw [sAr_sAr, gA_sAr, if_pos rfl]
theorem sAr_self (u : Mem) (a : Nat) : sAr u a (gA u a) = u := by
  unfold sAr gA
  congr 3
  congr 1
  funext x
  unfold up1
  by_cases h : x = a <;> simp [h]
theorem gA_sAr_s (u : Mem) (a : Nat) (f : Nat → Int32) : gA (sAr u a f) a = f := if_pos rfl
theorem gA_sAr_n {u : Mem} {a : Nat} {f : Nat → Int32} {b : Nat} (h : b ≠ a) : gA (sAr u a f) b = gA u b := if_neg h
def bI (b : Bool) : Int32 := if b = true then 1 else 0
theorem nar_0 : vp_nar .boolean (0 : Int32) = 0 := by decide
theorem nar_1 : vp_nar .boolean (1 : Int32) = 1 := by decide
/-- the pile as a stack -/
def ST (g : Nat → Int32) : List Bool → Prop
  | [] => True
  | b :: r => g r.length = bI b ∧ ST g r
theorem ST_upd {g : Nat → Int32} {x : Int32} {i : Nat} : ∀ {r : List Bool}, r.length ≤ i → ST g r → ST (upd g i x) r
  | [], _, _ => trivial
  | b :: r, h, hs => ⟨by
      rw [List.length_cons] at h
      show (if r.length = i then x else g r.length) = bI b
      rw [if_neg (by omega)]; exact hs.1, ST_upd (by rw [List.length_cons] at h; omega) hs.2⟩
theorem ST_push {g : Nat → Int32} {r : List Bool} {b : Bool} (h : ST g r) : ST (upd g r.length (bI b)) (b :: r) := ⟨if_pos rfl, ST_upd (Nat.le_refl _) h⟩
theorem ST_0 {g : Nat → Int32} {r : List Bool} (h : ST g r) : ST (upd g r.length 0) (false :: r) := ST_push (b := false) h
theorem ST_1 {g : Nat → Int32} {r : List Bool} (h : ST g r) : ST (upd g r.length 1) (true :: r) := ST_push (b := true) h
/-- what a test may ask for -/
def ltV (p k v t o m : Int32) (i : Nat) : Int32 := if i = 0 then p else if i = 1 then k else if i = 2 then v else if i = 3 then t else if i = 4 then o else m
def rm10 (x : Int32) : Int32 := x - x / (10 : Int32) * (10 : Int32)
theorem factOf_eq {u : Mem} {p t f : Nat} (hp : p < 6) (ht : t < 8) (hf : f < 6) : f_X8_factOf (nI f) (nI p) (nI t) u = some (ltV (nI p) (gA u 83 p) (gA u 84 p) (nI t) (gA u 88 t) (rm10 (gI u 82 4)) f) := by
  unfold f_X8_factOf ltV
  rw [gin_nI hp (by decide), gin_nI hp (by decide), gin_nI ht (by decide), nI_clamp (by omega), nI_clamp (by omega)]
  have h : f = 0 ∨ f = 1 ∨ f = 2 ∨ f = 3 ∨ f = 4 ∨ f = 5 := by omega
  rcases h with rfl | rfl | rfl | rfl | rfl | rfl <;> rfl
def sg (k : Nat) : Int32 := if k = 10003 then -33 else if k = 10001 then -38 else if k = 10002 then -124 else nI k
theorem holds_step {u : Mem} {g : Nat → Int32} {c p t a e i k : Nat} {st : List Bool} {R : List Nat} (hc : c < 60) (hp : p < 6) (ht : t < 8) (he : gA u 95 c = nI e) (hie : i < e) (he6 : e ≤ 600) (hk : gA u 96 i = sg k) (hS : ST g st) (hG : tkG (k :: R) st.length = true) (hd : st.length ≤ 24) :
    ∃ g', f_X8_holds_L11 (nI c) (nI p) (nI t) (nI st.length) (nI i) (sAr u 99 g) = some (.inl (nI (tkS (ltV (nI p) (gA u 83 p) (gA u 84 p) (nI t) (gA u 88 t) (rm10 (gI u 82 4))) st k).length, (nI (i + 1), sAr u 99 g'))) ∧ ST g' (tkS (ltV (nI p) (gA u 83 p) (gA u 84 p) (nI t) (gA u 88 t) (rm10 (gI u 82 4))) st k) ∧ tkG R (tkS (ltV (nI p) (gA u 83 p) (gA u 84 p) (nI t) (gA u 88 t) (rm10 (gI u 82 4))) st k).length = true ∧ (tkS (ltV (nI p) (gA u 83 p) (gA u 84 p) (nI t) (gA u 88 t) (rm10 (gI u 82 4))) st k).length ≤ 24 := by
  generalize hlt : ltV (nI p) (gA u 83 p) (gA u 84 p) (nI t) (gA u 88 t) (rm10 (gI u 82 4)) = lt
  have hfo : ∀ f, f < 6 → f_X8_factOf (nI f) (nI p) (nI t) (sAr u 99 g) = some (lt f) := by
    intro f hf
    rw [factOf_eq hp ht hf]
    simp only [gA_sAr_n (show 83 ≠ 99 by decide), gA_sAr_n (show 84 ≠ 99 by decide), gA_sAr_n (show 88 ≠ 99 by decide), gI_sAr]
    rw [hlt]
  unfold f_X8_holds_L11
  rw [gin_nI hc (by decide), nI_clamp (by omega), gA_sAr_n (show 95 ≠ 99 by decide), he, if_neg (by (simp (disch := omega) only [le_I, lt_I, eq_I, nI_toInt, Int32.reduceToInt, ne_eq] <;> omega)), gin_nI (by omega) (by decide), nI_clamp (by omega), gA_sAr_n (show 96 ≠ 99 by decide), hk, gA_sAr_s, nI_1]
  simp only [sA_sAr, nar_0, nar_1]
  unfold tkG at hG
  unfold sg tkS
  by_cases h2 : k = 10003
  · rw [if_pos h2] at hG
    simp only [Bool.and_eq_true, decide_eq_true_eq] at hG
    rw [if_pos h2, if_pos rfl, if_pos h2]
    match st, hS, hG, hd with
    | [], hS, hG, hd => exact absurd hG.1 (by simp)
    | b :: r, hS, hG, hd =>
      simp only [List.length_cons] at hG hd ⊢
      rw [nI_s1 (by omega), Nat.add_sub_cancel]
      simp only [gin_nI (show r.length < 100 by omega) (show 100 ≤ 2147483648 by decide)]
      rw [nI_clamp (by omega), hS.1]
      cases b
      · rw [if_pos (show bI false = 0 from rfl)]
        exact ⟨_, rfl, ST_1 hS.2, hG.2, hd⟩
      · rw [if_neg (show ¬ bI true = 0 by decide)]
        exact ⟨_, rfl, ST_0 hS.2, hG.2, hd⟩
  · rw [if_neg h2] at hG
    rw [if_neg h2, if_neg h2]
    by_cases h3 : k = 10001 ∨ k = 10002
    · rw [if_pos h3] at hG
      simp only [Bool.and_eq_true, decide_eq_true_eq] at hG
      match st, hS, hG, hd with
      | [], hS, hG, hd => exact absurd hG.1 (by simp)
      | [b], hS, hG, hd => exact absurd hG.1 (by simp)
      | b :: a :: r, hS, hG, hd =>
        simp only [List.length_cons] at hd hG
        have hb := hS.1
        rw [List.length_cons] at hb
        have ha := hS.2.1
        rcases h3 with rfl | rfl
        · rw [if_pos rfl, if_neg (by decide), if_neg (by decide), if_pos rfl, if_pos rfl]
          simp only [List.length_cons]
          rw [nI_m1 (by omega), Nat.add_sub_cancel, nI_s1 (by omega), Nat.add_sub_cancel]
          simp only [gin_nI (show r.length < 100 by omega) (show 100 ≤ 2147483648 by decide), gin_nI (show r.length + 1 < 100 by omega) (show 100 ≤ 2147483648 by decide)]
          rw [nI_clamp (by omega), nI_clamp (by omega), ha, hb]
          cases a
          · rw [if_pos (show bI false = 0 from rfl)]
            exact ⟨_, rfl, by cases b <;> exact ST_0 hS.2.2, hG.2, by omega⟩
          · rw [if_neg (show ¬ bI true = 0 by decide)]
            cases b
            · rw [if_pos (show bI false = 0 from rfl)]
              exact ⟨_, rfl, ST_0 hS.2.2, hG.2, by omega⟩
            · rw [if_neg (show ¬ bI true = 0 by decide)]
              exact ⟨_, rfl, ST_1 hS.2.2, hG.2, by omega⟩
        · rw [if_neg (show ¬ 10002 = 10001 by decide), if_pos rfl, if_neg (by decide), if_neg (by decide), if_neg (by decide), if_neg (show ¬ 10002 = 10001 by decide), if_pos rfl]
          simp only [List.length_cons]
          rw [nI_m1 (by omega), Nat.add_sub_cancel, nI_s1 (by omega), Nat.add_sub_cancel]
          simp only [gin_nI (show r.length < 100 by omega) (show 100 ≤ 2147483648 by decide), gin_nI (show r.length + 1 < 100 by omega) (show 100 ≤ 2147483648 by decide)]
          rw [nI_clamp (by omega), nI_clamp (by omega), ha, hb]
          cases a
          · rw [if_pos (show bI false = 0 from rfl)]
            cases b
            · rw [if_pos (show bI false = 0 from rfl)]
              exact ⟨_, rfl, ST_0 hS.2.2, hG.2, by omega⟩
            · rw [if_neg (show ¬ bI true = 0 by decide)]
              exact ⟨_, rfl, ST_1 hS.2.2, hG.2, by omega⟩
          · rw [if_neg (show ¬ bI true = 0 by decide)]
            exact ⟨_, rfl, by rw [Bool.true_or]; exact ST_1 hS.2.2, hG.2, by omega⟩
    · rw [if_neg h3] at hG
      simp only [Bool.and_eq_true, decide_eq_true_eq] at hG
      obtain ⟨⟨⟨h4, h5⟩, h6⟩, h7⟩ := hG
      rw [if_neg (fun q => h3 (Or.inl q)), if_neg (fun q => h3 (Or.inr q)), if_neg (fun q => h3 (Or.inl q)), if_neg (fun q => h3 (Or.inr q))]
      rw [if_neg (by (simp (disch := omega) only [le_I, lt_I, eq_I, nI_toInt, Int32.reduceToInt, ne_eq] <;> omega)), if_pos (by (simp (disch := omega) only [le_I, lt_I, eq_I, nI_toInt, Int32.reduceToInt, ne_eq] <;> omega))]
      rw [show (1000 : Int32) = nI 1000 from rfl, show (100 : Int32) = nI 100 from rfl, show (10 : Int32) = nI 10 from rfl, nI_rem (by omega) (by decide), nI_div (by omega) (by decide), nI_div (by omega) (by decide), nI_rem (by omega) (by decide), pbind_of (hfo (k / 1000) (by omega))]
      simp only [gin_nI (show st.length < 100 by omega) (show 100 ≤ 2147483648 by decide)]
      rw [nI_clamp (by omega), nI_1]
      have hres : tkG R (tkT k lt :: st).length = true ∧ (tkT k lt :: st).length ≤ 24 := ⟨h7, h6⟩
      have hsl : k / 100 % 10 = 0 ∨ k / 100 % 10 = 1 ∨ k / 100 % 10 = 2 := by omega
      have hkey : ∀ b : Bool, tkT k lt = b → ∃ g', some (Sum.inl (nI (st.length + 1), nI (i + 1), sAr u 99 (upd g st.length (bI b)))) = some (Sum.inl (nI (tkT k lt :: st).length, nI (i + 1), sAr u 99 g') : (Int32 × Int32 × Mem) ⊕ (Int32 × Mem)) ∧ ST g' (tkT k lt :: st) ∧ tkG R (tkT k lt :: st).length = true ∧ (tkT k lt :: st).length ≤ 24 := by
        intro b hb
        refine ⟨_, rfl, ?_, hres⟩
        rw [hb]
        exact ST_push hS
      rcases hsl with h | h | h
      · rw [h, if_pos (show nI 0 = 0 from rfl)]
        by_cases q : nI (k % 100) ≤ lt (k / 1000)
        · rw [if_pos q]
          refine hkey false ?_
          unfold tkT
          rw [if_pos h]
          exact decide_eq_false (by (simp (disch := omega) only [le_I, lt_I, eq_I, nI_toInt, Int32.reduceToInt, ne_eq] at * <;> omega))
        · rw [if_neg q]
          refine hkey true ?_
          unfold tkT
          rw [if_pos h]
          exact decide_eq_true (by (simp (disch := omega) only [le_I, lt_I, eq_I, nI_toInt, Int32.reduceToInt, ne_eq] at * <;> omega))
      · rw [h, if_neg (by decide), if_pos (show nI 1 = 1 from rfl)]
        by_cases q : lt (k / 1000) = nI (k % 100)
        · rw [if_pos q]
          refine hkey true ?_
          unfold tkT
          rw [h]
          exact decide_eq_true q
        · rw [if_neg q]
          refine hkey false ?_
          unfold tkT
          rw [h]
          exact decide_eq_false q
      · rw [h, if_neg (by decide), if_neg (by decide)]
        by_cases q : lt (k / 1000) ≤ nI (k % 100)
        · rw [if_pos q]
          refine hkey false ?_
          unfold tkT
          rw [h]
          exact decide_eq_false (by (simp (disch := omega) only [le_I, lt_I, eq_I, nI_toInt, Int32.reduceToInt, ne_eq] at * <;> omega))
        · rw [if_neg q]
          refine hkey true ?_
          unfold tkT
          rw [h]
          exact decide_eq_true (by (simp (disch := omega) only [le_I, lt_I, eq_I, nI_toInt, Int32.reduceToInt, ne_eq] at * <;> omega))
