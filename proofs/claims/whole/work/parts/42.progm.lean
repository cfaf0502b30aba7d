/-! THE REFERENCE'S PROGRAMS -/
theorem nI_div {a b : Nat} (ha : a < 2 ^ 31) (hb : b < 2 ^ 31) : nI a / nI b = nI (a / b) := by
  have h1 : a / b ≤ a := Nat.div_le_self a b
  rw [eq_I, Int32.toInt_div, nI_toInt ha, nI_toInt hb, nI_toInt (by omega), Int.tdiv_eq_ediv_of_nonneg (by omega), ← Int.natCast_ediv]
  generalize a / b = q at h1 ⊢
  exact Int.bmod_eq_of_le (by omega) (by omega)
theorem nI_sub {a b : Nat} (ha : a < 2 ^ 31) (hb : b ≤ a) : nI a - nI b = nI (a - b) := by
  rw [eq_I, Int32.toInt_sub, nI_toInt ha, nI_toInt (by omega), nI_toInt (by omega)]
  rw [Int.bmod_eq_of_le (by omega) (by omega)]
  omega
theorem nI_rem {a b : Nat} (ha : a < 2 ^ 31) (hb : b < 2 ^ 31) : nI a - nI a / nI b * nI b = nI (a % b) := by
  have h1 : a / b * b ≤ a := Nat.div_mul_le_self a b
  rw [nI_div ha hb, nI_mul, nI_sub ha h1]
  congr 1
  have := Nat.div_add_mod' a b
  omega
theorem nI_m1 {a : Nat} (h0 : 0 < a) : nI a + (-1 : Int32) = nI (a - 1) := by
  obtain ⟨k, rfl⟩ := Nat.exists_eq_succ_of_ne_zero (by omega : a ≠ 0)
  rw [Nat.succ_eq_add_one, nI_succ, Nat.add_sub_cancel, Int32.add_assoc]
  exact Int32.add_zero _
theorem nI_s1 {a : Nat} (h0 : 0 < a) : nI a - (1 : Int32) = nI (a - 1) := by
  obtain ⟨k, rfl⟩ := Nat.exists_eq_succ_of_ne_zero (by omega : a ≠ 0)
  exact nI_pred k
theorem sAr_sAr (u : Mem) (a : Nat) (f g : Nat → Int32) : sAr (sAr u a f) a g = sAr u a g := by
  unfold sAr
  congr 3
  congr 1
  funext x
  unfold up1
  by_cases h : x = a <;> simp [h]
theorem sA_sAr (u : Mem) (a i : Nat) (x : Int32) (g : Nat → Int32) : sA (sAr u a g) a i x = sAr u a (upd g i x) := by
  unfold sA
  rw [sAr_sAr, gA_sAr, if_pos rfl]
theorem sAr_self (u : Mem) (a : Nat) : sAr u a (gA u a) = u := by
  unfold sAr gA
  congr 3
  congr 1
  funext x
  unfold up1
  by_cases h : x = a <;> simp [h]
theorem gA_sAr_s (u : Mem) (a : Nat) (f : Nat → Int32) : gA (sAr u a f) a = f := if_pos rfl
theorem gA_sAr_n {u : Mem} {a : Nat} {f : Nat → Int32} {b : Nat} (h : b ≠ a) : gA (sAr u a f) b = gA u b := if_neg h
def bI (b : Bool) : Int32 := if b = true then 1 else 0
theorem nar_0 : vp_nar .boolean (0 : Int32) = 0 := by decide
theorem nar_1 : vp_nar .boolean (1 : Int32) = 1 := by decide
/-- the pile as a stack -/
def ST (g : Nat → Int32) : List Bool → Prop
  | [] => True
  | b :: r => g r.length = bI b ∧ ST g r
theorem ST_upd {g : Nat → Int32} {x : Int32} {i : Nat} : ∀ {r : List Bool}, r.length ≤ i → ST g r → ST (upd g i x) r
  | [], _, _ => trivial
  | b :: r, h, hs => ⟨by
      rw [List.length_cons] at h
      show (if r.length = i then x else g r.length) = bI b
      rw [if_neg (by omega)]; exact hs.1, ST_upd (by rw [List.length_cons] at h; omega) hs.2⟩
theorem ST_push {g : Nat → Int32} {r : List Bool} {b : Bool} (h : ST g r) : ST (upd g r.length (bI b)) (b :: r) := ⟨if_pos rfl, ST_upd (Nat.le_refl _) h⟩
theorem ST_0 {g : Nat → Int32} {r : List Bool} (h : ST g r) : ST (upd g r.length 0) (false :: r) := ST_push (b := false) h
theorem ST_1 {g : Nat → Int32} {r : List Bool} (h : ST g r) : ST (upd g r.length 1) (true :: r) := ST_push (b := true) h
/-- what a test may ask for -/
def ltV (p k v t o m : Int32) (i : Nat) : Int32 := if i = 0 then p else if i = 1 then k else if i = 2 then v else if i = 3 then t else if i = 4 then o else m
def rm10 (x : Int32) : Int32 := x - x / (10 : Int32) * (10 : Int32)
theorem factOf_eq {u : Mem} {p t f : Nat} (hp : p < 6) (ht : t < 8) (hf : f < 6) : f_X8_factOf (nI f) (nI p) (nI t) u = some (ltV (nI p) (gA u 83 p) (gA u 84 p) (nI t) (gA u 88 t) (rm10 (gI u 82 4)) f) := by
  unfold f_X8_factOf ltV
  rw [gin_nI hp (by decide), gin_nI hp (by decide), gin_nI ht (by decide), nI_clamp (by omega), nI_clamp (by omega)]
  have h : f = 0 ∨ f = 1 ∨ f = 2 ∨ f = 3 ∨ f = 4 ∨ f = 5 := by omega
  rcases h with rfl | rfl | rfl | rfl | rfl | rfl <;> rfl
def sg (k : Nat) : Int32 := if k = 10003 then -33 else if k = 10001 then -38 else if k = 10002 then -124 else nI k
theorem holds_step {u : Mem} {g : Nat → Int32} {c p t a e i k : Nat} {st : List Bool} {R : List Nat} (hc : c < 60) (hp : p < 6) (ht : t < 8) (he : gA u 95 c = nI e) (hie : i < e) (he6 : e ≤ 600) (hk : gA u 96 i = sg k) (hS : ST g st) (hG : tkG (k :: R) st.length = true) (hd : st.length ≤ 24) :
    ∃ g', f_X8_holds_L11 (nI c) (nI p) (nI t) (nI st.length) (nI i) (sAr u 99 g) = some (.inl (nI (tkS (ltV (nI p) (gA u 83 p) (gA u 84 p) (nI t) (gA u 88 t) (rm10 (gI u 82 4))) st k).length, (nI (i + 1), sAr u 99 g'))) ∧ ST g' (tkS (ltV (nI p) (gA u 83 p) (gA u 84 p) (nI t) (gA u 88 t) (rm10 (gI u 82 4))) st k) ∧ tkG R (tkS (ltV (nI p) (gA u 83 p) (gA u 84 p) (nI t) (gA u 88 t) (rm10 (gI u 82 4))) st k).length = true ∧ (tkS (ltV (nI p) (gA u 83 p) (gA u 84 p) (nI t) (gA u 88 t) (rm10 (gI u 82 4))) st k).length ≤ 24 := by
  generalize hlt : ltV (nI p) (gA u 83 p) (gA u 84 p) (nI t) (gA u 88 t) (rm10 (gI u 82 4)) = lt
  have hfo : ∀ f, f < 6 → f_X8_factOf (nI f) (nI p) (nI t) (sAr u 99 g) = some (lt f) := by
    intro f hf
    rw [factOf_eq hp ht hf]
    simp only [gA_sAr_n (show 83 ≠ 99 by decide), gA_sAr_n (show 84 ≠ 99 by decide), gA_sAr_n (show 88 ≠ 99 by decide), gI_sAr]
    rw [hlt]
  unfold f_X8_holds_L11
  rw [gin_nI hc (by decide), nI_clamp (by omega), gA_sAr_n (show 95 ≠ 99 by decide), he, if_neg (by (simp (disch := omega) only [le_I, lt_I, eq_I, nI_toInt, Int32.reduceToInt, ne_eq] <;> omega)), gin_nI (by omega) (by decide), nI_clamp (by omega), gA_sAr_n (show 96 ≠ 99 by decide), hk, gA_sAr_s, nI_1]
  simp only [sA_sAr, nar_0, nar_1]
  unfold tkG at hG
  unfold sg tkS
  by_cases h2 : k = 10003
  · rw [if_pos h2] at hG
    simp only [Bool.and_eq_true, decide_eq_true_eq] at hG
    rw [if_pos h2, if_pos rfl, if_pos h2]
    match st, hS, hG, hd with
    | [], hS, hG, hd => exact absurd hG.1 (by simp)
    | b :: r, hS, hG, hd =>
      simp only [List.length_cons] at hG hd ⊢
      rw [nI_s1 (by omega), Nat.add_sub_cancel]
      simp only [gin_nI (show r.length < 100 by omega) (show 100 ≤ 2147483648 by decide)]
      rw [nI_clamp (by omega), hS.1]
      cases b
      · rw [if_pos (show bI false = 0 from rfl)]
        exact ⟨_, rfl, ST_1 hS.2, hG.2, hd⟩
      · rw [if_neg (show ¬ bI true = 0 by decide)]
        exact ⟨_, rfl, ST_0 hS.2, hG.2, hd⟩
  · rw [if_neg h2] at hG
    rw [if_neg h2, if_neg h2]
    by_cases h3 : k = 10001 ∨ k = 10002
    · rw [if_pos h3] at hG
      simp only [Bool.and_eq_true, decide_eq_true_eq] at hG
      match st, hS, hG, hd with
      | [], hS, hG, hd => exact absurd hG.1 (by simp)
      | [b], hS, hG, hd => exact absurd hG.1 (by simp)
      | b :: a :: r, hS, hG, hd =>
        simp only [List.length_cons] at hd hG
        have hb := hS.1
        rw [List.length_cons] at hb
        have ha := hS.2.1
        rcases h3 with rfl | rfl
        · rw [if_pos rfl, if_neg (by decide), if_neg (by decide), if_pos rfl, if_pos rfl]
          simp only [List.length_cons]
          rw [nI_m1 (by omega), Nat.add_sub_cancel, nI_s1 (by omega), Nat.add_sub_cancel]
          simp only [gin_nI (show r.length < 100 by omega) (show 100 ≤ 2147483648 by decide), gin_nI (show r.length + 1 < 100 by omega) (show 100 ≤ 2147483648 by decide)]
          rw [nI_clamp (by omega), nI_clamp (by omega), ha, hb]
          cases a
          · rw [if_pos (show bI false = 0 from rfl)]
            exact ⟨_, rfl, by cases b <;> exact ST_0 hS.2.2, hG.2, by omega⟩
          · rw [if_neg (show ¬ bI true = 0 by decide)]
            cases b
            · rw [if_pos (show bI false = 0 from rfl)]
              exact ⟨_, rfl, ST_0 hS.2.2, hG.2, by omega⟩
            · rw [if_neg (show ¬ bI true = 0 by decide)]
              exact ⟨_, rfl, ST_1 hS.2.2, hG.2, by omega⟩
        · rw [if_neg (show ¬ 10002 = 10001 by decide), if_pos rfl, if_neg (by decide), if_neg (by decide), if_neg (by decide), if_neg (show ¬ 10002 = 10001 by decide), if_pos rfl]
          simp only [List.length_cons]
          rw [nI_m1 (by omega), Nat.add_sub_cancel, nI_s1 (by omega), Nat.add_sub_cancel]
          simp only [gin_nI (show r.length < 100 by omega) (show 100 ≤ 2147483648 by decide), gin_nI (show r.length + 1 < 100 by omega) (show 100 ≤ 2147483648 by decide)]
          rw [nI_clamp (by omega), nI_clamp (by omega), ha, hb]
          cases a
          · rw [if_pos (show bI false = 0 from rfl)]
            cases b
            · rw [if_pos (show bI false = 0 from rfl)]
              exact ⟨_, rfl, ST_0 hS.2.2, hG.2, by omega⟩
            · rw [if_neg (show ¬ bI true = 0 by decide)]
              exact ⟨_, rfl, ST_1 hS.2.2, hG.2, by omega⟩
          · rw [if_neg (show ¬ bI true = 0 by decide)]
            exact ⟨_, rfl, by rw [Bool.true_or]; exact ST_1 hS.2.2, hG.2, by omega⟩
    · rw [if_neg h3] at hG
      simp only [Bool.and_eq_true, decide_eq_true_eq] at hG
      obtain ⟨⟨⟨h4, h5⟩, h6⟩, h7⟩ := hG
      rw [if_neg (fun q => h3 (Or.inl q)), if_neg (fun q => h3 (Or.inr q)), if_neg (fun q => h3 (Or.inl q)), if_neg (fun q => h3 (Or.inr q))]
      rw [if_neg (by (simp (disch := omega) only [le_I, lt_I, eq_I, nI_toInt, Int32.reduceToInt, ne_eq] <;> omega)), if_pos (by (simp (disch := omega) only [le_I, lt_I, eq_I, nI_toInt, Int32.reduceToInt, ne_eq] <;> omega))]
      rw [show (1000 : Int32) = nI 1000 from rfl, show (100 : Int32) = nI 100 from rfl, show (10 : Int32) = nI 10 from rfl, nI_rem (by omega) (by decide), nI_div (by omega) (by decide), nI_div (by omega) (by decide), nI_rem (by omega) (by decide), pbind_of (hfo (k / 1000) (by omega))]
      simp only [gin_nI (show st.length < 100 by omega) (show 100 ≤ 2147483648 by decide)]
      rw [nI_clamp (by omega), nI_1]
      have hres : tkG R (tkT k lt :: st).length = true ∧ (tkT k lt :: st).length ≤ 24 := ⟨h7, h6⟩
      have hsl : k / 100 % 10 = 0 ∨ k / 100 % 10 = 1 ∨ k / 100 % 10 = 2 := by omega
      have hkey : ∀ b : Bool, tkT k lt = b → ∃ g', some (Sum.inl (nI (st.length + 1), nI (i + 1), sAr u 99 (upd g st.length (bI b)))) = some (Sum.inl (nI (tkT k lt :: st).length, nI (i + 1), sAr u 99 g') : (Int32 × Int32 × Mem) ⊕ (Int32 × Mem)) ∧ ST g' (tkT k lt :: st) ∧ tkG R (tkT k lt :: st).length = true ∧ (tkT k lt :: st).length ≤ 24 := by
        intro b hb
        refine ⟨_, rfl, ?_, hres⟩
        rw [hb]
        exact ST_push hS
      rcases hsl with h | h | h
      · rw [h, if_pos (show nI 0 = 0 from rfl)]
        by_cases q : nI (k % 100) ≤ lt (k / 1000)
        · rw [if_pos q]
          refine hkey false ?_
          unfold tkT
          rw [if_pos h]
          exact decide_eq_false (by (simp (disch := omega) only [le_I, lt_I, eq_I, nI_toInt, Int32.reduceToInt, ne_eq] at * <;> omega))
        · rw [if_neg q]
          refine hkey true ?_
          unfold tkT
          rw [if_pos h]
          exact decide_eq_true (by (simp (disch := omega) only [le_I, lt_I, eq_I, nI_toInt, Int32.reduceToInt, ne_eq] at * <;> omega))
      · rw [h, if_neg (by decide), if_pos (show nI 1 = 1 from rfl)]
        by_cases q : lt (k / 1000) = nI (k % 100)
        · rw [if_pos q]
          refine hkey true ?_
          unfold tkT
          rw [h]
          exact decide_eq_true q
        · rw [if_neg q]
          refine hkey false ?_
          unfold tkT
          rw [h]
          exact decide_eq_false q
      · rw [h, if_neg (by decide), if_neg (by decide)]
        by_cases q : lt (k / 1000) ≤ nI (k % 100)
        · rw [if_pos q]
          refine hkey false ?_
          unfold tkT
          rw [h]
          exact decide_eq_false (by (simp (disch := omega) only [le_I, lt_I, eq_I, nI_toInt, Int32.reduceToInt, ne_eq] at * <;> omega))
        · rw [if_neg q]
          refine hkey true ?_
          unfold tkT
          rw [h]
          exact decide_eq_true (by (simp (disch := omega) only [le_I, lt_I, eq_I, nI_toInt, Int32.reduceToInt, ne_eq] at * <;> omega))
/-- a clause of the reference at its place -/
def CL (u : Mem) (x : Nat) (c : Nat × Nat × List Nat) : Prop := gA u 92 x = nI c.1 ∧ gA u 93 x = nI c.2.1 ∧ (c.1 ≠ 2 → ∃ a, a + c.2.2.length ≤ 100 * (x / 10 + 1) ∧ gA u 94 x = nI a ∧ gA u 95 x = nI (a + c.2.2.length) ∧ ∀ j, j < c.2.2.length → gA u 96 (a + j) = sg (c.2.2.getD j 0))
def PM (u : Mem) (f : Nat) (pg : List (Nat × Nat × List Nat)) : Prop := gA u 91 f = nI pg.length ∧ pg.length ≤ 10 ∧ ∀ c, c < pg.length → CL u (10 * f + c) (pg.getD c (2, 5, []))
def HM (u : Mem) (pg : List (Nat × Nat × List Nat)) : Prop := (gI u 82 13 = -1 ∧ pg = []) ∨ ∃ f, f < 6 ∧ gI u 82 13 = nI f ∧ PM u f pg
theorem drop_cons {α : Type} {L R : List α} {k : α} {i : Nat} (h : L.drop i = k :: R) (z : α) : i < L.length ∧ L.getD i z = k ∧ L.drop (i + 1) = R := by
  have hi : i < L.length := by
    refine Nat.lt_of_not_le fun q => ?_
    rw [List.drop_eq_nil_of_le q] at h
    cases h
  rw [List.drop_eq_getElem_cons hi] at h
  refine ⟨hi, ?_, (List.cons.inj h).2⟩
  rw [List.getD_eq_getElem?_getD, List.getElem?_eq_getElem hi]
  exact (List.cons.inj h).1
theorem holds_go {u : Mem} {c p t a e : Nat} {tk : List Nat} (hc : c < 60) (hp : p < 6) (ht : t < 8) (he : gA u 95 c = nI e) (hae : a + tk.length = e) (he6 : e ≤ 600) (hk : ∀ j, j < tk.length → gA u 96 (a + j) = sg (tk.getD j 0)) :
    ∀ (R : List Nat) (i : Nat) (st : List Bool) (g : Nat → Int32) (n : Nat), tk.drop i = R → i + R.length = tk.length → R.length < n → ST g st → tkG R st.length = true → st.length ≤ 24 →
      ∃ g', whileO (fun s => f_X8_holds_L11 (nI c) (nI p) (nI t) s.1 s.2.1 s.2.2) n (nI st.length, (nI (a + i), sAr u 99 g)) = some (bI ((R.foldl (tkS (ltV (nI p) (gA u 83 p) (gA u 84 p) (nI t) (gA u 88 t) (rm10 (gI u 82 4)))) st).headD false), sAr u 99 g') := by
  intro R
  induction R with
  | nil =>
    intro i st g n hd hi hn hS hG h24
    obtain ⟨n, rfl⟩ := Nat.exists_eq_succ_of_ne_zero (by omega : n ≠ 0)
    refine ⟨g, whileO_inr ?_⟩
    show f_X8_holds_L11 (nI c) (nI p) (nI t) (nI st.length) (nI (a + i)) (sAr u 99 g) = _
    have hi' : a + i = e := by simp at hi; omega
    unfold f_X8_holds_L11
    rw [gin_nI hc (by decide), nI_clamp (by omega), gA_sAr_n (show 95 ≠ 99 by decide), he, hi', if_pos (by (simp (disch := omega) only [le_I, lt_I, eq_I, nI_toInt, Int32.reduceToInt, ne_eq] <;> omega)), gin_of (by decide) (by decide), gA_sAr_s]
    have h1 : st.length = 1 := by simpa [tkG] using hG
    match st, h1, hS with
    | [b], _, hS =>
      have hb : g (0 : Int32).toNatClampNeg = bI b := hS.1
      rw [hb]
      cases b <;> rfl
  | cons k R ih =>
    intro i st g n hd hi hn hS hG h24
    rw [List.length_cons] at hi hn
    obtain ⟨n, rfl⟩ := Nat.exists_eq_succ_of_ne_zero (by omega : n ≠ 0)
    obtain ⟨d1, d2, d3⟩ := drop_cons hd 0
    obtain ⟨g1, w1, w2, w3, w4⟩ := holds_step (u := u) (g := g) (i := a + i) (a := a) hc hp ht he (by omega) he6 (by rw [hk i d1, d2]) hS hG h24
    obtain ⟨g2, h2⟩ := ih (i + 1) _ g1 n d3 (by omega) (by omega) w2 w3 w4
    exact ⟨g2, (whileO_inl w1).trans h2⟩
theorem holds_eq {u : Mem} {x p t : Nat} {c : Nat × Nat × List Nat} (g : Nat → Int32) (hx : x < 60) (hp : p < 6) (ht : t < 8) (hC : CL u x c) (h2 : c.1 ≠ 2) (hG : tkG c.2.2 0 = true) :
    ∃ g', f_X8_holds (nI x) (nI p) (nI t) (sAr u 99 g) = some (bI ((c.2.2.foldl (tkS (ltV (nI p) (gA u 83 p) (gA u 84 p) (nI t) (gA u 88 t) (rm10 (gI u 82 4)))) []).headD false), sAr u 99 g') := by
  obtain ⟨a, h6x, h94, h95, h96⟩ := hC.2.2 h2
  have h6 : a + c.2.2.length ≤ 600 := by omega
  obtain ⟨g', h⟩ := holds_go hx hp ht h95 rfl h6 h96 c.2.2 0 [] g FUEL rfl (Nat.zero_add _) (by show _ < 5000; omega) trivial hG (Nat.zero_le _)
  refine ⟨g', ?_⟩
  unfold f_X8_holds
  rw [gin_nI hx (by decide), nI_clamp (by omega), gA_sAr_n (show 94 ≠ 99 by decide), h94]
  exact h
/-- where the reference's clauses begin and end -/
theorem HM_at {u : Mem} {pg : List (Nat × Nat × List Nat)} (h : HM u pg) : ∃ f, f < 6 ∧ f_X8_begin u = some (nI (10 * f)) ∧ f_X8_behind u = some (nI (10 * f + pg.length)) ∧ pg.length ≤ 10 ∧ ∀ c, c < pg.length → CL u (10 * f + c) (pg.getD c (2, 5, [])) := by
  rcases h with ⟨h1, rfl⟩ | ⟨f, hf, h1, h2, h3, h4⟩
  · refine ⟨0, by decide, ?_, ?_, by decide, fun c hc => absurd hc (by simp)⟩
    · unfold f_X8_begin
      rw [h1]; rfl
    · unfold f_X8_behind
      rw [h1]; rfl
  · refine ⟨f, hf, ?_, ?_, h3, h4⟩
    · unfold f_X8_begin
      rw [h1, if_pos (by (simp (disch := omega) only [le_I, lt_I, eq_I, nI_toInt, Int32.reduceToInt, ne_eq] <;> omega)), show (10 : Int32) = nI 10 from rfl, nI_mul]
    · unfold f_X8_behind
      rw [h1, if_pos (by (simp (disch := omega) only [le_I, lt_I, eq_I, nI_toInt, Int32.reduceToInt, ne_eq] <;> omega)), gin_nI hf (by decide), show (10 : Int32) = nI 10 from rfl, nI_mul, nI_clamp (by omega), h2, nI_add]
theorem behind_99 (u : Mem) (g : Nat → Int32) : f_X8_behind (sAr u 99 g) = f_X8_behind u := rfl
theorem slope_go {u : Mem} {f : Nat} {pg : List (Nat × Nat × List Nat)} (hf : f < 6) (hb : f_X8_behind u = some (nI (10 * f + pg.length))) (hl : pg.length ≤ 10) (hc : ∀ c, c < pg.length → CL u (10 * f + c) (pg.getD c (2, 5, []))) (hO : ∀ c ∈ pg, c.1 ≤ 2) :
    ∀ (R : List (Nat × Nat × List Nat)) (i s n : Nat), pg.drop i = R → i + R.length = pg.length → R.length < n → whileO (fun s => f_X8_slope_L7 u s.1 s.2) n (nI s, nI (10 * f + i)) = some (nI (R.foldl (fun n c => if c.1 = 2 then c.2.1 else n) s)) := by
  intro R
  induction R with
  | nil =>
    intro i s n hd hi hn
    obtain ⟨n, rfl⟩ := Nat.exists_eq_succ_of_ne_zero (by omega : n ≠ 0)
    refine whileO_inr ?_
    show f_X8_slope_L7 u (nI s) (nI (10 * f + i)) = _
    unfold f_X8_slope_L7
    have hi' : i = pg.length := by simpa using hi
    rw [pbind_of hb, hi', if_pos (by (simp (disch := omega) only [le_I, lt_I, eq_I, nI_toInt, Int32.reduceToInt, ne_eq] <;> omega))]
    rfl
  | cons c R ih =>
    intro i s n hd hi hn
    rw [List.length_cons] at hi hn
    obtain ⟨n, rfl⟩ := Nat.exists_eq_succ_of_ne_zero (by omega : n ≠ 0)
    obtain ⟨d1, d2, d3⟩ := drop_cons hd (2, 5, [])
    have hC := hc i d1
    rw [d2] at hC
    have h2 : c.1 ≤ 2 := hO c (by rw [← d2, List.getD_eq_getElem?_getD, List.getElem?_eq_getElem d1]; exact List.getElem_mem d1)
    have hst : f_X8_slope_L7 u (nI s) (nI (10 * f + i)) = some (.inl (nI (if c.1 = 2 then c.2.1 else s), nI (10 * f + (i + 1)))) := by
      unfold f_X8_slope_L7
      rw [pbind_of hb, if_neg (by (simp (disch := omega) only [le_I, lt_I, eq_I, nI_toInt, Int32.reduceToInt, ne_eq] <;> omega)), gin_nI (by omega) (by decide), gin_nI (by omega) (by decide), nI_clamp (by omega), hC.1, hC.2.1, nI_1]
      by_cases q : c.1 = 2
      · rw [if_pos q, q, if_pos (show nI 2 = 2 from rfl)]; rfl
      · rw [if_neg q, if_neg (by (simp (disch := omega) only [le_I, lt_I, eq_I, nI_toInt, Int32.reduceToInt, ne_eq] <;> omega))]; rfl
    exact (whileO_inl hst).trans (ih (i + 1) _ n d3 (by omega) (by omega))
theorem slope_eq {u : Mem} {pg : List (Nat × Nat × List Nat)} (h : HM u pg) (hO : pgOK pg) : f_X8_slope u = some (nI (pgS pg)) := by
  obtain ⟨f, hf, h1, h2, h3, h4⟩ := HM_at h
  unfold f_X8_slope
  rw [pbind_of h1]
  exact slope_go hf h2 h3 h4 (fun c hc => (hO c hc).1) pg 0 5 FUEL rfl (Nat.zero_add _) (by show _ < 5000; omega)
theorem sum_go {u : Mem} {f p t : Nat} {pg : List (Nat × Nat × List Nat)} (hp : p < 6) (ht : t < 8) (hf : f < 6) (hb : f_X8_behind u = some (nI (10 * f + pg.length))) (hl : pg.length ≤ 10) (hc : ∀ c, c < pg.length → CL u (10 * f + c) (pg.getD c (2, 5, []))) (hO : pgOK pg) :
    ∀ (R : List (Nat × Nat × List Nat)) (i : Nat) (s : Int32) (g : Nat → Int32) (n : Nat), pg.drop i = R → i + R.length = pg.length → R.length < n → ∃ g', whileO (fun s => f_X8_sum_L22 (nI p) (nI t) s.1 s.2.1 s.2.2) n (s, (nI (10 * f + i), sAr u 99 g)) = some (R.foldl (fun s c => if c.1 = 2 then s else if (c.2.2.foldl (tkS (ltV (nI p) (gA u 83 p) (gA u 84 p) (nI t) (gA u 88 t) (rm10 (gI u 82 4)))) []).headD false = true then (if c.1 = 0 then s + nI c.2.1 else s - nI c.2.1) else s) s, sAr u 99 g') := by
  intro R
  induction R with
  | nil =>
    intro i s g n hd hi hn
    obtain ⟨n, rfl⟩ := Nat.exists_eq_succ_of_ne_zero (by omega : n ≠ 0)
    refine ⟨g, whileO_inr ?_⟩
    show f_X8_sum_L22 (nI p) (nI t) s (nI (10 * f + i)) (sAr u 99 g) = _
    unfold f_X8_sum_L22
    have hi' : i = pg.length := by simpa using hi
    rw [behind_99, pbind_of hb, hi', if_pos (by (simp (disch := omega) only [le_I, lt_I, eq_I, nI_toInt, Int32.reduceToInt, ne_eq] <;> omega))]
    rfl
  | cons c R ih =>
    intro i s g n hd hi hn
    rw [List.length_cons] at hi hn
    obtain ⟨n, rfl⟩ := Nat.exists_eq_succ_of_ne_zero (by omega : n ≠ 0)
    obtain ⟨d1, d2, d3⟩ := drop_cons hd (2, 5, [])
    have hC := hc i d1
    rw [d2] at hC
    obtain ⟨h2, h9, hG⟩ := hO c (by rw [← d2, List.getD_eq_getElem?_getD, List.getElem?_eq_getElem d1]; exact List.getElem_mem d1)
    have hst : ∃ g1, f_X8_sum_L22 (nI p) (nI t) s (nI (10 * f + i)) (sAr u 99 g) = some (.inl ((if c.1 = 2 then s else if (c.2.2.foldl (tkS (ltV (nI p) (gA u 83 p) (gA u 84 p) (nI t) (gA u 88 t) (rm10 (gI u 82 4)))) []).headD false = true then (if c.1 = 0 then s + nI c.2.1 else s - nI c.2.1) else s), (nI (10 * f + (i + 1)), sAr u 99 g1))) := by
      unfold f_X8_sum_L22
      rw [behind_99, pbind_of hb, if_neg (by (simp (disch := omega) only [le_I, lt_I, eq_I, nI_toInt, Int32.reduceToInt, ne_eq] <;> omega)), gin_nI (by omega) (by decide), nI_clamp (by omega), gA_sAr_n (show 92 ≠ 99 by decide), hC.1, nI_1]
      by_cases q : c.1 = 2
      · exact ⟨g, by rw [if_pos q, q, if_pos (by decide)]; rfl⟩
      · obtain ⟨g1, hh⟩ := holds_eq g (show 10 * f + i < 60 by omega) hp ht hC q (hG q)
        refine ⟨g1, ?_⟩
        rw [if_neg (by (simp (disch := omega) only [le_I, lt_I, eq_I, nI_toInt, Int32.reduceToInt, ne_eq] <;> omega)), obind_of hh, if_neg q]
        simp only [gin_nI (show 10 * f + i < 60 by omega) (show 60 ≤ 2147483648 by decide), gA_sAr_n (show 92 ≠ 99 by decide), gA_sAr_n (show 93 ≠ 99 by decide), hC.1, hC.2.1]
        generalize (c.2.2.foldl (tkS (ltV (nI p) (gA u 83 p) (gA u 84 p) (nI t) (gA u 88 t) (rm10 (gI u 82 4)))) []).headD false = v
        cases v
        · rfl
        · rw [if_neg (show ¬ bI true = 0 by decide), if_pos (show true = true from rfl)]
          have hw : c.1 = 0 ∨ c.1 = 1 := by omega
          rcases hw with w | w
          · rw [w, if_pos (show nI 0 = 0 from rfl), if_pos (show (0 : Nat) = 0 from rfl)]; rfl
          · rw [w, if_neg (show ¬ nI 1 = 0 by decide), if_neg (show ¬ (1 : Nat) = 0 by decide), ← Int32.sub_eq_add_neg]; rfl
    obtain ⟨g1, hst⟩ := hst
    obtain ⟨g2, h5⟩ := ih (i + 1) _ g1 n d3 (by omega) (by omega)
    exact ⟨g2, (whileO_inl hst).trans h5⟩
theorem pgF_add (lt : Nat → Int32) : ∀ (pg : List (Nat × Nat × List Nat)) (s : Int32), pg.foldl (fun s c => if c.1 = 2 then s else if (c.2.2.foldl (tkS lt) []).headD false = true then (if c.1 = 0 then s + nI c.2.1 else s - nI c.2.1) else s) s = s + pgW lt pg := by
  intro pg
  induction pg with
  | nil => intro s; exact (Int32.add_zero s).symm
  | cons c pg ih =>
    intro s
    unfold pgW
    rw [List.foldl_cons, List.foldl_cons, ih, ih (if c.1 = 2 then 0 else _), ← Int32.add_assoc]
    congr 1
    by_cases h : c.1 = 2
    · rw [if_pos h, if_pos h, Int32.add_zero]
    · rw [if_neg h, if_neg h]
      by_cases h2 : (c.2.2.foldl (tkS lt) []).headD false = true
      · rw [if_pos h2, if_pos h2]
        by_cases h3 : c.1 = 0
        · rw [if_pos h3, if_pos h3, Int32.zero_add]
        · rw [if_neg h3, if_neg h3, Int32.zero_sub, Int32.sub_eq_add_neg]
      · rw [if_neg h2, if_neg h2, Int32.add_zero]
theorem sumM_eq {u : Mem} {p t : Nat} {pg : List (Nat × Nat × List Nat)} (hp : p < 6) (ht : t < 8) (h : HM u pg) (hO : pgOK pg) (g : Nat → Int32) : ∃ g', f_X8_sum (nI p) (nI t) (sAr u 99 g) = some ((2 : Int32) * gA u 89 t - gA u 88 t + pgW (ltV (nI p) (gA u 83 p) (gA u 84 p) (nI t) (gA u 88 t) (rm10 (gI u 82 4))) pg, sAr u 99 g') := by
  obtain ⟨f, hf, h1, h2, h3, h4⟩ := HM_at h
  obtain ⟨g', h5⟩ := sum_go hp ht hf h2 h3 h4 hO pg 0 ((2 : Int32) * gA u 89 t - gA u 88 t) g FUEL rfl (Nat.zero_add _) (by show _ < 5000; omega)
  refine ⟨g', ?_⟩
  rw [pgF_add] at h5
  unfold f_X8_sum
  rw [gin_nI ht (by decide), gin_nI ht (by decide), show f_X8_begin (sAr u 99 g) = f_X8_begin u from rfl, pbind_of h1, nI_clamp (by omega), gA_sAr_n (show 89 ≠ 99 by decide), gA_sAr_n (show 88 ≠ 99 by decide)]
  exact h5
