/-! TWO LOOPS SIDE BY SIDE -/
theorem while_2 {σ τ ρ π : Type} {b1 : σ → Option (σ ⊕ ρ)} {b2 : τ → Option (τ ⊕ π)} (N : Nat) (J : Nat → σ → τ → Prop) (P : ρ → π → Prop)
    (h : ∀ i s t, i < N → J i s t → (∃ s' t', b1 s = some (.inl s') ∧ b2 t = some (.inl t') ∧ J (i + 1) s' t') ∨ ∃ r q, b1 s = some (.inr r) ∧ b2 t = some (.inr q) ∧ P r q)
    (hN : ∀ s t, J N s t → ∃ r q, b1 s = some (.inr r) ∧ b2 t = some (.inr q) ∧ P r q) :
    ∀ (d i : Nat) (s : σ) (t : τ) (n n' : Nat), i + d = N → d < n → d < n' → J i s t → ∃ r q, whileO b1 n s = some r ∧ whileO b2 n' t = some q ∧ P r q := by
  intro d
  induction d with
  | zero =>
    intro i s t n n' hi hn hn' hJ
    have : i = N := by omega
    subst this
    obtain ⟨r, q, h1, h2, h3⟩ := hN s t hJ
    obtain ⟨n, rfl⟩ := Nat.exists_eq_succ_of_ne_zero (by omega : n ≠ 0)
    obtain ⟨n', rfl⟩ := Nat.exists_eq_succ_of_ne_zero (by omega : n' ≠ 0)
    exact ⟨r, q, whileO_inr h1, whileO_inr h2, h3⟩
  | succ d ih =>
    intro i s t n n' hi hn hn' hJ
    obtain ⟨n, rfl⟩ := Nat.exists_eq_succ_of_ne_zero (by omega : n ≠ 0)
    obtain ⟨n', rfl⟩ := Nat.exists_eq_succ_of_ne_zero (by omega : n' ≠ 0)
    rcases h i s t (by omega) hJ with ⟨s', t', h1, h2, h3⟩ | ⟨r, q, h1, h2, h3⟩
    · obtain ⟨r, q, h4, h5, h6⟩ := ih (i + 1) s' t' n n' (by omega) (by omega) (by omega) h3
      exact ⟨r, q, (whileO_inl h1).trans h4, (whileO_inl h2).trans h5, h6⟩
    · exact ⟨r, q, whileO_inr h1, whileO_inr h2, h3⟩
theorem while_2F {σ τ ρ π : Type} {b1 : σ → Option (σ ⊕ ρ)} {b2 : τ → Option (τ ⊕ π)} (N : Nat) (J : Nat → σ → τ → Prop) (P : ρ → π → Prop) {s : σ} {t : τ} (hN0 : N < 5000) (h0 : J 0 s t)
    (h : ∀ i s t, i < N → J i s t → (∃ s' t', b1 s = some (.inl s') ∧ b2 t = some (.inl t') ∧ J (i + 1) s' t') ∨ ∃ r q, b1 s = some (.inr r) ∧ b2 t = some (.inr q) ∧ P r q)
    (hN : ∀ s t, J N s t → ∃ r q, b1 s = some (.inr r) ∧ b2 t = some (.inr q) ∧ P r q) : ∃ r q, whileO b1 FUEL s = some r ∧ whileO b2 FUEL t = some q ∧ P r q :=
  while_2 N J P h hN N 0 s t FUEL FUEL (Nat.zero_add N) hN0 hN0 h0
/-! judge -/
theorem countFrom_eq {u : Mem} {t m : Nat} {x : Int32} (h : gI u t 2 = nI m) (hm : m ≤ 60) : (∃ q, q ≤ m ∧ x = nI q ∧ f_X5_countFrom t x u = some (nI (m - q))) ∨ ((x.toInt < 0 ∨ (m : Int) < x.toInt) ∧ f_X5_countFrom t x u = some (-1)) := by
  unfold f_X5_countFrom
  rw [h]
  by_cases h1 : x < 0
  · exact Or.inr ⟨Or.inl (by (simp (disch := omega) only [le_I, lt_I, eq_I, nI_toInt, Int32.reduceToInt, ne_eq] at * <;> omega)), if_pos h1⟩
  · rw [if_neg h1]
    by_cases h2 : x ≤ nI m
    · obtain ⟨q, hq, rfl⟩ : ∃ q, q < m + 1 ∧ x = nI q := nI_in0 (by (simp (disch := omega) only [le_I, lt_I, eq_I, nI_toInt, Int32.reduceToInt, ne_eq] at * <;> omega)) (by (simp (disch := omega) only [le_I, lt_I, eq_I, nI_toInt, Int32.reduceToInt, ne_eq] at * <;> omega))
      refine Or.inl ⟨q, by omega, rfl, ?_⟩
      rw [if_pos h2, nI_sub (by omega) (by omega)]
    · exact Or.inr ⟨Or.inr (by (simp (disch := omega) only [le_I, lt_I, eq_I, nI_toInt, Int32.reduceToInt, ne_eq] at * <;> omega)), if_neg h2⟩
theorem st_judge {u : Mem} (hI : Inv u) (t x : Int32) : okR (f_X7_judge t x u) (f_X8_judge t x u) := by
  obtain ⟨K, w, B, pgs, h1, h2, h3, h4, h5, h6, h7, h8⟩ := hI
  obtain ⟨⟨hn6, hn1⟩, -⟩ := h1.1
  have hm1 := h1.2.2.1.1
  have a5 := h1.2.1.2.2.2.2
  have b5 := h1.2.2.2.1.2.2.2.2
  unfold f_X7_judge f_X8_judge
  rw [pbind_of isTape_eq]
  cases ht : wn t 6
  · rw [pbind_of (tapeAt_f ht), if_pos bf]
    exact ⟨_, rfl, rfl⟩
  · obtain ⟨j, hj, rfl⟩ := wn_of ht
    obtain ⟨s, m, hs, hm, t1, t2, t3, t4, t5⟩ := h7 j hj
    rw [pbind_of (tapeAt_t hj), if_neg bt, gin_nI hj (by decide), gin_nI hj (by decide), nI_clamp (by omega), t2]
    show okR (gob 129 (70 + 2 * j) l5 _) _
    rw [gob_t (l5_ok j hj), t1, hn1]
    have hz : ∀ (N : Nat), N ≤ 6 → ((nI N = 0) ↔ N = 0) := fun N h => by
      rw [show (0 : Int32) = nI 0 from rfl, nI_eq (by omega) (by omega)]
    rcases neg_s hs with ⟨q1, q2, q3, q4⟩ | ⟨q1, q3, q4⟩
    · rw [if_pos q1, if_pos q3]
      have hr : ∀ o : Int32, f_X8_judge_L34 u (nI j) 0 = some (.inr o) → whileO (fun s => f_X8_judge_L34 u (nI j) s) FUEL (0 : Int32) = some o := fun o h => whileO_inr h
      by_cases h0 : cN K = 0
      · rw [if_pos ((hz _ hn6).mpr h0)]
        refine ⟨_, rfl, hr _ ?_⟩
        unfold f_X8_judge_L34
        rw [hm1, h0, if_pos (by decide)]
      · rw [if_neg (fun q => h0 ((hz _ hn6).mp q))]
        have hc : ∃ c : Int32, f_X5_countFrom (70 + 2 * j) x u = some c ∧ c.toInt ≤ 0 := by
          rcases countFrom_eq (x := x) t3 hm with ⟨q, hq, rfl, hc⟩ | ⟨-, hc⟩
          · refine ⟨_, hc, ?_⟩
            rw [nI_toInt (by omega)]
            omega
          · exact ⟨_, hc, by decide⟩
        obtain ⟨c, hc, hc0⟩ := hc
        rw [pbind_of hc]
        have hl : f_X7_judge_L54 u c x (70 + 2 * j) 0 = some (.inr 100) := by
          unfold f_X7_judge_L54
          rw [hn1, if_neg (by (simp (disch := omega) only [le_I, lt_I, eq_I, nI_toInt, Int32.reduceToInt, ne_eq] <;> omega)), if_neg (by rw [lt_I]; have : (0 : Int32).toInt = 0 := rfl; omega)]
          rfl
        refine ⟨100, whileO_inr hl, hr _ ?_⟩
        unfold f_X8_judge_L34
        rw [hm1, if_neg (by (simp (disch := omega) only [le_I, lt_I, eq_I, nI_toInt, Int32.reduceToInt, ne_eq] <;> omega)), gin_nI hj (by decide)]
        rfl
    · rw [if_neg q1, if_neg q3]
      by_cases s1 : s = 1
      · rw [if_pos s1, if_pos s1]
        have hend : f_X8_judge_L34b u (nI j) x (nI (cN K)) = some (.inr (-5)) := by
          unfold f_X8_judge_L34b
          rw [hm1, if_pos (by (simp (disch := omega) only [le_I, lt_I, eq_I, nI_toInt, Int32.reduceToInt, ne_eq] <;> omega))]
        by_cases h0 : cN K = 0
        · rw [if_pos ((hz _ hn6).mpr h0)]
          rw [h0] at hend
          exact ⟨_, rfl, whileO_inr hend⟩
        · rw [if_neg (fun q => h0 ((hz _ hn6).mp q))]
          rcases countFrom_eq (x := x) t3 hm with ⟨q, hq, rfl, hc⟩ | ⟨hx, hc⟩
          · rw [pbind_of hc]
            have key := while_2F (b1 := fun s => f_X7_judge_L54b u (nI (m - q)) (nI q) (70 + 2 * j) s) (b2 := fun s => f_X8_judge_L34b u (nI j) (nI q) s) (cN K) (fun i s t => s = nI i ∧ t = nI i) (fun r q => r = q) (s := (0 : Int32)) (t := (0 : Int32)) (by omega) ⟨rfl, rfl⟩ ?_ ?_
            · obtain ⟨r, r2, k1, k2, rfl⟩ := key
              exact ⟨r, k1, k2⟩
            · rintro i s1 s2 hi ⟨rfl, rfl⟩
              have e1 : nI m - nI i - (1 : Int32) = nI m - nI (i + 1) := by
                rw [nI_succ, Int32.sub_sub]
              have hle : nI q ≤ nI m - nI (i + 1) ↔ i < m - q := by
                rw [le_I, Int32.toInt_sub, nI_toInt (by omega), nI_toInt (by omega), nI_toInt (by omega), Int.bmod_eq_of_le (by omega) (by omega)]
                omega
              obtain ⟨o, ho⟩ : ∃ o : Int32 ⊕ Int32, o = if i < m - q then (if lg_cmp (gL u 127 (60 * j + q + i)) (wK w i).toInt64 = 0 then Sum.inl (nI (i + 1)) else Sum.inr (nI i)) else Sum.inr ((100 : Int32) + nI i) := ⟨_, rfl⟩
              have c1 : f_X7_judge_L54b u (nI (m - q)) (nI q) (70 + 2 * j) (nI i) = some o := by
                unfold f_X7_judge_L54b
                rw [hn1, if_neg (by (simp (disch := omega) only [le_I, lt_I, eq_I, nI_toInt, Int32.reduceToInt, ne_eq] <;> omega)), ho]
                by_cases hlt : i < m - q
                · rw [if_pos hlt, if_pos (by (simp (disch := omega) only [le_I, lt_I, eq_I, nI_toInt, Int32.reduceToInt, ne_eq] <;> omega)), nI_add, gin_nI (show q + i < 60 by omega) (by decide), gin_nI (show i < 6 by omega) (by decide), nI_clamp (by omega), nI_clamp (by omega), show 70 + 2 * j + 1 = 71 + 2 * j by omega, t5 _ (by omega), a5 i (by omega), show 60 * j + (q + i) = 60 * j + q + i by omega, nI_1]
                  split <;> rfl
                · rw [if_neg hlt, if_neg (by (simp (disch := omega) only [le_I, lt_I, eq_I, nI_toInt, Int32.reduceToInt, ne_eq] <;> omega))]
              have c2 : f_X8_judge_L34b u (nI j) (nI q) (nI i) = some o := by
                unfold f_X8_judge_L34b
                rw [hm1, if_neg (by (simp (disch := omega) only [le_I, lt_I, eq_I, nI_toInt, Int32.reduceToInt, ne_eq] <;> omega)), gin_nI hj (by decide), if_neg (by (simp (disch := omega) only [le_I, lt_I, eq_I, nI_toInt, Int32.reduceToInt, ne_eq] <;> omega)), gin_nI hj (by decide), nI_clamp (show j < 2 ^ 31 by omega), t4, e1, ho]
                by_cases hlt : i < m - q
                · rw [if_pos hlt, if_pos (hle.mpr hlt), e60, nI_add, gin_nI (show 60 * j + q + i < 360 by omega) (by decide), gin_nI (show i < 6 by omega) (by decide), nI_clamp (by omega), nI_clamp (by omega), b5 i (by omega), nI_1]
                  split <;> rfl
                · rw [if_neg hlt, if_neg (fun z => hlt (hle.mp z))]
              by_cases hlt : i < m - q
              · by_cases hcmp : lg_cmp (gL u 127 (60 * j + q + i)) (wK w i).toInt64 = 0
                · rw [if_pos hlt, if_pos hcmp] at ho
                  subst ho
                  exact Or.inl ⟨_, _, c1, c2, rfl, rfl⟩
                · rw [if_pos hlt, if_neg hcmp] at ho
                  subst ho
                  exact Or.inr ⟨_, _, c1, c2, rfl⟩
              · rw [if_neg hlt] at ho
                subst ho
                exact Or.inr ⟨_, _, c1, c2, rfl⟩
            · rintro s1 s2 ⟨rfl, rfl⟩
              refine ⟨_, _, ?_, hend, rfl⟩
              show f_X7_judge_L54b u (nI (m - q)) (nI q) (70 + 2 * j) (nI (cN K)) = _
              unfold f_X7_judge_L54b
              rw [hn1, if_pos (by (simp (disch := omega) only [le_I, lt_I, eq_I, nI_toInt, Int32.reduceToInt, ne_eq] <;> omega))]
          · rw [pbind_of hc]
            have l1 : f_X7_judge_L54b u (-1) x (70 + 2 * j) 0 = some (.inr 100) := by
              unfold f_X7_judge_L54b
              rw [hn1, if_neg (by (simp (disch := omega) only [le_I, lt_I, eq_I, nI_toInt, Int32.reduceToInt, ne_eq] <;> omega)), if_neg (by decide)]
              rfl
            have l2 : f_X8_judge_L34b u (nI j) x 0 = some (.inr 100) := by
              unfold f_X8_judge_L34b
              rw [hm1, if_neg (by (simp (disch := omega) only [le_I, lt_I, eq_I, nI_toInt, Int32.reduceToInt, ne_eq] <;> omega)), gin_nI hj (by decide)]
              rcases hx with hx | hx
              · rw [if_pos (by rw [lt_I]; exact hx)]
                rfl
              · rw [if_neg (by rw [lt_I]; have : (0 : Int32).toInt = 0 := rfl; omega), gin_nI hj (by decide), nI_clamp (show j < 2 ^ 31 by omega), t4, if_neg]
                · rfl
                · have e : nI m - (0 : Int32) - (1 : Int32) = nI m - nI 1 := by rw [Int32.sub_zero]; rfl
                  rw [e, le_I, Int32.toInt_sub, nI_toInt (by omega), nI_toInt (by omega), Int.bmod_eq_of_le (by omega) (by omega)]
                  omega
            exact ⟨100, whileO_inr l1, whileO_inr l2⟩
      · rw [if_neg s1, if_neg s1]
        exact ⟨_, rfl, rfl⟩
/-! shift -/
theorem gL_sL_s (u : Mem) (a : Nat) (f : Nat → Int64) : gL (sLr u a f) a = f := by rw [gL_sLr, if_pos rfl]
theorem gL_sL_n {u : Mem} {a b : Nat} {f : Nat → Int64} (h : b ≠ a) : gL (sLr u a f) b = gL u b := by rw [gL_sLr, if_neg h]
theorem sLr_sLr (u : Mem) (a : Nat) (f g : Nat → Int64) : sLr (sLr u a f) a g = sLr u a g := by
  unfold sLr
  congr 4
  exact up1_twice
theorem sLr_swap (u : Mem) {a b : Nat} (f g : Nat → Int64) (h : a ≠ b) : sLr (sLr u a f) b g = sLr (sLr u b g) a f := by
  unfold sLr
  congr 4
  exact up1_swap h
theorem shiftM {v : Mem} {j k a b c : Nat} (hj : j < 6) (hk : k < 6) (ha : a + c ≤ 60) (hb : b + c ≤ 60) :
    ∃ f g, whileO (fun s => f_X8_shift_L104 (nI c) (nI k) (nI b) (nI j) (nI a) s.1 s.2) FUEL ((0 : Int32), v) = some (nI c, sLr (sLr v 128 f) 127 g) ∧ ∀ x, g x = if 60 * k + b ≤ x ∧ x < 60 * k + b + c then gL v 127 (60 * j + a + (x - (60 * k + b))) else gL v 127 x := by
  have h := while_F (body := fun s : Int32 × Mem => f_X8_shift_L104 (nI c) (nI k) (nI b) (nI j) (nI a) s.1 s.2) c (fun i s => ∃ f, s = (nI i, sLr v 128 f) ∧ ∀ x, x < i → f x = gL v 127 (60 * j + a + x)) (fun r => ∃ f g, r = (nI c, sLr (sLr v 128 f) 127 g) ∧ ∀ x, g x = if 60 * k + b ≤ x ∧ x < 60 * k + b + c then gL v 127 (60 * j + a + (x - (60 * k + b))) else gL v 127 x) (s := ((0 : Int32), v)) (by omega) ⟨gL v 128, by rw [sLr_self]; rfl, fun x hx => absurd hx (Nat.not_lt_zero x)⟩ ?_ ?_
  · obtain ⟨r, h1, f, g, rfl, h2⟩ := h
    exact ⟨f, g, h1, h2⟩
  · rintro i s hi ⟨f, rfl, hf⟩
    refine Or.inl ?_
    show ∃ s', f_X8_shift_L104 (nI c) (nI k) (nI b) (nI j) (nI a) (nI i) (sLr v 128 f) = some (Sum.inl s') ∧ _
    unfold f_X8_shift_L104
    rw [if_neg (by (simp (disch := omega) only [le_I, lt_I, eq_I, nI_toInt, Int32.reduceToInt, ne_eq] <;> omega)), e60, nI_add, gin_nI (show 60 * j + a + i < 360 by omega) (by decide), gin_nI (show i < 60 by omega) (by decide), nI_clamp (by omega), nI_clamp (by omega), sL_sLr, nI_1, gL_sL_n (by decide)]
    refine ⟨_, rfl, _, rfl, fun x hx => ?_⟩
    show (if x = i then _ else f x) = _
    by_cases e : x = i
    · rw [if_pos e, e]
    · rw [if_neg e]; exact hf x (by omega)
  · rintro s ⟨f, rfl, hf⟩
    have h := while_F (body := fun s : Int32 × Mem => f_X8_shift_L141 (nI c) (nI k) (nI b) s.1 s.2) c (fun i s => ∃ g, s = (nI i, sLr (sLr v 128 f) 127 g) ∧ ∀ x, g x = if 60 * k + b ≤ x ∧ x < 60 * k + b + i then f (x - (60 * k + b)) else gL v 127 x) (fun r => ∃ g, r = Sum.inr (nI c, sLr (sLr v 128 f) 127 g) ∧ ∀ x, g x = if 60 * k + b ≤ x ∧ x < 60 * k + b + c then f (x - (60 * k + b)) else gL v 127 x) (s := ((0 : Int32), sLr v 128 f)) (by omega) ⟨gL v 127, ?_, ?_⟩ ?_ ?_
    · obtain ⟨r, h1, g, rfl, h2⟩ := h
      refine ⟨_, ?_, f, g, rfl, fun x => ?_⟩
      · show f_X8_shift_L104 (nI c) (nI k) (nI b) (nI j) (nI a) (nI c) (sLr v 128 f) = _
        unfold f_X8_shift_L104
        rw [if_pos (by (simp (disch := omega) only [le_I, lt_I, eq_I, nI_toInt, Int32.reduceToInt, ne_eq] <;> omega))]
        exact h1
      · rw [h2 x]
        by_cases e : 60 * k + b ≤ x ∧ x < 60 * k + b + c
        · rw [if_pos e, if_pos e, hf _ (by omega)]
        · rw [if_neg e, if_neg e]
    · have e : gL v 127 = gL (sLr v 128 f) 127 := (gL_sL_n (by decide)).symm
      rw [e, sLr_self]
      rfl
    · intro x
      rw [if_neg (by omega)]
    · rintro i s hi ⟨g, rfl, hg⟩
      refine Or.inl ?_
      show ∃ s', f_X8_shift_L141 (nI c) (nI k) (nI b) (nI i) (sLr (sLr v 128 f) 127 g) = some (Sum.inl s') ∧ _
      unfold f_X8_shift_L141
      rw [if_neg (by (simp (disch := omega) only [le_I, lt_I, eq_I, nI_toInt, Int32.reduceToInt, ne_eq] <;> omega)), e60, nI_add, gin_nI (show i < 60 by omega) (by decide), gin_nI (show 60 * k + b + i < 360 by omega) (by decide), nI_clamp (by omega), nI_clamp (by omega), sL_sLr, nI_1, gL_sL_n (by decide), gL_sL_s]
      refine ⟨_, rfl, _, rfl, fun x => ?_⟩
      show (if x = 60 * k + b + i then f i else g x) = _
      rw [hg x]
      by_cases e : x = 60 * k + b + i
      · rw [if_pos e, if_pos (by omega), e]
        congr 1
        omega
      · rw [if_neg e]
        by_cases e2 : 60 * k + b ≤ x ∧ x < 60 * k + b + i
        · rw [if_pos e2, if_pos (by omega)]
        · rw [if_neg e2, if_neg (by omega)]
    · rintro s ⟨g, rfl, hg⟩
      refine ⟨_, ?_, g, rfl, hg⟩
      show f_X8_shift_L141 (nI c) (nI k) (nI b) (nI c) _ = _
      unfold f_X8_shift_L141
      rw [if_pos (by (simp (disch := omega) only [le_I, lt_I, eq_I, nI_toInt, Int32.reduceToInt, ne_eq] <;> omega))]
theorem shift_TAP {u : Mem} {j k a b c m1 m2 : Nat} {f g : Nat → Int64} (hj : j < 6) (hk : k < 6) (ha : a + c ≤ 60) (hb : b + c ≤ 60) (hg : ∀ x, g x = if 60 * k + b ≤ x ∧ x < 60 * k + b + c then gL u 127 (60 * j + a + (x - (60 * k + b))) else gL u 127 x) (h : TAP u) :
    TAP (sLr (sLr (sCL u (71 + 2 * j) a (71 + 2 * k) b c) 128 f) 127 g) := by
  intro q hq
  obtain ⟨s, m, hs, hm, t1, t2, t3, t4, t5⟩ := h q hq
  refine ⟨s, m, hs, hm, t1, t2, t3, t4, fun i hi => ?_⟩
  rw [gL_sL_n (by omega), gL_sL_n (by omega), gL_sL_s, hg]
  unfold sCL
  by_cases e : q = k
  · subst e
    rw [gL_sL_s]
    show (if b ≤ i ∧ i < b + c then gL u (71 + 2 * j) (a + (i - b)) else gL u (71 + 2 * q) i) = _
    by_cases e2 : b ≤ i ∧ i < b + c
    · obtain ⟨s', m', -, -, -, -, -, -, t5'⟩ := h j hj
      rw [if_pos e2, if_pos (by omega), t5' _ (by omega)]
      congr 1
      omega
    · rw [if_neg e2, if_neg (by omega), t5 i hi]
  · rw [gL_sL_n (by omega), if_neg (by omega), t5 i hi]
theorem st_shift {u : Mem} (hI : Inv u) (t x o y n : Int32) : okS u (f_X7_shift t x o y n u) (f_X8_shift t x o y n) := by
  have hI0 := hI
  obtain ⟨K, w, B, pgs, hA⟩ := hI
  have h7 := hA.2.2.2.2.2.2.1
  unfold f_X7_shift
  cases ht : wn t 6
  · rw [pbind_of (tapeAt_f ht)]
    show okS u (Option.bind (f_X7_tapeAt o u) _) _
    have hM : f_X8_shift t x o y n u = some (-1, u) := by unfold f_X8_shift; rw [pbind_of isTape_eq, ht]; exact if_pos bf
    cases ho : wn o 6
    · rw [pbind_of (tapeAt_f ho)]
      exact ⟨_, _, _, rfl, hM, hI0⟩
    · obtain ⟨k, hk, rfl⟩ := wn_of ho
      rw [pbind_of (tapeAt_t hk)]
      show okS u (gob 129 (70 + 2 * k) l5 _) _
      rw [gob_t (l5_ok k hk)]
      exact ⟨_, _, _, rfl, hM, hI0⟩
  · obtain ⟨j, hj, rfl⟩ := wn_of ht
    rw [pbind_of (tapeAt_t hj)]
    show okS u (gob 129 (70 + 2 * j) l5 _) _
    rw [gob_t (l5_ok j hj)]
    cases ho : wn o 6
    · rw [pbind_of (tapeAt_f ho)]
      exact ⟨_, _, _, rfl, (by unfold f_X8_shift; rw [pbind_of isTape_eq, ht, if_neg bt, pbind_of isTape_eq, ho]; exact if_pos bf), hI0⟩
    · obtain ⟨k, hk, rfl⟩ := wn_of ho
      rw [pbind_of (tapeAt_t hk)]
      show okS u (gob 129 (70 + 2 * k) l5 _) _
      rw [gob_t (l5_ok k hk)]
      obtain ⟨s, m, hs, hm, t1, t2, t3, t4, t5⟩ := h7 j hj
      obtain ⟨s', m', hs', hm', t1', t2', t3', t4', t5'⟩ := h7 k hk
      have hM : ∀ r u2, (if s < 0 then some ((-11 : Int32), u) else if 0 ≤ s' then (if s = s' then (if n < 0 then some ((-13 : Int32), u) else (if x < 0 then some ((-13 : Int32), u) else (if y < 0 then some ((-13 : Int32), u) else (if (nI m - n) < x then some ((-13 : Int32), u) else (if y ≤ nI m' - n then whileO (fun s => f_X8_shift_L104 n (nI k) y (nI j) x s.1 s.2) FUEL ((0 : Int32), u) else some ((-13 : Int32), u)))))) else some ((-12 : Int32), u)) else some ((-11 : Int32), u)) = some (r, u2) → f_X8_shift (nI j) x (nI k) y n u = some (r, u2) := by
        intro r u2 h
        unfold f_X8_shift
        rw [pbind_of isTape_eq, ht, if_neg bt, pbind_of isTape_eq, ho, if_neg bt]
        simp only [gin_nI hj (show 6 ≤ 2147483648 by decide), gin_nI hk (show 6 ≤ 2147483648 by decide), nI_clamp (show j < 2 ^ 31 by omega), nI_clamp (show k < 2 ^ 31 by omega), t2, t2', t4, t4']
        exact h
      rw [t1, t1']
      rcases neg_s hs with ⟨q1, -, q3, q4⟩ | ⟨q1, q3, q4⟩
      · rw [if_pos q1]
        exact ⟨_, _, _, rfl, hM _ _ (by rw [if_pos q3]), hI0⟩
      · rw [if_neg q1]
        rcases neg_s hs' with ⟨p1, -, p3, p4⟩ | ⟨p1, p3, p4⟩
        · rw [if_pos p1]
          exact ⟨_, _, _, rfl, hM _ _ (by rw [if_neg q3, if_neg p4]), hI0⟩
        · rw [if_neg p1]
          by_cases hss : s = s'
          · rw [if_pos hss]
            by_cases hn : n < 0
            · rw [if_pos hn]
              exact ⟨_, _, _, rfl, hM _ _ (by rw [if_neg q3, if_pos p4, if_pos hss, if_pos hn]), hI0⟩
            · rw [if_neg hn]
              have hn0 : 0 ≤ n.toInt := by
                rw [lt_I] at hn
                have : (0 : Int32).toInt = 0 := rfl
                omega
              have hn2 := Int32.toInt_lt n
              have hsub : ∀ M : Nat, M ≤ 60 → (nI M - n).toInt = M - n.toInt := by
                intro M hM
                rw [Int32.toInt_sub, nI_toInt (by omega), Int.bmod_eq_of_le (by omega) (by omega)]
              rcases countFrom_eq (x := x) t3 hm with ⟨q, hq, rfl, hc⟩ | ⟨hx, hc⟩
              · rw [pbind_of hc]
                by_cases h1 : nI (m - q) < n
                · rw [if_pos h1]
                  refine ⟨_, _, _, rfl, hM (-13) u ?_, hI0⟩
                  rw [if_neg q3, if_pos p4, if_pos hss, if_neg hn, if_neg (by (simp (disch := omega) only [le_I, lt_I, eq_I, nI_toInt, Int32.reduceToInt, ne_eq] <;> omega))]
                  have h2 : nI m - n < nI q := by
                    rw [lt_I, hsub m hm, nI_toInt (by omega)]
                    rw [lt_I, nI_toInt (by omega)] at h1
                    omega
                  rw [if_pos h2]
                  split <;> rfl
                · rw [if_neg h1]
                  have h2 : ¬ nI m - n < nI q := by
                    rw [lt_I, hsub m hm, nI_toInt (by omega)]
                    rw [lt_I, nI_toInt (by omega)] at h1
                    omega
                  rcases countFrom_eq (x := y) t3' hm' with ⟨p, hp, rfl, hc'⟩ | ⟨hy, hc'⟩
                  · rw [pbind_of hc']
                    by_cases h3 : n ≤ nI (m' - p)
                    · rw [if_pos h3]
                      obtain ⟨c, hcl, rfl⟩ : ∃ c, c < 61 ∧ n = nI c := nI_in0 hn0 (by rw [le_I, nI_toInt (by omega)] at h3; omega)
                      have e1 : q + c ≤ m := by
                        rw [lt_I, nI_toInt (by omega), nI_toInt (by omega)] at h1
                        omega
                      have e2 : p + c ≤ m' := by
                        rw [le_I, nI_toInt (by omega), nI_toInt (by omega)] at h3
                        omega
                      have hg : gcp (nI q) (nI p) (nI c) 60 60 (some (nI c, sCL u (70 + 2 * j + 1) (nI q).toNatClampNeg (70 + 2 * k + 1) (nI p).toNatClampNeg (nI c).toNatClampNeg)) = some (nI c, sCL u (71 + 2 * j) q (71 + 2 * k) p c) := by
                        unfold gcp
                        rw [nI_clamp (by omega), nI_clamp (by omega), nI_clamp (by omega), if_pos ⟨⟨by (simp (disch := omega) only [le_I, lt_I, eq_I, nI_toInt, Int32.reduceToInt, ne_eq] <;> omega), by (simp (disch := omega) only [le_I, lt_I, eq_I, nI_toInt, Int32.reduceToInt, ne_eq] <;> omega), by (simp (disch := omega) only [le_I, lt_I, eq_I, nI_toInt, Int32.reduceToInt, ne_eq] <;> omega)⟩, by omega, by omega⟩, show 70 + 2 * j + 1 = 71 + 2 * j by omega, show 70 + 2 * k + 1 = 71 + 2 * k by omega]
                      rw [hg]
                      obtain ⟨f, g, l1, l2⟩ := shiftM (v := sCL u (71 + 2 * j) q (71 + 2 * k) p c) (a := q) (b := p) (c := c) hj hk (by omega) (by omega)
                      have l3 : ∀ x, g x = if 60 * k + p ≤ x ∧ x < 60 * k + p + c then gL u 127 (60 * j + q + (x - (60 * k + p))) else gL u 127 x := by
                        intro x
                        rw [l2 x]
                        unfold sCL
                        rw [gL_sL_n (by omega)]
                      have hI2 : Inv (sLr (sLr (sCL u (71 + 2 * j) q (71 + 2 * k) p c) 128 f) 127 g) := ⟨K, w, B, pgs, hA.tape ((((Agr.rf _ _ _).slr (by unfold SP; omega)).slr (by unfold SP; omega)).slr (by unfold SP; omega)) (shift_TAP (m1 := m) (m2 := m') hj hk (by omega) (by omega) l3 h7)⟩
                      refine ⟨_, _, _, rfl, ?_, hI2⟩
                      unfold f_X8_shift
                      rw [pbind_of isTape_eq, ht, if_neg bt, pbind_of isTape_eq, ho, if_neg bt]
                      have g5 : gA (sCL u (71 + 2 * j) q (71 + 2 * k) p c) 125 = gA u 125 := rfl
                      have g6 : gA (sCL u (71 + 2 * j) q (71 + 2 * k) p c) 126 = gA u 126 := rfl
                      simp only [gin_nI hj (show 6 ≤ 2147483648 by decide), gin_nI hk (show 6 ≤ 2147483648 by decide), nI_clamp (show j < 2 ^ 31 by omega), nI_clamp (show k < 2 ^ 31 by omega), g5, g6, t2, t2', t4, t4']
                      rw [if_neg q3, if_pos p4, if_pos hss, if_neg hn, if_neg (by (simp (disch := omega) only [le_I, lt_I, eq_I, nI_toInt, Int32.reduceToInt, ne_eq] <;> omega)), if_neg (by (simp (disch := omega) only [le_I, lt_I, eq_I, nI_toInt, Int32.reduceToInt, ne_eq] <;> omega)), if_neg h2, if_pos]
                      · exact l1
                      · rw [le_I, hsub m' hm', nI_toInt (by omega), nI_toInt (by omega)]
                        omega
                    · rw [if_neg h3]
                      refine ⟨_, _, _, rfl, hM (-13) u ?_, hI0⟩
                      rw [if_neg q3, if_pos p4, if_pos hss, if_neg hn, if_neg (by (simp (disch := omega) only [le_I, lt_I, eq_I, nI_toInt, Int32.reduceToInt, ne_eq] <;> omega)), if_neg (by (simp (disch := omega) only [le_I, lt_I, eq_I, nI_toInt, Int32.reduceToInt, ne_eq] <;> omega)), if_neg h2, if_neg]
                      rw [le_I, hsub m' hm', nI_toInt (by omega)]
                      rw [le_I, nI_toInt (by omega)] at h3
                      omega
                  · rw [pbind_of hc']
                    have h3 : ¬ n ≤ -1 := by
                      rw [le_I]
                      have : (-1 : Int32).toInt = -1 := rfl
                      omega
                    rw [if_neg h3]
                    refine ⟨_, _, _, rfl, hM (-13) u ?_, hI0⟩
                    rw [if_neg q3, if_pos p4, if_pos hss, if_neg hn, if_neg (by (simp (disch := omega) only [le_I, lt_I, eq_I, nI_toInt, Int32.reduceToInt, ne_eq] <;> omega))]
                    rcases hy with hy | hy
                    · rw [if_pos (by rw [lt_I]; exact hy)]
                    · rw [if_neg (by rw [lt_I]; have : (0 : Int32).toInt = 0 := rfl; omega), if_neg h2, if_neg]
                      rw [le_I, hsub m' hm']
                      omega
              · rw [pbind_of hc]
                have h3 : (-1 : Int32) < n := by
                  rw [lt_I]
                  have : (-1 : Int32).toInt = -1 := rfl
                  omega
                rw [if_pos h3]
                refine ⟨_, _, _, rfl, hM (-13) u ?_, hI0⟩
                rw [if_neg q3, if_pos p4, if_pos hss, if_neg hn]
                rcases hx with hx | hx
                · rw [if_pos (by rw [lt_I]; exact hx)]
                · rw [if_neg (by rw [lt_I]; have : (0 : Int32).toInt = 0 := rfl; omega)]
                  have h2 : nI m - n < x := by
                    rw [lt_I, hsub m hm]
                    omega
                  rw [if_pos h2]
                  split <;> rfl
          · rw [if_neg hss]
            exact ⟨_, _, _, rfl, hM _ _ (by rw [if_neg q3, if_pos p4, if_neg hss]), hI0⟩
