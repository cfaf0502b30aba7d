/-! plan -/
def plT (p1 p2 : Int32) (u : Mem) : Option (Int32 × Mem) := (if (gI u 82 41) = (10 : Int32) then some ((-4 : Int32), u) else gin (gI u 82 41) 10 ((if p1 ≤ 0 then gin (gI (sA u 106 (gI u 82 41).toNatClampNeg p1) 82 41) 10 (some (gI (sI (sA (sA u 106 (gI u 82 41).toNatClampNeg p1) 107 (gI (sA u 106 (gI u 82 41).toNatClampNeg p1) 82 41).toNatClampNeg (0 : Int32)) 82 41 ((gI (sA (sA u 106 (gI u 82 41).toNatClampNeg p1) 107 (gI (sA u 106 (gI u 82 41).toNatClampNeg p1) 82 41).toNatClampNeg (0 : Int32)) 82 41) + (1 : Int32))) 82 41, sI (sA (sA u 106 (gI u 82 41).toNatClampNeg p1) 107 (gI (sA u 106 (gI u 82 41).toNatClampNeg p1) 82 41).toNatClampNeg (0 : Int32)) 82 41 ((gI (sA (sA u 106 (gI u 82 41).toNatClampNeg p1) 107 (gI (sA u 106 (gI u 82 41).toNatClampNeg p1) 82 41).toNatClampNeg (0 : Int32)) 82 41) + (1 : Int32)))) else gin (gI (sA u 106 (gI u 82 41).toNatClampNeg p1) 82 41) 10 (some (gI (sI (sA (sA u 106 (gI u 82 41).toNatClampNeg p1) 107 (gI (sA u 106 (gI u 82 41).toNatClampNeg p1) 82 41).toNatClampNeg p2) 82 41 ((gI (sA (sA u 106 (gI u 82 41).toNatClampNeg p1) 107 (gI (sA u 106 (gI u 82 41).toNatClampNeg p1) 82 41).toNatClampNeg p2) 82 41) + (1 : Int32))) 82 41, sI (sA (sA u 106 (gI u 82 41).toNatClampNeg p1) 107 (gI (sA u 106 (gI u 82 41).toNatClampNeg p1) 82 41).toNatClampNeg p2) 82 41 ((gI (sA (sA u 106 (gI u 82 41).toNatClampNeg p1) 107 (gI (sA u 106 (gI u 82 41).toNatClampNeg p1) 82 41).toNatClampNeg p2) 82 41) + (1 : Int32)))))))
theorem plT_eq {v : Mem} {m : Nat} {p1 p2 : Int32} (hm : m ≤ 10) (h : gI v 82 41 = nI m) : plT p1 p2 v = if m = 10 then some (-4, v) else some (nI (m + 1), sI (sA (sA v 106 m p1) 107 m (if p1 ≤ 0 then 0 else p2)) 82 41 (nI (m + 1))) := by
  unfold plT
  simp only [gI_sA, gI_sI_s, h]
  by_cases q : m = 10
  · rw [if_pos q, if_pos (by rw [q]; rfl)]
  · rw [if_neg q, if_neg (by (simp (disch := omega) only [le_I, lt_I, eq_I, nI_toInt, Int32.reduceToInt, ne_eq] <;> omega))]
    simp only [gin_nI (show m < 10 by omega) (show 10 ≤ 2147483648 by decide), nI_clamp (show m < 2 ^ 31 by omega), nI_1]
    by_cases h0 : p1 ≤ 0
    · rw [if_pos h0, if_pos h0]
    · rw [if_neg h0, if_neg h0]
theorem planM_eq (p1 p2 : Int32) (u : Mem) : f_X8_plan p1 p2 u = (if p1 = (-1 : Int32) then some ((0 : Int32), sI u 82 41 (0 : Int32)) else Option.bind (f_X8_in p1 (0 : Int32) (3 : Int32)) (fun r2 => (if r2 = 0 then some ((-1 : Int32), u) else Option.bind (f_X8_in p1 (1 : Int32) (2 : Int32)) (fun r4 => (if r4 = 0 then (if p1 = (3 : Int32) then Option.bind (f_X8_isSeat p2 u) (fun r12 => (if r12 = 0 then some ((-1 : Int32), u) else plT p1 p2 u)) else plT p1 p2 u) else Option.bind (f_X8_isOne p2 u) (fun r19 => (if r19 = 0 then some ((-1 : Int32), u) else (if p1 = (3 : Int32) then Option.bind (f_X8_isSeat p2 u) (fun r27 => (if r27 = 0 then some ((-1 : Int32), u) else plT p1 p2 u)) else plT p1 p2 u)))))))) := rfl
theorem isSeat_eq {x : Int32} {u : Mem} {n : Nat} (hn : n ≤ 6) (h : gI u 82 0 = nI n) : f_X8_isSeat x u = some (bI (decide (0 ≤ x.toInt) && (wn (x / (10 : Int32)) n && wn (x - x / (10 : Int32) * (10 : Int32)) 4))) := by
  unfold f_X8_isSeat
  by_cases h1 : x < 0
  · rw [if_pos h1, decide_eq_false (by rw [lt_I] at h1; have : (0 : Int32).toInt = 0 := rfl; omega)]
    rfl
  · rw [if_neg h1, decide_eq_true (by rw [lt_I] at h1; have : (0 : Int32).toInt = 0 := rfl; omega), pbind_of (isOne_eq hn h)]
    cases wn (x / (10 : Int32)) n
    · rfl
    · rw [if_neg bt, pbind_of isCarriage_eq]
      cases wn (x - x / (10 : Int32) * (10 : Int32)) 4 <;> rfl
theorem planP_add {N m : Nat} {a b c a' b' : Nat → Int32} {x y z y' : Int32} (hm : m < 10) (h : ∀ i, i < m → (a i = 0 ∧ a' i = 0 ∧ b' i = 0) ∨ (∃ p k, p < N ∧ 1 ≤ k ∧ k ≤ 2 ∧ a i = nI k ∧ a' i = nI k ∧ b i = nI p ∧ b' i = nI p) ∨ ∃ p k, p < N ∧ k < 4 ∧ a i = 3 ∧ a' i = 3 ∧ b i = nI p ∧ c i = nI k ∧ b' i = nI (10 * p + k))
    (hx : (x = 0 ∧ y' = 0) ∨ (∃ p k, p < N ∧ 1 ≤ k ∧ k ≤ 2 ∧ x = nI k ∧ y = nI p ∧ y' = nI p) ∨ ∃ p k, p < N ∧ k < 4 ∧ x = 3 ∧ y = nI p ∧ z = nI k ∧ y' = nI (10 * p + k)) :
    planP N (nI (m + 1)) (nI (m + 1)) (upd a m x) (upd b m y) (upd c m z) (upd a' m x) (upd b' m y') := by
  refine ⟨m + 1, by omega, rfl, rfl, fun i hi => ?_⟩
  by_cases q : i = m
  · subst q
    rw [upd_s, upd_s, upd_s, upd_s, upd_s]
    rcases hx with ⟨h1, h2⟩ | ⟨p, k, h1, h2, h3, h4, h5, h6⟩ | ⟨p, k, h1, h2, h3, h4, h5, h6⟩
    · exact Or.inl ⟨h1, h1, h2⟩
    · exact Or.inr (Or.inl ⟨p, k, h1, h2, h3, h4, h4, h5, h6⟩)
    · exact Or.inr (Or.inr ⟨p, k, h1, h2, h3, h3, h4, h5, h6⟩)
  · rw [upd_n q, upd_n q, upd_n q, upd_n q, upd_n q]
    exact h i (by omega)
/-- a row that is good comes to both -/
theorem plan_add {u : Mem} {x y z p2 : Int32} (hI : Inv u) (hM : ∀ v : Mem, (∀ K w B pgs, InvA u K w B pgs → gI v 82 0 = nI (cN K)) → f_X8_plan x p2 v = plT x p2 v)
    (hx : ∀ K w B pgs, InvA u K w B pgs → (x = 0 ∧ (if x ≤ 0 then 0 else p2) = 0) ∨ (∃ p k, p < cN K ∧ 1 ≤ k ∧ k ≤ 2 ∧ x = nI k ∧ y = nI p ∧ (if x ≤ 0 then 0 else p2) = nI p) ∨ ∃ p k, p < cN K ∧ k < 4 ∧ x = 3 ∧ y = nI p ∧ z = nI k ∧ (if x ≤ 0 then 0 else p2) = nI (10 * p + k)) :
    okS u (obind (f_X2_append 42 x y z u) (fun r20 u20 => some (r20, u20))) (f_X8_plan x p2) := by
  have hI0 := hI
  obtain ⟨K, w, B, pgs, hA⟩ := hI
  have hx := hx K w B pgs hA
  obtain ⟨f1, f2, f3, hse, ⟨m, hm, h38, h37, hs⟩, hbo⟩ := hA.2.2.2.2.1
  have hone : ∀ K' w' B' pgs', InvA u K' w' B' pgs' → gI u 82 0 = nI (cN K') := fun K' w' B' pgs' h => h.1.2.2.1.1
  by_cases q : m = 10
  · rw [obind_of (appendC_full (M := 10) (by rw [h38, q]) f2 (by decide))]
    refine ⟨_, _, _, rfl, ?_, hI0⟩
    rw [hM u hone, plT_eq hm h37, if_pos q]
  · rw [obind_of (appendC h38 (M := 10) f2 (by decide) (by omega))]
    have hI2 : Inv (sI (sA (sA (sI (sA (sA (sA u 43 m x) 44 m y) 45 m z) 42 4 (nI (m + 1))) 106 m x) 107 m (if x ≤ 0 then 0 else p2)) 82 41 (nI (m + 1))) := by
      refine ⟨K, w, B, pgs, hA.notes ((((((((Agr.rf _ _ _).sa ?_).sa ?_).sa ?_).si ?_ ?_).sa ?_).sa ?_).si ?_ ?_) ⟨f1, f2, f3, hse, planP_add (by omega) hs hx, hbo⟩⟩ <;> first | (unfold SN; omega) | (unfold FN; omega) | omega
    refine ⟨_, _, _, rfl, ?_, hI2⟩
    refine (hM (sI (sA (sA (sA u 43 m x) 44 m y) 45 m z) 42 4 (nI (m + 1))) hone).trans ?_
    refine (plT_eq (v := sI (sA (sA (sA u 43 m x) 44 m y) 45 m z) 42 4 (nI (m + 1))) hm h37).trans ?_
    rw [if_neg q]
theorem in12_f {x : Int32} (h : wn x 4 = true) : f_X8_in x (1 : Int32) (2 : Int32) = some (bI (decide (x = 1 ∨ x = 2))) := by
  obtain ⟨k, hk, rfl⟩ := wn_of h
  have hk : k = 0 ∨ k = 1 ∨ k = 2 ∨ k = 3 := by omega
  rcases hk with rfl | rfl | rfl | rfl <;> rfl
theorem st_plan {u : Mem} (hI : Inv u) (x y : Int32) : okS u (f_X7_plan x y u) (f_X8_plan x y) := by
  have hI0 := hI
  obtain ⟨K, w, B, pgs, hA⟩ := hI
  obtain ⟨⟨hn6, hn1⟩, -⟩ := hA.1.1
  have hm1 := hA.1.2.2.1.1
  have hKN : ∀ K' w' B' pgs', InvA u K' w' B' pgs' → cN K' = cN K := fun K' w' B' pgs' h => by
    have h1 := h.1.1.1
    have h2 : nI (cN K') = nI (cN K) := h1.2.symm.trans hn1
    rwa [nI_eq (by omega) (by omega)] at h2
  unfold f_X7_plan
  by_cases h1 : x = -1
  · obtain ⟨f1, f2, f3, hse, hpl, hbo⟩ := hA.2.2.2.2.1
    rw [if_pos h1, obind_of clearC]
    have hI2 : Inv (sI (sI u 42 4 0) 82 41 0) := ⟨K, w, B, pgs, hA.notes (((Agr.rf _ _ _).si (by unfold SN; omega) (by omega)).si (by unfold SN; omega) (by unfold FN; omega)) ⟨f1, f2, f3, hse, ⟨0, by decide, rfl, rfl, fun i hi => absurd hi (Nat.not_lt_zero i)⟩, hbo⟩⟩
    exact ⟨_, _, _, rfl, (by rw [planM_eq, if_pos h1]), hI2⟩
  · rw [if_neg h1]
    by_cases h3 : x = 3
    · subst h3
      rw [if_pos rfl]
      have hw : wn 3 4 = true := by decide
      have hM : ∀ v : Mem, gI v 82 0 = nI (cN K) → f_X8_plan 3 y v = if (decide (0 ≤ y.toInt) && (wn (y / (10 : Int32)) (cN K) && wn (y - y / (10 : Int32) * (10 : Int32)) 4)) = true then plT 3 y v else some (-1, v) := by
        intro v hv
        rw [planM_eq, if_neg h1, pbind_of (in_eq (N := 4) rfl), hw, if_neg bt, pbind_of (in12_f hw), show decide ((3 : Int32) = 1 ∨ (3 : Int32) = 2) = false from by decide, if_pos bf, if_pos rfl, pbind_of (isSeat_eq hn6 hv)]
        cases (decide (0 ≤ y.toInt) && (wn (y / (10 : Int32)) (cN K) && wn (y - y / (10 : Int32) * (10 : Int32)) 4))
        · rw [if_pos bf, if_neg (by decide)]
        · rw [if_neg bt, if_pos rfl]
      have hno : (decide (0 ≤ y.toInt) && (wn (y / (10 : Int32)) (cN K) && wn (y - y / (10 : Int32) * (10 : Int32)) 4)) = false → okS u (some ((-1 : Int32), u)) (f_X8_plan 3 y) := fun h => ⟨_, _, _, rfl, (by rw [hM u hm1, h, if_neg (by decide)]), hI0⟩
      by_cases hy : y < 0
      · have hy0 : decide (0 ≤ y.toInt) = false := decide_eq_false (by rw [lt_I] at hy; have : (0 : Int32).toInt = 0 := rfl; omega)
        have hp0 : wn y (cN K) = false := decide_eq_false (by rw [lt_I] at hy; have : (0 : Int32).toInt = 0 := rfl; omega)
        rw [if_pos hy, pbind_of (isWithin_eq (N := 4) rfl), hw, if_neg bt, if_neg (by decide), pbind_of (isPerson_eq hn6 hn1), hp0, if_pos bf]
        exact hno (by rw [hy0]; rfl)
      · have hy0 : decide (0 ≤ y.toInt) = true := decide_eq_true (by rw [lt_I] at hy; have : (0 : Int32).toInt = 0 := rfl; omega)
        rw [if_neg hy, pbind_of (isWithin_eq (N := 4) rfl), hw, if_neg bt, if_neg (by decide), pbind_of (isPerson_eq hn6 hn1)]
        cases hp : wn (y / (10 : Int32)) (cN K)
        · rw [if_pos bf]
          exact hno (by rw [hy0, hp]; rfl)
        · rw [if_neg bt, pbind_of (isWithin_eq (N := 4) rfl)]
          cases hc : wn (y - y / (10 : Int32) * (10 : Int32)) 4
          · rw [if_pos bf]
            exact hno (by rw [hy0, hp, hc]; rfl)
          · rw [if_neg bt]
            refine plan_add hI0 (fun v hv => ?_) (fun K' w' B' pgs' h' => Or.inr (Or.inr ?_))
            · rw [hM v (hv _ _ _ _ hA), hy0, hp, hc]; exact if_pos rfl
            · obtain ⟨n, hn, rfl⟩ : ∃ n : Nat, n < 2 ^ 31 ∧ y = nI n := nI_in0 (of_decide_eq_true hy0) (by have := Int32.toInt_lt y; omega)
              rw [hKN _ _ _ _ h']
              rw [show (10 : Int32) = nI 10 from rfl, nI_rem hn (by decide), nI_div hn (by decide)] at *
              obtain ⟨p, hp1, hp2⟩ := wn_of hp
              obtain ⟨c, hc1, hc2⟩ := wn_of hc
              refine ⟨p, c, hp1, hc1, rfl, hp2, hc2, ?_⟩
              rw [nI_eq (by omega) (by omega)] at hp2 hc2
              rw [if_neg (by decide), ← hp2, ← hc2, Nat.div_add_mod]
    · rw [if_neg h3, pbind_of (isWithin_eq (N := 4) rfl)]
      cases hw : wn x 4
      · rw [if_pos bf]
        exact ⟨_, _, _, rfl, (by rw [planM_eq, if_neg h1, pbind_of (in_eq (N := 4) rfl), hw, if_pos bf]), hI0⟩
      · rw [if_neg bt]
        by_cases h0 : x = 0
        · subst h0
          rw [if_pos rfl, pbind_of (isWithin_eq (N := 4) rfl), show wn 0 4 = true from by decide, if_neg bt]
          refine plan_add hI0 (fun v hv => ?_) (fun K' w' B' pgs' h' => Or.inl ⟨rfl, if_pos (by decide)⟩)
          rw [planM_eq, if_neg h1, pbind_of (in_eq (N := 4) rfl), hw, if_neg bt, pbind_of (in12_f hw), show decide ((0 : Int32) = 1 ∨ (0 : Int32) = 2) = false from by decide, if_pos bf, if_neg (by decide)]
        · have h12 : decide (x = 1 ∨ x = 2) = true ∧ ∃ k, 1 ≤ k ∧ k ≤ 2 ∧ x = nI k := by
            obtain ⟨k, hk, rfl⟩ := wn_of hw
            have hk : k = 0 ∨ k = 1 ∨ k = 2 ∨ k = 3 := by omega
            rcases hk with rfl | rfl | rfl | rfl
            · exact absurd rfl h0
            · exact ⟨by decide, 1, by decide, by decide, rfl⟩
            · exact ⟨by decide, 2, by decide, by decide, rfl⟩
            · exact absurd rfl h3
          have hM : ∀ v : Mem, gI v 82 0 = nI (cN K) → f_X8_plan x y v = if wn y (cN K) = true then plT x y v else some (-1, v) := by
            intro v hv
            rw [planM_eq, if_neg h1, pbind_of (in_eq (N := 4) rfl), hw, if_neg bt, pbind_of (in12_f hw), h12.1, if_neg bt, pbind_of (isOne_eq hn6 hv), if_neg h3]
            cases wn y (cN K)
            · rw [if_pos bf, if_neg (by decide)]
            · rw [if_neg bt, if_pos rfl]
          rw [if_neg h0, pbind_of (isPerson_eq hn6 hn1)]
          cases hp : wn y (cN K)
          · rw [if_pos bf]
            exact ⟨_, _, _, rfl, (by rw [hM u hm1, hp, if_neg (by decide)]), hI0⟩
          · rw [if_neg bt, pbind_of (isWithin_eq (N := 4) rfl), show wn 0 4 = true from by decide, if_neg bt]
            refine plan_add hI0 (fun v hv => ?_) (fun K' w' B' pgs' h' => Or.inr (Or.inl ?_))
            · rw [hM v (hv _ _ _ _ hA), hp, if_pos rfl]
            · obtain ⟨p, hp1, rfl⟩ := wn_of hp
              obtain ⟨-, k, hk1, hk2, rfl⟩ := h12
              rw [hKN _ _ _ _ h']
              exact ⟨p, k, hp1, hk1, hk2, rfl, rfl, if_neg (by (simp (disch := omega) only [le_I, lt_I, eq_I, nI_toInt, Int32.reduceToInt, ne_eq] <;> omega))⟩
/-! one -/
theorem seenP.mono {N N' : Nat} {n n' : Int32} {a b c a' b' c' : Nat → Int32} (hN : N ≤ N') (h : seenP N n n' a b c a' b' c') : seenP N' n n' a b c a' b' c' := by
  obtain ⟨m, hm, h1, h2, h3⟩ := h
  refine ⟨m, hm, h1, h2, fun i hi => ?_⟩
  obtain ⟨p, x, q1, q2⟩ := h3 i hi
  exact ⟨p, x, by omega, q2⟩
theorem bookP.mono {N N' : Nat} {n n' : Int32} {a b a' b' : Nat → Int32} (hN : N ≤ N') (h : bookP N n n' a b a' b') : bookP N' n n' a b a' b' := by
  obtain ⟨m, hm, h1, h2, h3⟩ := h
  refine ⟨m, hm, h1, h2, fun i hi => ?_⟩
  obtain ⟨p, q1, q2⟩ := h3 i hi
  exact ⟨p, by omega, q2⟩
theorem planP.mono {N N' : Nat} {n n' : Int32} {a b c a' b' : Nat → Int32} (hN : N ≤ N') (h : planP N n n' a b c a' b') : planP N' n n' a b c a' b' := by
  obtain ⟨m, hm, h1, h2, h3⟩ := h
  refine ⟨m, hm, h1, h2, fun i hi => ?_⟩
  rcases h3 i hi with q | ⟨p, k, q1, q2⟩ | ⟨p, k, q1, q2⟩
  · exact Or.inl q
  · exact Or.inr (Or.inl ⟨p, k, by omega, q2⟩)
  · exact Or.inr (Or.inr ⟨p, k, by omega, q2⟩)
theorem InvA.keepN {u v : Mem} {K K' : gK8} {w w' : gW5} {B : Nat} {pgs : Nat → gPg} (h : InvA u K w B pgs) (hk : Keep u v) (hn : NOW v K' w') (hN : cN K ≤ cN K') (hP : cP K' = cP K) : InvA v K' w' B pgs := by
  obtain ⟨h1, h2, h3, h4, h5, h6, h7, h8⟩ := h
  obtain ⟨n1, n2, n3, n4, n5, n6⟩ := h5.keep hk
  refine ⟨hn, h2.keep hk, ?_, h4.keep hk, ⟨n1, n2, n3, n4.mono hN, n5.mono hN, n6.mono hN⟩, h6.keep hk, h7.keep hk, h8.keep hk⟩
  rw [hk.I 82 13 (by decide), hk.2.1 1 (by decide), hP]
  exact h3
def one1 (u : Mem) (N : Nat) (k x c t : Int32) : Mem := sI (sA (sA (sA (sA u 4 N k) 5 N x) 6 N c) 7 N t) 1 9 (nI (N + 1))
def one2 (u : Mem) (N : Nat) (k x c t off : Int32) (f : Nat → Int32) : Mem := sI (sAr (sI (sA (sA (sA (sA u 83 N k) 84 N x) 85 N c) 86 N t) 82 1 off) 87 f) 82 0 (nI (N + 1))
theorem one_v {u : Mem} {K : gK8} {w : gW5} {N : Nat} {k x c t off : Int32} {f : Nat → Int32} (h : NOW u K w) (hN : cN K = N) (h6 : N < 6) (hk : ∃ z, z < 7 ∧ k = nI z) (hx : ∃ z, z < 10 ∧ x = nI z) (hc : ∃ z, z < 4 ∧ c = nI z) (ht : ∃ z, z < 256 ∧ t = nI z)
    (hoff : ∀ i, i < 6 → bit off i = if i = N then false else bit (gI u 82 1) i) (hf : ∀ j, j < 24 → f j = cR K j) :
    NOW (one2 (one1 u N k x c t) N k x c t off f) (N + 1, cH K, upd (cK K) N k, upd (cV K) N x, upd (cC K) N c, cO K, cR K, cP K) (wS w, wP w, wM w, wO w, upd (wK w) N t) := by
  obtain ⟨⟨a1, a2, a3, a4⟩, ⟨s1, s2, s3, s4, s5⟩, ⟨b1, b2, b3, b4⟩, ⟨r1, r2, r3, r4, r5⟩, ⟨c1, c2, c3, c4, c5, d1, d2, d3, d4, d5⟩⟩ := h
  have h2 : gA (one2 (one1 u N k x c t) N k x c t off f) 2 = gA u 2 := by simp (disch := decide) only [one2, one1, gA_sI, gA_sAr_s, gA_sAr_n, gA_sA_s, gA_sA_n]
  have h3 : gA (one2 (one1 u N k x c t) N k x c t off f) 3 = gA u 3 := by simp (disch := decide) only [one2, one1, gA_sI, gA_sAr_s, gA_sAr_n, gA_sA_s, gA_sA_n]
  have h4 : gA (one2 (one1 u N k x c t) N k x c t off f) 4 = upd (gA u 4) N k := by simp (disch := decide) only [one2, one1, gA_sI, gA_sAr_s, gA_sAr_n, gA_sA_s, gA_sA_n]
  have h5 : gA (one2 (one1 u N k x c t) N k x c t off f) 5 = upd (gA u 5) N x := by simp (disch := decide) only [one2, one1, gA_sI, gA_sAr_s, gA_sAr_n, gA_sA_s, gA_sA_n]
  have h6 : gA (one2 (one1 u N k x c t) N k x c t off f) 6 = upd (gA u 6) N c := by simp (disch := decide) only [one2, one1, gA_sI, gA_sAr_s, gA_sAr_n, gA_sA_s, gA_sA_n]
  have h7 : gA (one2 (one1 u N k x c t) N k x c t off f) 7 = upd (gA u 7) N t := by simp (disch := decide) only [one2, one1, gA_sI, gA_sAr_s, gA_sAr_n, gA_sA_s, gA_sA_n]
  have h8 : gA (one2 (one1 u N k x c t) N k x c t off f) 8 = gA u 8 := by simp (disch := decide) only [one2, one1, gA_sI, gA_sAr_s, gA_sAr_n, gA_sA_s, gA_sA_n]
  have h9 : gA (one2 (one1 u N k x c t) N k x c t off f) 9 = gA u 9 := by simp (disch := decide) only [one2, one1, gA_sI, gA_sAr_s, gA_sAr_n, gA_sA_s, gA_sA_n]
  have h83 : gA (one2 (one1 u N k x c t) N k x c t off f) 83 = upd (gA u 83) N k := by simp (disch := decide) only [one2, one1, gA_sI, gA_sAr_s, gA_sAr_n, gA_sA_s, gA_sA_n]
  have h84 : gA (one2 (one1 u N k x c t) N k x c t off f) 84 = upd (gA u 84) N x := by simp (disch := decide) only [one2, one1, gA_sI, gA_sAr_s, gA_sAr_n, gA_sA_s, gA_sA_n]
  have h85 : gA (one2 (one1 u N k x c t) N k x c t off f) 85 = upd (gA u 85) N c := by simp (disch := decide) only [one2, one1, gA_sI, gA_sAr_s, gA_sAr_n, gA_sA_s, gA_sA_n]
  have h86 : gA (one2 (one1 u N k x c t) N k x c t off f) 86 = upd (gA u 86) N t := by simp (disch := decide) only [one2, one1, gA_sI, gA_sAr_s, gA_sAr_n, gA_sA_s, gA_sA_n]
  have h87 : gA (one2 (one1 u N k x c t) N k x c t off f) 87 = f := by simp (disch := decide) only [one2, one1, gA_sI, gA_sAr_s, gA_sAr_n, gA_sA_s, gA_sA_n]
  have h88 : gA (one2 (one1 u N k x c t) N k x c t off f) 88 = gA u 88 := by simp (disch := decide) only [one2, one1, gA_sI, gA_sAr_s, gA_sAr_n, gA_sA_s, gA_sA_n]
  have h89 : gA (one2 (one1 u N k x c t) N k x c t off f) 89 = gA u 89 := by simp (disch := decide) only [one2, one1, gA_sI, gA_sAr_s, gA_sAr_n, gA_sA_s, gA_sA_n]
  have i9 : gI (one2 (one1 u N k x c t) N k x c t off f) 1 9 = nI (N + 1) := by unfold one2 one1; simp only [gI_sI, gI_sA, gI_sAr] <;> rfl
  have i10 : gI (one2 (one1 u N k x c t) N k x c t off f) 1 10 = gI u 1 10 := by unfold one2 one1; simp only [gI_sI, gI_sA, gI_sAr] <;> rfl
  have i11 : gI (one2 (one1 u N k x c t) N k x c t off f) 1 11 = gI u 1 11 := by unfold one2 one1; simp only [gI_sI, gI_sA, gI_sAr] <;> rfl
  have i12 : gI (one2 (one1 u N k x c t) N k x c t off f) 1 12 = gI u 1 12 := by unfold one2 one1; simp only [gI_sI, gI_sA, gI_sAr] <;> rfl
  have j0 : gI (one2 (one1 u N k x c t) N k x c t off f) 82 0 = nI (N + 1) := by unfold one2 one1; simp only [gI_sI, gI_sA, gI_sAr] <;> rfl
  have j1 : gI (one2 (one1 u N k x c t) N k x c t off f) 82 1 = off := by unfold one2 one1; simp only [gI_sI, gI_sA, gI_sAr] <;> rfl
  have j2 : gI (one2 (one1 u N k x c t) N k x c t off f) 82 2 = gI u 82 2 := by unfold one2 one1; simp only [gI_sI, gI_sA, gI_sAr] <;> rfl
  have j3 : gI (one2 (one1 u N k x c t) N k x c t off f) 82 3 = gI u 82 3 := by unfold one2 one1; simp only [gI_sI, gI_sA, gI_sAr] <;> rfl
  have j4 : gI (one2 (one1 u N k x c t) N k x c t off f) 82 4 = gI u 82 4 := by unfold one2 one1; simp only [gI_sI, gI_sA, gI_sAr] <;> rfl
  generalize one2 (one1 u N k x c t) N k x c t off f = Y at *
  have K1 : KC0 Y 1 (N + 1, cH K, upd (cK K) N k, upd (cV K) N x, upd (cC K) N c, cO K, cR K, cP K) := by
    refine ⟨⟨by show N + 1 ≤ 6; omega, i9⟩, fun i hi => ?_, fun i hi => ⟨?_, ?_, ?_, ?_⟩, fun i hi => ?_⟩
    · show gA Y 2 i = _
      rw [h2]; exact a2 i hi
    · show gA Y 4 i = _
      rw [h4]; exact upd_cong (fun j hj => (a3 j hj).1) rfl i hi
    · show gA Y 5 i = _
      rw [h5]; exact upd_cong (fun j hj => (a3 j hj).2.1) rfl i hi
    · show gA Y 6 i = _
      rw [h6]; exact upd_cong (fun j hj => (a3 j hj).2.2.1) rfl i hi
    · show gA Y 8 i = _
      rw [h8]; exact (a3 i hi).2.2.2
    · show gA Y 9 i = _
      rw [h9]; exact a4 i hi
  have K2 : WC Y 1 (wS w, wP w, wM w, wO w, upd (wK w) N t) := by
    refine ⟨i10.trans s1, i11.trans s2, i12.trans s3, fun i hi => ?_, fun i hi => ?_⟩
    · show gA Y 3 i = _
      rw [h3]; exact s4 i hi
    · show gA Y 7 i = _
      rw [h7]; exact upd_cong s5 rfl i hi
  have K3 : KMg (gI Y 82 0) (gI Y 82 1) (gA Y 83) (gA Y 84) (gA Y 85) (gA Y 87) (gA Y 89) (N + 1, cH K, upd (cK K) N k, upd (cV K) N x, upd (cC K) N c, cO K, cR K, cP K) := by
    rw [j0, j1, h83, h84, h85, h87, h89]
    refine ⟨rfl, b2, fun i hi => ⟨upd_cong (fun j hj => (b3 j hj).1) rfl i hi, upd_cong (fun j hj => (b3 j hj).2.1) rfl i hi, upd_cong (fun j hj => (b3 j hj).2.2.1) rfl i hi, ?_⟩, hf⟩
    show bI (bit off i) = cO K i
    rw [hoff i hi]
    by_cases q : i = N
    · rw [if_pos q, c4 i hi (by omega)]; rfl
    · rw [if_neg q]; exact (b3 i hi).2.2.2
  have K4 : WMg (gI Y 82 2) (gI Y 82 3) (gI Y 82 4) (gA Y 88) (gA Y 86) (wS w, wP w, wM w, wO w, upd (wK w) N t) := by
    rw [j2, j3, j4, h88, h86]
    exact ⟨r1, r2, r3, r4, fun i hi => upd_cong r5 rfl i hi⟩
  refine ⟨K1, K2, K3, K4, upd_in c1 hk, upd_in c2 hc, upd_in c3 ht, ?_, ?_, d1, d2, upd_in d3 hx, d4, d5⟩
  · intro i hi hn
    have hn : N + 1 ≤ i := hn
    exact c4 i hi (by omega)
  · intro i hi hn
    have hn : 4 * (N + 1) ≤ i := hn
    exact c5 i hi (by omega)
theorem keep_one {u : Mem} {N : Nat} {k x c t off : Int32} {f : Nat → Int32} : Keep u (one2 (one1 u N k x c t) N k x c t off f) := by
  refine ⟨rfl, fun _ _ => rfl, rfl, fun y j h1 h2 h3 => ?_, fun a h1 h2 h3 h4 => ?_⟩
  · unfold one2 one1
    rw [gI_sI, if_neg (by omega), gI_sAr, gI_sI, if_neg (by omega), gI_sA, gI_sA, gI_sA, gI_sA, gI_sI, if_neg (by omega)]
    rfl
  · unfold one2 one1
    rw [gA_sI, gA_sAr_n (by omega), gA_sI, gA_sA_n (by omega), gA_sA_n (by omega), gA_sA_n (by omega), gA_sA_n (by omega), gA_sI, gA_sA_n (by omega), gA_sA_n (by omega), gA_sA_n (by omega), gA_sA_n (by omega)]
theorem oneM {v : Mem} {K : gK8} {N : Nat} {k x c t : Int32} (h0 : gI v 82 0 = nI N) (h6 : N < 6) (hk : wn k 7 = true) (hx : wn x 10 = true) (hc : wn c 4 = true) (ht : wn t 256 = true) (hR : ∀ j, j < 24 → gA v 87 j = cR K j) (hZ : ∀ j, j < 24 → 4 * N ≤ j → cR K j = 0) :
    ∃ f, (∀ j, j < 24 → f j = cR K j) ∧ f_X8_one k x c t v = some (nI N, one2 v N k x c t (gI v 82 1 &&& (((1 : Int32) <<< (nI N &&& 31)) ^^^ (-1 : Int32))) f) := by
  unfold f_X8_one
  rw [pbind_of (in_eq (N := 7) rfl), hk, if_neg bt, pbind_of isCarriage_eq, hc, if_neg bt, pbind_of (in_eq (N := 10) rfl), hx, if_neg bt, pbind_of isTales_eq, ht, if_neg bt]
  simp only [gI_sA, h0]
  rw [if_neg (by (simp (disch := omega) only [le_I, lt_I, eq_I, nI_toInt, Int32.reduceToInt, ne_eq] <;> omega))]
  simp only [gin_nI h6 (show 6 ≤ 2147483648 by decide), nI_clamp (show N < 2 ^ 31 by omega)]
  generalize gI v 82 1 &&& (((1 : Int32) <<< (nI N &&& 31)) ^^^ (-1 : Int32)) = off
  have hA : gA (sI (sA (sA (sA (sA v 83 N k) 84 N x) 85 N c) 86 N t) 82 1 off) 87 = gA v 87 := rfl
  have hI : gI (sI (sA (sA (sA (sA v 83 N k) 84 N x) 85 N c) 86 N t) 82 1 off) 82 0 = nI N := h0
  unfold one2
  generalize sI (sA (sA (sA (sA v 83 N k) 84 N x) 85 N c) 86 N t) 82 1 off = y at hA hI
  have h := while_F (body := fun s : Int32 × Mem => f_X8_one_L117 s.1 s.2) 4 (fun i s => ∃ f, s = (nI i, sAr y 87 f) ∧ ∀ j, j < 24 → f j = cR K j) (fun r => ∃ f, r = (nI N, sI (sAr y 87 f) 82 0 (nI (N + 1))) ∧ ∀ j, j < 24 → f j = cR K j) (s := ((0 : Int32), y)) (by decide) ⟨gA y 87, by rw [sAr_self]; rfl, fun j hj => by rw [hA]; exact hR j hj⟩ ?_ ?_
  · obtain ⟨r, h1, f, rfl, h2⟩ := h
    exact ⟨f, h2, h1⟩
  · rintro i s hi ⟨f, rfl, hf⟩
    refine Or.inl ?_
    show ∃ s', f_X8_one_L117 (nI i) (sAr y 87 f) = some (Sum.inl s') ∧ _
    unfold f_X8_one_L117
    rw [if_neg (by (simp (disch := omega) only [le_I, lt_I, eq_I, nI_toInt, Int32.reduceToInt, ne_eq] <;> omega)), gI_sAr, hI, show (4 : Int32) = nI 4 from rfl, nI_mul, nI_add, gin_nI (show 4 * N + i < 24 by omega) (by decide), nI_clamp (by omega), sA_sAr, nI_1]
    refine ⟨_, rfl, _, rfl, fun j hj => ?_⟩
    rw [upd_eq]
    by_cases q : j = 4 * N + i
    · rw [if_pos q, hZ j hj (by omega)]
    · rw [if_neg q]; exact hf j hj
  · rintro s ⟨f, rfl, hf⟩
    refine ⟨_, ?_, f, rfl, hf⟩
    show f_X8_one_L117 (nI 4) (sAr y 87 f) = _
    unfold f_X8_one_L117
    rw [if_pos (by (simp (disch := omega) only [le_I, lt_I, eq_I, nI_toInt, Int32.reduceToInt, ne_eq] <;> omega)), gI_sI_s, gI_sAr, hI, nI_1, nI_pred]
theorem st_one {u : Mem} (hI : Inv u) (k x c t : Int32) : okS u (f_X7_one k x c t u) (f_X8_one k x c t) := by
  have hI0 := hI
  obtain ⟨K, w, B, pgs, hA⟩ := hI
  obtain ⟨⟨hn6, hn1⟩, -⟩ := hA.1.1
  have hm1 := hA.1.2.2.1.1
  unfold f_X7_one
  rw [pbind_of (isWithin_eq (N := 7) rfl)]
  cases hk : wn k 7
  · exact ⟨_, _, _, if_pos bf, (by unfold f_X8_one; rw [pbind_of (in_eq (N := 7) rfl), hk]; exact if_pos bf), hI0⟩
  · rw [if_neg bt, pbind_of (isWithin_eq (N := 4) rfl)]
    cases hc : wn c 4
    · exact ⟨_, _, _, if_pos bf, (by unfold f_X8_one; rw [pbind_of (in_eq (N := 7) rfl), hk, if_neg bt, pbind_of isCarriage_eq, hc]; exact if_pos bf), hI0⟩
    · rw [if_neg bt, pbind_of (isUpTo_eq (N := 10) rfl)]
      cases hx : wn x 10
      · exact ⟨_, _, _, if_pos bf, (by unfold f_X8_one; rw [pbind_of (in_eq (N := 7) rfl), hk, if_neg bt, pbind_of isCarriage_eq, hc, if_neg bt, pbind_of (in_eq (N := 10) rfl), hx]; exact if_pos bf), hI0⟩
      · rw [if_neg bt, pbind_of (isUpTo_eq (N := 256) rfl)]
        cases ht : wn t 256
        · exact ⟨_, _, _, if_pos bf, (by unfold f_X8_one; rw [pbind_of (in_eq (N := 7) rfl), hk, if_neg bt, pbind_of isCarriage_eq, hc, if_neg bt, pbind_of (in_eq (N := 10) rfl), hx, if_neg bt, pbind_of isTales_eq, ht]; exact if_pos bf), hI0⟩
        · rw [if_neg bt]
          by_cases h6 : cN K = 6
          · have hb : f_X6_board 1 k x c t u = some (-4, u) := by
              unfold f_X6_board
              rw [hn1, if_neg (by (simp (disch := omega) only [le_I, lt_I, eq_I, nI_toInt, Int32.reduceToInt, ne_eq] <;> omega))]
            rw [obind_of hb]
            refine ⟨_, _, _, rfl, ?_, hI0⟩
            unfold f_X8_one
            rw [pbind_of (in_eq (N := 7) rfl), hk, if_neg bt, pbind_of isCarriage_eq, hc, if_neg bt, pbind_of (in_eq (N := 10) rfl), hx, if_neg bt, pbind_of isTales_eq, ht, if_neg bt, hm1, if_pos (by rw [h6]; rfl)]
          · obtain ⟨N, hN⟩ : ∃ N, N = cN K := ⟨_, rfl⟩
            rw [← hN] at hn1 hm1 h6 hn6
            have hb : f_X6_board 1 k x c t u = some (nI N, one1 u N k x c t) := by
              unfold f_X6_board one1
              simp only [gI_sA, hn1]
              rw [if_pos (by (simp (disch := omega) only [le_I, lt_I, eq_I, nI_toInt, Int32.reduceToInt, ne_eq] <;> omega))]
              simp only [gin_nI (show N < 6 by omega) (show 6 ≤ 2147483648 by decide), nI_clamp (show N < 2 ^ 31 by omega), nI_1]
            rw [obind_of hb]
            obtain ⟨f, hf, hM⟩ := oneM (v := one1 u N k x c t) (K := K) hm1 (by omega) hk hx hc ht hA.1.2.2.1.2.2.2 (fun j hj q => hA.1.2.2.2.2.2.2.2.2.1 j hj (by omega))
            have hI2 : Inv (one2 (one1 u N k x c t) N k x c t (gI (one1 u N k x c t) 82 1 &&& (((1 : Int32) <<< (nI N &&& 31)) ^^^ (-1 : Int32))) f) := by
              refine ⟨_, _, B, pgs, hA.keepN keep_one (one_v hA.1 hN.symm (by omega) (wn_of hk) (wn_of hx) (wn_of hc) (wn_of ht) ?_ hf) ?_ rfl⟩
              · intro i hi
                show bit (gI u 82 1 &&& _) i = _
                rw [bit_and _ _ (by omega), bit_nsh (by omega) (by omega)]
                by_cases q : i = N <;> simp [q]
              · show cN K ≤ N + 1
                omega
            exact ⟨_, _, _, rfl, hM, hI2⟩
