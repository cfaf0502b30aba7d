def okR (a b : Option Int32) : Prop := ∃ r, a = some r ∧ b = some r
theorem st_count {u : Mem} (hI : Inv u) (x : Int32) : okR (f_X7_count x u) (f_X8_count x u) := by
  obtain ⟨K, w, B, pgs, h1, h2, h3, ⟨m, hm, t1, t2, -⟩, ⟨-, -, -, ⟨m1, -, s1, s2, -⟩, ⟨m2, -, p1, p2, -⟩, ⟨m3, -, b1, b2, -⟩⟩, ⟨m4, -, g1, g2, -⟩, h7, h8⟩ := hI
  have n1 := h1.1.1.2
  have n2 := h1.2.2.1.1
  unfold f_X7_count f_X8_count
  rw [n1, n2, t1, t2, s1, s2, p1, p2, b1, b2, g1, g2, h2.2.1, h2.2.2.1]
  unfold okR
  repeat' split
  all_goals exact ⟨_, rfl, rfl⟩
theorem st_looked {u : Mem} (hI : Inv u) : okR (f_X7_looked u) (f_X8_looked u) := by
  obtain ⟨K, w, B, pgs, h1, h2, h3, h4, ⟨-, -, -, -, -, ⟨m, hm, b1, b2, hb⟩⟩, h6, h7, h8⟩ := hI
  obtain ⟨⟨hn6, hn1⟩, -⟩ := h1.1
  have a5 := h1.2.1.2.2.2.2
  have b5 := h1.2.2.2.1.2.2.2.2
  have hs : ∀ i, i < m → ∃ o : Int32 ⊕ Int32, f_X7_looked_L2 u (nI i) = some o ∧ f_X8_looked_L2 u (nI i) = some o ∧ (o = .inl (nI (i + 1)) ∨ o = .inr (nI i)) := by
    intro i hi
    obtain ⟨p, hp, e1, e2, e3⟩ := hb i hi
    have hp6 : p < 6 := by omega
    have c1 : f_X7_looked_L2 u (nI i) = some (if wK w p = gA u 109 i then .inl (nI (i + 1)) else .inr (nI i)) := by
      unfold f_X7_looked_L2
      rw [b1, if_neg (by (simp (disch := omega) only [le_I, lt_I, eq_I, nI_toInt, Int32.reduceToInt, ne_eq] <;> omega)), gin_nI (show i < 10 by omega) (by decide), gin_nI (show i < 10 by omega) (by decide), nI_clamp (by omega), e1, pbind_of (isPerson_eq hn6 hn1), wn_nI hp (by omega), if_neg bt, gin_nI hp6 (by decide), nI_clamp (by omega), show gA u 7 p = wK w p from a5 p hp6, e3, nI_1]
      split <;> rfl
    have c2 : f_X8_looked_L2 u (nI i) = some (if wK w p = gA u 109 i then .inl (nI (i + 1)) else .inr (nI i)) := by
      unfold f_X8_looked_L2
      rw [b2, if_neg (by (simp (disch := omega) only [le_I, lt_I, eq_I, nI_toInt, Int32.reduceToInt, ne_eq] <;> omega)), gin_nI (show i < 8 by omega) (by decide), gin_nI (show i < 8 by omega) (by decide), nI_clamp (by omega), e2, gin_nI hp6 (by decide), nI_clamp (by omega), b5 p hp6, nI_1]
      split <;> rfl
    refine ⟨_, c1, c2, ?_⟩
    split
    · exact Or.inl rfl
    · exact Or.inr rfl
  have he : f_X7_looked_L2 u (nI m) = some (.inr (-5)) ∧ f_X8_looked_L2 u (nI m) = some (.inr (-5)) := by
    constructor
    · unfold f_X7_looked_L2
      rw [b1, if_pos (by (simp (disch := omega) only [le_I, lt_I, eq_I, nI_toInt, Int32.reduceToInt, ne_eq] <;> omega))]
    · unfold f_X8_looked_L2
      rw [b2, if_pos (by (simp (disch := omega) only [le_I, lt_I, eq_I, nI_toInt, Int32.reduceToInt, ne_eq] <;> omega))]
  have key : ∀ (d i n : Nat), i + d = m → d < n → ∃ r, whileO (fun s => f_X7_looked_L2 u s) n (nI i) = some r ∧ whileO (fun s => f_X8_looked_L2 u s) n (nI i) = some r := by
    intro d
    induction d with
    | zero =>
      intro i n hi hn
      obtain ⟨n, rfl⟩ := Nat.exists_eq_succ_of_ne_zero (by omega : n ≠ 0)
      have : i = m := by omega
      subst this
      exact ⟨_, whileO_inr he.1, whileO_inr he.2⟩
    | succ d ih =>
      intro i n hi hn
      obtain ⟨n, rfl⟩ := Nat.exists_eq_succ_of_ne_zero (by omega : n ≠ 0)
      obtain ⟨o, q1, q2, rfl | rfl⟩ := hs i (by omega)
      · obtain ⟨r, r1, r2⟩ := ih (i + 1) n (by omega) (by omega)
        exact ⟨r, (whileO_inl q1).trans r1, (whileO_inl q2).trans r2⟩
      · exact ⟨_, whileO_inr q1, whileO_inr q2⟩
  exact key m 0 FUEL (by omega) (by show m < 5000; omega)
theorem st_trace {u : Mem} (hI : Inv u) (x : Int32) : okR (f_X7_trace x u) (f_X8_trace x u) := by
  obtain ⟨K, w, B, pgs, h1, h2, h3, h4, h5, ⟨m, hm, g1, g2, hg⟩, h7, h8⟩ := hI
  unfold f_X7_trace f_X8_trace
  have hmin : (imin (nI m) (20 : Int32)).toInt = ((if 20 < m then 20 else m : Nat) : Int) := by
    unfold imin
    by_cases q : 20 < m
    · rw [if_pos q, if_pos (by (simp (disch := omega) only [le_I, lt_I, eq_I, nI_toInt, Int32.reduceToInt, ne_eq] <;> omega))]; rfl
    · rw [if_neg q, if_neg (by (simp (disch := omega) only [le_I, lt_I, eq_I, nI_toInt, Int32.reduceToInt, ne_eq] <;> omega)), nI_toInt (by omega)]
  rw [g1, g2, pbind_of (isWithin_eq hmin), pbind_of (in_eq (N := 20) rfl)]
  cases hx : wn x 20
  · have hx2 : wn x (if 20 < m then 20 else m) = false := by
      unfold wn at hx ⊢
      rw [decide_eq_false_iff_not] at hx ⊢
      intro q
      apply hx
      split at q <;> omega
    rw [hx2]
    exact ⟨_, if_pos bf, if_pos bf⟩
  · obtain ⟨i, hi, rfl⟩ := wn_of hx
    rw [if_neg bt]
    by_cases q : i < m
    · rw [wn_nI (by split <;> omega) (by omega), if_neg bt, if_neg (by (simp (disch := omega) only [le_I, lt_I, eq_I, nI_toInt, Int32.reduceToInt, ne_eq] <;> omega)), gin_nI hi (by decide), gin_nI hi (by decide), nI_clamp (by omega), hg i q hi]
      exact ⟨_, rfl, rfl⟩
    · have hx2 : wn (nI i) (if 20 < m then 20 else m) = false := by
        unfold wn
        rw [decide_eq_false_iff_not, nI_toInt (by omega)]
        intro z
        split at z <;> omega
      rw [hx2, if_pos bf, if_pos (by (simp (disch := omega) only [le_I, lt_I, eq_I, nI_toInt, Int32.reduceToInt, ne_eq] <;> omega))]
      exact ⟨_, rfl, rfl⟩

theorem kindUnder_eq {u : Mem} {k : Nat} {x : Int32} (hk : k < 7) (hx : wn x 7 = true) : ∃ d, d < 7 ∧ x = nI d ∧ f_X7_isKindUnder (nI k) (nI d) u = some (if d = 0 ∨ k = d ∨ (d = 1 ∧ k = 4) ∨ (d = 2 ∧ k = 5) ∨ (d = 3 ∧ k = 6) then 1 else 0) := by
  obtain ⟨d, hd, rfl⟩ := wn_of hx
  refine ⟨d, hd, rfl, ?_⟩
  have h : ∀ k, k < 7 → ∀ d, d < 7 → whileO (fun s => f_X7_isKindUnder_L4 (nI d) s.1 s.2) 10 (nI k, (0 : Int32)) = some (if d = 0 ∨ k = d ∨ (d = 1 ∧ k = 4) ∨ (d = 2 ∧ k = 5) ∨ (d = 3 ∧ k = 6) then 1 else 0) := by decide +kernel
  have hmono : ∀ {σ ρ : Type} (body : σ → Option (σ ⊕ ρ)) (n m : Nat) (s : σ) (r : ρ), whileO body n s = some r → whileO body (n + m) s = some r := by
    intro σ ρ body n
    induction n with
    | zero => intro m s r h; cases h
    | succ n ih =>
      intro m s r h
      obtain ⟨X, hX, h2⟩ := while_s h
      rw [Nat.add_right_comm]
      cases X with
      | inl s' => exact (whileO_inl hX).trans (ih m s' r h2)
      | inr q => exact (whileO_inr hX).trans (congrArg some h2)
  exact hmono _ 10 4990 _ _ (h k hk d hd)
theorem st_taken {u : Mem} (hI : Inv u) (p x : Int32) : okR (f_X7_taken p x u) (f_X8_taken p x u) := by
  obtain ⟨K, w, B, pgs, h1, -⟩ := hI
  obtain ⟨⟨hn6, hn1⟩, -, a3, -⟩ := h1.1
  have hm1 := h1.2.2.1.1
  have b3 := h1.2.2.1.2.2.1
  have hr := h1.2.2.2.2.1
  unfold f_X7_taken f_X8_taken
  rw [pbind_of (isWithin_eq (N := 7) rfl), pbind_of (in_eq (N := 7) rfl)]
  cases hx : wn x 7
  · exact ⟨_, if_pos bf, if_pos bf⟩
  · rw [if_neg bt, if_neg bt, pbind_of (isPerson_eq hn6 hn1), pbind_of (isOne_eq hn6 hm1)]
    cases hp : wn p (cN K)
    · exact ⟨_, if_pos bf, if_pos bf⟩
    · obtain ⟨i, hi, rfl⟩ := wn_of hp
      have hi6 : i < 6 := by omega
      obtain ⟨k, hk, hke⟩ := hr i hi6
      have e1 : gA u 4 i = nI k := (a3 i hi6).1.trans hke
      have e2 : gA u 83 i = nI k := (b3 i hi6).1.trans hke
      rw [if_neg bt, if_neg bt, gin_nI hi6 (by decide), gin_nI hi6 (by decide), nI_clamp (by omega), e1, e2]
      obtain ⟨d, hd, rfl, hku⟩ := kindUnder_eq (u := u) hk hx
      rw [pbind_of hku]
      have hfin : ∀ k, k < 7 → ∀ d, d < 7 → (if (if d = 0 ∨ k = d ∨ (d = 1 ∧ k = 4) ∨ (d = 2 ∧ k = 5) ∨ (d = 3 ∧ k = 6) then (1 : Int32) else 0) = 0 then some (-12 : Int32) else some (nI k)) = (if nI d = 0 then some (nI k) else (if nI k = nI d then some (nI k) else (if nI d = (1 : Int32) then (if nI k = (4 : Int32) then some (nI k) else (if nI d = (2 : Int32) then (if nI k = (5 : Int32) then some (nI k) else (if nI d = (3 : Int32) then (if nI k = (6 : Int32) then some (nI k) else some (-12 : Int32)) else some (-12 : Int32))) else (if nI d = (3 : Int32) then (if nI k = (6 : Int32) then some (nI k) else some (-12 : Int32)) else some (-12 : Int32)))) else (if nI d = (2 : Int32) then (if nI k = (5 : Int32) then some (nI k) else (if nI d = (3 : Int32) then (if nI k = (6 : Int32) then some (nI k) else some (-12 : Int32)) else some (-12 : Int32))) else (if nI d = (3 : Int32) then (if nI k = (6 : Int32) then some (nI k) else some (-12 : Int32)) else some (-12 : Int32)))))) := by decide +kernel
      rw [hfin k hk d hd]
      have hsome : ∀ o : Option Int32, (∃ r, o = some r) → okR o o := fun o ⟨r, hr⟩ => ⟨r, hr, hr⟩
      refine hsome _ ?_
      repeat' split
      all_goals exact ⟨_, rfl⟩
