/-! odds, mean -/
theorem whileO_mono {σ ρ : Type} {b : σ → Option (σ ⊕ ρ)} {r : ρ} : ∀ {n m : Nat} {s : σ}, n ≤ m → whileO b n s = some r → whileO b m s = some r
  | 0, _, _, _, h => by cases h
  | n + 1, m, s, hm, h => by
    obtain ⟨m, rfl⟩ := Nat.exists_eq_succ_of_ne_zero (by omega : m ≠ 0)
    change (match b s with | none => none | some (.inl s') => whileO b n s' | some (.inr r) => some r) = some r at h
    show (match b s with | none => none | some (.inl s') => whileO b m s' | some (.inr r) => some r) = some r
    cases hb : b s with
    | none => rw [hb] at h; cases h
    | some o =>
      rw [hb] at h
      cases o with
      | inl s' => exact whileO_mono (by omega) h
      | inr r' => exact h
theorem whileO_same {σ ρ : Type} {b : σ → Option (σ ⊕ ρ)} {n : Nat} {s : σ} (hn : n ≤ 5000) (h : (whileO b n s).isSome = true) : whileO b FUEL s = whileO b n s := by
  obtain ⟨r, hr⟩ := Option.isSome_iff_exists.mp h
  rw [hr]
  exact whileO_mono hn hr
/-- the fraction of both, at the numbers that can come -/
def fr1 (a b : Nat) : Option Int32 := whileO (fun s => f_X8_divisor_L5 s.1 s.2) 20 (nI a, nI b)
theorem fr_dec : ∀ b, b < 9 → 0 < b → ∀ a, a < 49 → (fr1 a b).isSome = true ∧ (∀ d, fr1 a b = some d → d ≠ 0) ∧
    whileO (fun s => f_X7_ofFraction_L13b (nI a) (nI b) s) 20 (nI b) = (fr1 a b).map (fun d => (nI a / d).toInt64) ∧ whileO (fun s => f_X7_ofFraction_L13 (nI b) (nI a) s) 20 (nI b) = (fr1 a b).map (fun d => (nI b / d).toInt64) := by
  have h : ∀ b, b < 9 → 0 < b → ∀ a, a < 49 → (fr1 a b).isSome = true ∧ fr1 a b ≠ some 0 ∧
    whileO (fun s => f_X7_ofFraction_L13b (nI a) (nI b) s) 20 (nI b) = (fr1 a b).map (fun d => (nI a / d).toInt64) ∧ whileO (fun s => f_X7_ofFraction_L13 (nI b) (nI a) s) 20 (nI b) = (fr1 a b).map (fun d => (nI b / d).toInt64) := by decide +kernel
  intro b hb hb0 a ha
  obtain ⟨h1, h2, h3, h4⟩ := h b hb hb0 a ha
  exact ⟨h1, fun d hd q => h2 (by rw [hd, q]), h3, h4⟩
theorem frac_eq {a b : Nat} {p : Int32} (ha : a < 49) (hb : b < 9) (hb0 : 0 < b) : ∃ r, f_X7_ofFraction (nI a) (nI b) p = some r ∧ f_X8_lowest (nI a) (nI b) p = some r := by
  obtain ⟨h1, h2, h3, h4⟩ := fr_dec b hb hb0 a ha
  obtain ⟨d, hd⟩ := Option.isSome_iff_exists.mp h1
  have hdv : f_X8_divisor (nI a) (nI b) = some d := (whileO_same (n := 20) (by decide) h1).trans hd
  rw [hd] at h3 h4
  unfold f_X7_ofFraction f_X8_lowest
  rw [pbind_of hdv, gne_of (h2 d hd), gne_of (h2 d hd)]
  by_cases q : p = 0
  · rw [if_pos q, if_pos q]
    exact ⟨_, (whileO_same (n := 20) (by decide) (by rw [h3]; rfl)).trans h3, rfl⟩
  · rw [if_neg q, if_neg q]
    exact ⟨_, (whileO_same (n := 20) (by decide) (by rw [h4]; rfl)).trans h4, rfl⟩
def pop (k : Nat) : Nat := ((List.range 8).filter (fun i => k.testBit i)).length
def bitsL (k : Nat) : Option Int32 := whileO (fun s => f_X8_bits_L4 (nI k) s.1 s.2) 12 ((0 : Int32), (0 : Int32))
theorem pop_dec : ∀ k, k < 256 → pop k < 9 ∧ f_J6_bitCount_0f7a4 (nI k) = some (nI (pop k)) ∧ bitsL k = some (nI (pop k)) := by decide +kernel
theorem bits_eq {k : Nat} (h : k < 256) : f_X8_bits (nI k) = some (nI (pop k)) :=
  (whileO_same (n := 12) (b := fun s => f_X8_bits_L4 (nI k) s.1 s.2) (by decide) (by have := (pop_dec k h).2.2; unfold bitsL at this; rw [this]; rfl)).trans (pop_dec k h).2.2
theorem NO_eq : (-9223372036854775808 : Int64) = -9223372036854775808 := rfl
def okSL (u : Mem) (a : Option (Int64 × Mem)) (b : Mem → Option (Int64 × Mem)) : Prop := ∃ r u1 u2, a = some (r, u1) ∧ b u1 = some (r, u2) ∧ Inv u2
theorem st_mean {u : Mem} (hI : Inv u) (x y : Int32) : okSL u (f_X7_mean x y u) (f_X8_mean x y) := by
  have hI0 := hI
  obtain ⟨K, w, B, pgs, hA⟩ := hI
  obtain ⟨⟨hn6, hn1⟩, -⟩ := hA.1.1
  have hm1 := hA.1.2.2.1.1
  unfold f_X7_mean
  rw [pbind_of (isUpTo_eq (N := 31) rfl)]
  cases hx : wn x 31
  · exact ⟨_, _, _, if_pos bf, (by unfold f_X8_mean; rw [pbind_of isMinutes_eq, hx]; exact if_pos bf), hI0⟩
  · rw [if_neg bt, pbind_of (isWithin_eq (N := 2) rfl)]
    cases hy : wn y 2
    · exact ⟨_, _, _, if_pos bf, (by unfold f_X8_mean; rw [pbind_of isMinutes_eq, hx, if_neg bt, pbind_of (in_eq (N := 2) rfl), hy]; exact if_pos bf), hI0⟩
    · rw [if_neg bt, hn1]
      by_cases h0 : cN K = 0
      · rw [if_neg (by (simp (disch := omega) only [le_I, lt_I, eq_I, nI_toInt, Int32.reduceToInt, ne_eq] <;> omega))]
        exact ⟨_, _, _, rfl, (by unfold f_X8_mean; rw [pbind_of isMinutes_eq, hx, if_neg bt, pbind_of (in_eq (N := 2) rfl), hy, if_neg bt, hm1, if_pos (by rw [h0]; rfl)]), hI0⟩
      · rw [if_pos (by (simp (disch := omega) only [le_I, lt_I, eq_I, nI_toInt, Int32.reduceToInt, ne_eq] <;> omega))]
        obtain ⟨n, hn, rfl⟩ := wn_of hx
        refine ask hA (fun z hz hM => ?_)
        obtain ⟨v1, c1, c2⟩ := becomeA hA (Agr.rf _ _ _)
        obtain ⟨v2, d1, d2⟩ := rideA c2 (show n < 5000 by omega)
        obtain ⟨z1, e1, e2⟩ := saveA hM (Agr.rf _ _ _)
        obtain ⟨z2, g1, g2⟩ := goA e2 (show n < 5000 by omega)
        obtain ⟨z3, l1, l2, l3⟩ := putA g2 (sameK.rf K)
        unfold f_X8_mean
        rw [pbind_of isMinutes_eq, hx, if_neg bt, pbind_of (in_eq (N := 2) rfl), hy, if_neg bt, hM.1.1.2, if_neg (by (simp (disch := omega) only [le_I, lt_I, eq_I, nI_toInt, Int32.reduceToInt, ne_eq] <;> omega)), obind_of c1, obind_of d1, obind_of e1, obind_of g1]
        have hk := (ride_b hA.bd.1 hA.bd.2 n).2.2.2
        have key := while_2F (b1 := fun s : Int32 × Int32 => f_X7_mean_L56 v2 y s.1 s.2) (b2 := fun s : Int32 × Int32 => f_X8_mean_L43 z2 y s.1 s.2) (cN K) (fun i a b => ∃ s, s ≤ 8 * i ∧ a = (nI s, nI i) ∧ b = (nI s, nI i)) (fun r q => ∃ a, r = (a, v2) ∧ q = (a, z3)) (s := ((0 : Int32), (0 : Int32))) (t := ((0 : Int32), (0 : Int32))) (by omega) ⟨0, by decide, rfl, rfl⟩ ?_ ?_
        · obtain ⟨r, q, k1, k2, a, rfl, rfl⟩ := key
          exact ⟨a, v2, z3, k1, d2.2, k2, l2, l3⟩
        · rintro i a b hi ⟨s, hs, rfl, rfl⟩
          have hi6 : i < 6 := by omega
          obtain ⟨k, hk8, hke⟩ := hk i hi6
          obtain ⟨p1, p2, -⟩ := pop_dec k hk8
          refine Or.inl ⟨_, _, ?_, ?_, s + pop k, by omega, rfl, rfl⟩
          · show f_X7_mean_L56 v2 y (nI s) (nI i) = some (Sum.inl (nI (s + pop k), nI (i + 1)))
            unfold f_X7_mean_L56
            rw [d2.1.1.1.2, if_neg (by (simp (disch := omega) only [le_I, lt_I, eq_I, nI_toInt, Int32.reduceToInt, ne_eq] <;> omega)), gin_nI hi6 (by decide), nI_clamp (by omega), show gA v2 19 i = wK (rideS K n w) i from d2.1.2.2.2.2.2 i hi6, hke, pbind_of p2, nI_add, nI_1]
          · show f_X8_mean_L43 z2 y (nI s) (nI i) = some (Sum.inl (nI (s + pop k), nI (i + 1)))
            unfold f_X8_mean_L43
            rw [g2.1.1.1.2, if_neg (by (simp (disch := omega) only [le_I, lt_I, eq_I, nI_toInt, Int32.reduceToInt, ne_eq] <;> omega)), gin_nI hi6 (by decide), nI_clamp (by omega), g2.1.2.2.2.2.2 i hi6, hke, pbind_of (bits_eq hk8), nI_add, nI_1]
        · rintro a b ⟨s, hs, rfl, rfl⟩
          obtain ⟨r, q1, q2⟩ := frac_eq (a := s) (b := cN K) (p := y) (by omega) (by omega) (by omega)
          refine ⟨_, _, ?_, ?_, r, rfl, rfl⟩
          · show f_X7_mean_L56 v2 y (nI s) (nI (cN K)) = _
            unfold f_X7_mean_L56
            rw [d2.1.1.1.2, if_pos (by (simp (disch := omega) only [le_I, lt_I, eq_I, nI_toInt, Int32.reduceToInt, ne_eq] <;> omega)), pbind_of q1]
          · show f_X8_mean_L43 z2 y (nI s) (nI (cN K)) = _
            unfold f_X8_mean_L43
            rw [g2.1.1.1.2, if_pos (by (simp (disch := omega) only [le_I, lt_I, eq_I, nI_toInt, Int32.reduceToInt, ne_eq] <;> omega)), obind_of l1, l2.1.1.2, pbind_of q2]
theorem st_odds {u : Mem} (hI : Inv u) (p x y : Int32) : okSL u (f_X7_odds p x y u) (f_X8_odds p x y) := by
  have hI0 := hI
  obtain ⟨K, w, B, pgs, hA⟩ := hI
  obtain ⟨⟨hn6, hn1⟩, -⟩ := hA.1.1
  have hm1 := hA.1.2.2.1.1
  unfold f_X7_odds
  rw [pbind_of (isPerson_eq hn6 hn1)]
  cases hp : wn p (cN K)
  · exact ⟨_, _, _, if_pos bf, (by unfold f_X8_odds; rw [pbind_of (isOne_eq hn6 hm1), hp]; exact if_pos bf), hI0⟩
  · rw [if_neg bt, pbind_of (isUpTo_eq (N := 11) rfl)]
    cases hx : wn x 11
    · exact ⟨_, _, _, if_pos bf, (by unfold f_X8_odds; rw [pbind_of (isOne_eq hn6 hm1), hp, if_neg bt, pbind_of (in_eq (N := 11) rfl), hx]; exact if_pos bf), hI0⟩
    · rw [if_neg bt, pbind_of (isWithin_eq (N := 2) rfl)]
      cases hy : wn y 2
      · exact ⟨_, _, _, if_pos bf, (by unfold f_X8_odds; rw [pbind_of (isOne_eq hn6 hm1), hp, if_neg bt, pbind_of (in_eq (N := 11) rfl), hx, if_neg bt, pbind_of (in_eq (N := 2) rfl), hy]; exact if_pos bf), hI0⟩
      · rw [if_neg bt]
        obtain ⟨j, hj, rfl⟩ := wn_of hp
        obtain ⟨n, hn, rfl⟩ := wn_of hx
        have hj6 : j < 6 := by omega
        refine ask hA (fun z hz hM => ?_)
        obtain ⟨v1, c1, c2⟩ := becomeA hA (Agr.rf _ _ _)
        obtain ⟨v2, d1, d2⟩ := rideA c2 (show n < 5000 by omega)
        obtain ⟨z1, f1, f2, f3⟩ := (onM hM (nI n) 1).2.2 n (by omega) rfl (Or.inl ⟨by decide, by decide⟩)
        unfold f_X8_odds
        rw [pbind_of (isOne_eq hn6 hM.1.1.2), hp, if_neg bt, pbind_of (in_eq (N := 11) rfl), hx, if_neg bt, pbind_of (in_eq (N := 2) rfl), hy, if_neg bt, obind_of c1, obind_of d1, obind_of f1, show onV (rideS K n w) 1 = wP (rideS K n w) from rfl]
        have hv2 : gI v2 13 11 = wP (rideS K n w) := d2.1.2.2.1
        have key := while_2F (b1 := fun s : Int32 × Int32 × Mem => f_X7_odds_L63 y (nI j) (nI n) v2 s.1 s.2.1 s.2.2) (b2 := fun s : Int32 × Int32 × Mem => f_X8_odds_L47 y (nI j) (nI n) (wP (rideS K n w)) s.1 s.2.1 s.2.2) 8 (fun i a b => ∃ s v z', s ≤ i ∧ a = (nI s, nI i, v) ∧ b = (nI s, nI i, z') ∧ Agr S13 TT u v ∧ CM z' K w ∧ Agr SM FM z z') (fun r q => ∃ a v z', r = (a, v) ∧ q = (a, z') ∧ Agr S13 TT u v ∧ CM z' K w ∧ Agr SM FM z z') (s := ((0 : Int32), (0 : Int32), v2)) (t := ((0 : Int32), (0 : Int32), z1)) (by decide) ⟨0, v2, z1, by decide, rfl, rfl, d2.2, f2, f3⟩ ?_ ?_
        · obtain ⟨r, q, k1, k2, a, v, z', rfl, rfl, k3, k4, k5⟩ := key
          exact ⟨a, v, z', k1, k3, k2, k4, k5⟩
        · rintro i a b hi ⟨s, v, z', hs, rfl, rfl, hv, hz1, hz2⟩
          obtain ⟨v3, c3, c4⟩ := becomeA hA hv
          obtain ⟨k, hk, hke⟩ := hA.bd.2.2.2.2 j hj6
          have hkj : gA v3 19 j = wK w j := c4.1.2.2.2.2.2 j hj6
          obtain ⟨v4, d3, d4⟩ := rideA (setK c4 j (wK w j ||| ((1 : Int32) <<< (nI i &&& 31)))) (show n < 5000 by omega)
          obtain ⟨z3, e1, e2⟩ := saveA hz1 hz2
          have hkz : gA z3 86 j = wK w j := e2.1.2.2.2.2.2 j hj6
          obtain ⟨z4, g1, g2⟩ := goA (setKM e2 j (wK w j ||| ((1 : Int32) <<< (nI i &&& 31)))) (show n < 5000 by omega)
          obtain ⟨z5, l1, l2, l3⟩ := putA g2 (sameK.rf K)
          obtain ⟨P, hP⟩ : ∃ P, P = wP (rideS K n (wwK w j (wK w j ||| ((1 : Int32) <<< (nI i &&& 31))))) := ⟨_, rfl⟩
          have eC : f_X7_odds_L63 y (nI j) (nI n) v2 (nI s) (nI i) v = (if P ≤ wP (rideS K n w) then some (Sum.inl (nI s, (nI (i + 1), v4))) else some (Sum.inl (nI (s + 1), (nI (i + 1), v4)))) := by
            unfold f_X7_odds_L63
            rw [if_neg (by (simp (disch := omega) only [le_I, lt_I, eq_I, nI_toInt, Int32.reduceToInt, ne_eq] <;> omega)), obind_of c3, gin_nI hj6 (by decide), gin_nI hj6 (by decide), nI_clamp (by omega), hkj, obind_of d3, show gI v4 13 11 = P from d4.1.2.2.1.trans hP.symm, hv2, nI_1, nI_1]
          have eM : f_X8_odds_L47 y (nI j) (nI n) (wP (rideS K n w)) (nI s) (nI i) z' = (if P ≤ wP (rideS K n w) then some (Sum.inl (nI s, (nI (i + 1), z5))) else some (Sum.inl (nI (s + 1), (nI (i + 1), z5)))) := by
            unfold f_X8_odds_L47
            rw [if_neg (by (simp (disch := omega) only [le_I, lt_I, eq_I, nI_toInt, Int32.reduceToInt, ne_eq] <;> omega)), obind_of e1, gin_nI hj6 (by decide), gin_nI hj6 (by decide), nI_clamp (by omega), hkz, obind_of g1, obind_of l1, obind_of l1, show gI z4 82 3 = P from g2.1.2.2.1.trans hP.symm, nI_1, nI_1, Int32.add_zero]
          by_cases q : P ≤ wP (rideS K n w)
          · rw [if_pos q] at eC eM
            exact Or.inl ⟨_, _, eC, eM, s, v4, z5, by omega, rfl, rfl, d4.2, l2, l3⟩
          · rw [if_neg q] at eC eM
            exact Or.inl ⟨_, _, eC, eM, s + 1, v4, z5, by omega, rfl, rfl, d4.2, l2, l3⟩
        · rintro a b ⟨s, v, z', hs, rfl, rfl, hv, hz1, hz2⟩
          obtain ⟨r, q1, q2⟩ := frac_eq (a := s) (b := 8) (p := y) (by omega) (by omega) (by omega)
          refine ⟨_, _, ?_, ?_, r, v, z', rfl, rfl, hv, hz1, hz2⟩
          · show f_X7_odds_L63 y (nI j) (nI n) v2 (nI s) (nI 8) v = _
            unfold f_X7_odds_L63
            rw [if_pos (by decide), pbind_of (show f_X7_ofFraction (nI s) (8 : Int32) y = some r from q1)]
          · show f_X8_odds_L47 y (nI j) (nI n) _ (nI s) (nI 8) z' = _
            unfold f_X8_odds_L47
            rw [if_pos (by decide), pbind_of (show f_X8_lowest (nI s) (8 : Int32) y = some r from q2)]
/-! ends -/
theorem goesM {z : Mem} {p : Nat} (b : Bool) : f_X8_goes (nI p) (bI b) z = some ((), sI z 82 1 (offM (gI z 82 1) p b)) := by
  unfold f_X8_goes offM
  cases b <;> rfl
theorem planA {u x v z : Mem} {K K' : gK8} {w w' : gW5} {N : Nat} {a b c a' b' : Int32} (hN : cN K' = N) (hn6 : N ≤ 6) (hp : gI v 1 9 = nI N) (hv : TC u v K' w') (hz : MC x z K w K' w') (hs : sameK K K')
    (h : (a = 0 ∧ a' = 0 ∧ b' = 0) ∨ (∃ p k, p < N ∧ 1 ≤ k ∧ k ≤ 2 ∧ a = nI k ∧ a' = nI k ∧ b = nI p ∧ b' = nI p) ∨ ∃ p k, p < N ∧ k < 4 ∧ a = 3 ∧ a' = 3 ∧ b = nI p ∧ c = nI k ∧ b' = nI (10 * p + k)) :
    ∃ K2 w2 v2 z2, f_X7_doPlanned a b c v = some ((), v2) ∧ f_X8_goPlan a' b' z = some ((), z2) ∧ cN K2 = N ∧ TC u v2 K2 w2 ∧ MC x z2 K w K2 w2 ∧ sameK K K2 := by
  rcases h with ⟨rfl, rfl, rfl⟩ | ⟨p, k, hpN, hk1, hk2, rfl, rfl, rfl, rfl⟩ | ⟨p, k, hpN, hk, rfl, rfl, rfl, rfl, rfl⟩
  · obtain ⟨v2, c1, c2⟩ := rideA1 hv
    obtain ⟨z2, g1, g2⟩ := goMinA hz
    refine ⟨K', _, v2, z2, ?_, ?_, hN, c2, g2, hs⟩
    · unfold f_X7_doPlanned
      rw [if_pos rfl, obind_of c1]
    · unfold f_X8_goPlan
      rw [if_pos rfl, obind_of g1]
      rfl
  · have hp6 : p < 6 := by omega
    have hk : ¬ nI k = 0 := by (simp (disch := omega) only [le_I, lt_I, eq_I, nI_toInt, Int32.reduceToInt, ne_eq] <;> omega)
    have hk3 : ¬ nI k = 3 := by (simp (disch := omega) only [le_I, lt_I, eq_I, nI_toInt, Int32.reduceToInt, ne_eq] <;> omega)
    refine ⟨kO K' p (bI (decide (k = 1))), w', sA v 20 p (bI (decide (k = 1))), sI z 82 1 (offM (gI z 82 1) p (decide (k = 1))), ?_, ?_, hN, setO hv p _, setOM hz hp6 _, hs.o p _⟩
    · unfold f_X7_doPlanned
      rw [if_neg hk, pbind_of (isPerson_eq hn6 hp), wn_nI hpN (by omega), if_neg bt, if_neg hk3, pbind_of (isPerson_eq hn6 hp), wn_nI hpN (by omega), if_neg bt]
      have hk12 : k = 1 ∨ k = 2 := by omega
      rcases hk12 with rfl | rfl
      · rw [if_pos (show nI 1 = 1 from rfl), gin_nI hp6 (by decide), nI_clamp (by omega)]; rfl
      · rw [if_neg (by decide), gin_nI hp6 (by decide), nI_clamp (by omega)]; rfl
    · unfold f_X8_goPlan
      have hin : f_X8_in (nI k) (1 : Int32) (2 : Int32) = some (bI true) := by
        rw [in_rng, decide_eq_true]
        have e1 : (1 : Int32).toInt = 1 := rfl
        have e2 : (2 : Int32).toInt = 2 := rfl
        rw [nI_toInt (by omega)]
        omega
      rw [if_neg hk, pbind_of hin, if_neg bt]
      have hk12 : k = 1 ∨ k = 2 := by omega
      rcases hk12 with rfl | rfl
      · rw [if_pos (show nI 1 = 1 from rfl), obind_of (show f_X8_goes (nI p) (1 : Int32) z = _ from goesM (z := z) (p := p) true), if_neg (by decide)]; rfl
      · rw [if_neg (show ¬ nI 2 = 1 by decide), obind_of (show f_X8_goes (nI p) (0 : Int32) z = _ from goesM (z := z) (p := p) false), if_neg (by decide)]; rfl
  · have hp6 : p < 6 := by omega
    refine ⟨kC K' p (nI k), w', sA v 18 p (nI k), sA z 85 p (nI k), ?_, ?_, hN, setC hv p _, setCM hz p _, hs.c p _⟩
    · unfold f_X7_doPlanned
      rw [if_neg (by decide), pbind_of (isPerson_eq hn6 hp), wn_nI hpN (by omega), if_neg bt, if_pos rfl, gin_nI hp6 (by decide), nI_clamp (by omega)]
    · unfold f_X8_goPlan
      rw [if_neg (by decide), pbind_of (show f_X8_in (3 : Int32) (1 : Int32) (2 : Int32) = some (bI false) from rfl), if_pos bf, if_pos rfl, show (10 : Int32) = nI 10 from rfl, nI_rem (by omega) (by decide), nI_div (by omega) (by decide), show (10 * p + k) / 10 = p by omega, show (10 * p + k) % 10 = k by omega, gin_nI hp6 (by decide), nI_clamp (by omega)]
theorem st_ends {u : Mem} (hI : Inv u) (x : Int32) : okS u (f_X7_ends x u) (f_X8_ends x) := by
  have hI0 := hI
  obtain ⟨K, w, B, pgs, hA⟩ := hI
  obtain ⟨⟨hn6, hn1⟩, -⟩ := hA.1.1
  obtain ⟨-, -, -, -, ⟨m, hm, h38, h37, hs⟩, -⟩ := hA.2.2.2.2.1
  unfold f_X7_ends
  rw [pbind_of (isWithin_eq (N := 2) rfl)]
  cases hx : wn x 2
  · exact ⟨_, _, _, if_pos bf, (by unfold f_X8_ends; rw [pbind_of (in_eq (N := 2) rfl), hx]; exact if_pos bf), hI0⟩
  · rw [if_neg bt]
    refine ask hA (fun z hz hM => ?_)
    obtain ⟨v1, c1, c2⟩ := becomeA hA (Agr.rf _ _ _)
    obtain ⟨z1, e1, e2⟩ := saveA hM (Agr.rf _ _ _)
    unfold f_X8_ends
    rw [pbind_of (in_eq (N := 2) rfl), hx, if_neg bt, obind_of c1, obind_of e1]
    have key := while_2F (b1 := fun s : Int32 × Mem => f_X7_ends_L23 x s.1 s.2) (b2 := fun s : Int32 × Mem => f_X8_ends_L18 x s.1 s.2) m (fun i a b => ∃ K2 w2 v z', a = (nI i, v) ∧ b = (nI i, z') ∧ cN K2 = cN K ∧ TC u v K2 w2 ∧ MC z z' K w K2 w2 ∧ sameK K K2) (fun r q => ∃ a v z', r = (a, v) ∧ q = (a, z') ∧ Agr S13 TT u v ∧ CM z' K w ∧ Agr SM FM z z') (s := ((0 : Int32), v1)) (t := ((0 : Int32), z1)) (by omega) ⟨K, w, v1, z1, rfl, rfl, rfl, c2, e2, sameK.rf K⟩ ?_ ?_
    · obtain ⟨r, q, k1, k2, a, v, z', rfl, rfl, k3, k4, k5⟩ := key
      exact ⟨a, v, z', k1, k3, k2, k4, k5⟩
    · rintro i a b hi ⟨K2, w2, v, z', rfl, rfl, hN, hv, hz', hsm⟩
      have hzu : Agr (fun x => SM x ∧ S13 x) FM u z' := (hz.mono (fun _ h => h.2) (fun _ _ => trivial)).trans (hz'.2.2.mono (fun _ h => h.1) (fun _ h => h))
      obtain ⟨K3, w3, v3, z3, p1, p2, p3, p4, p5, p6⟩ := planA hN hn6 ((hv.2.I (by unfold S13; omega) 9).trans hn1) hv hz' hsm (hs i hi)
      refine Or.inl ⟨_, _, ?_, ?_, K3, w3, v3, z3, rfl, rfl, p3, p4, p5, p6⟩
      · show f_X7_ends_L23 x (nI i) v = some (Sum.inl (nI (i + 1), v3))
        unfold f_X7_ends_L23
        rw [hv.2.I (by unfold S13; omega) 4, h38, if_neg (by (simp (disch := omega) only [le_I, lt_I, eq_I, nI_toInt, Int32.reduceToInt, ne_eq] <;> omega)), gin_nI (show i < 10 by omega) (by decide), gin_nI (show i < 10 by omega) (by decide), gin_nI (show i < 10 by omega) (by decide), nI_clamp (by omega), hv.2.A (show S13 43 by unfold S13; omega), hv.2.A (show S13 44 by unfold S13; omega), hv.2.A (show S13 45 by unfold S13; omega), obind_of p1, nI_1]
      · show f_X8_ends_L18 x (nI i) z' = some (Sum.inl (nI (i + 1), z3))
        unfold f_X8_ends_L18
        rw [hzu.2.2 41 (by unfold FM; omega), h37, if_neg (by (simp (disch := omega) only [le_I, lt_I, eq_I, nI_toInt, Int32.reduceToInt, ne_eq] <;> omega)), gin_nI (show i < 10 by omega) (by decide), gin_nI (show i < 10 by omega) (by decide), nI_clamp (by omega), hzu.A (x := 106) (by unfold S13 SM; omega), hzu.A (x := 107) (by unfold S13 SM; omega), obind_of p2, nI_1]
    · rintro a b ⟨K2, w2, v, z', rfl, rfl, hN, hv, hz', hsm⟩
      have hzu : Agr (fun x => SM x ∧ S13 x) FM u z' := (hz.mono (fun _ h => h.2) (fun _ _ => trivial)).trans (hz'.2.2.mono (fun _ h => h.1) (fun _ h => h))
      obtain ⟨z3, l1, l2, l3⟩ := putA hz' hsm
      refine ⟨_, _, ?_, ?_, if x = 0 then wP w2 else wS w2, v, z3, rfl, rfl, hv.2, l2, l3⟩
      · show f_X7_ends_L23 x (nI m) v = _
        unfold f_X7_ends_L23
        rw [hv.2.I (by unfold S13; omega) 4, h38, if_pos (by (simp (disch := omega) only [le_I, lt_I, eq_I, nI_toInt, Int32.reduceToInt, ne_eq] <;> omega)), show gI v 13 11 = _ from hv.1.2.2.1, show gI v 13 10 = _ from hv.1.2.1]
        split <;> rfl
      · show f_X8_ends_L18 x (nI m) z' = _
        unfold f_X8_ends_L18
        rw [hzu.2.2 41 (by unfold FM; omega), h37, if_pos (by (simp (disch := omega) only [le_I, lt_I, eq_I, nI_toInt, Int32.reduceToInt, ne_eq] <;> omega)), obind_of l1, obind_of l1, hz'.1.2.1, hz'.1.2.2.1]
        split <;> rfl
