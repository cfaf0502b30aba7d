/-! can -/
theorem upd_upd {f : Nat → Int32} {i : Nat} {x y : Int32} : upd (upd f i x) i y = upd f i y := by
  funext j
  rw [upd_eq, upd_eq, upd_eq]
  by_cases q : j = i
  · rw [if_pos q, if_pos q]
  · rw [if_neg q, if_neg q, if_neg q]
theorem upd_self {f : Nat → Int32} {i : Nat} : upd f i (f i) = f := by
  funext j
  rw [upd_eq]
  by_cases q : j = i
  · rw [if_pos q, q]
  · rw [if_neg q]
theorem kV_kV {K : gK8} {j : Nat} {x y : Int32} : kV (kV K j x) j y = kV K j y := by
  show (cN K, cH K, cK K, upd (upd (cV K) j x) j y, cC K, cO K, cR K, cP K) = _
  rw [upd_upd]
  rfl
theorem kV_self {K : gK8} {j : Nat} : kV K j (cV K j) = K := by
  show (cN K, cH K, cK K, upd (cV K) j (cV K j), cC K, cO K, cR K, cP K) = _
  rw [upd_self]
  rfl
theorem wwO_wwO {w : gW5} {j : Nat} {x y : Int32} : wwO (wwO w j x) j y = wwO w j y := by
  show (wS w, wP w, wM w, upd (upd (wO w) j x) j y, wK w) = _
  rw [upd_upd]
  rfl
theorem wwO_self {w : gW5} {j : Nat} : wwO w j (wO w j) = w := by
  show (wS w, wP w, wM w, upd (wO w) j (wO w j), wK w) = _
  rw [upd_self]
  rfl
theorem CM.setV {y : Mem} {K : gK8} {w : gW5} (h : CM y K w) (p : Nat) (c : Int32) : CM (sA y 84 p c) (kV K p c) w := by
  obtain ⟨⟨k1, k3, k4, k5, k6, k7⟩, r⟩ := h
  refine ⟨⟨k1, k3, fun i hi => ⟨(k4 i hi).1, ?_, (k4 i hi).2.2.1, (k4 i hi).2.2.2⟩, k5, k6.sa (by decide), k7⟩, r⟩
  exact upd_cong (fun j hj => (k4 j hj).2.1) rfl i hi
theorem CM.setO {y : Mem} {K : gK8} {w : gW5} (h : CM y K w) (p : Nat) (c : Int32) : CM (sA y 88 p c) K (wwO w p c) := by
  obtain ⟨⟨k1, k3, k4, k5, k6, k7⟩, r1, r2, r3, r4, r5⟩ := h
  refine ⟨⟨k1, k3, k4, k5, k6.sa (by decide), k7⟩, r1, r2, r3, fun i hi => ?_, r5⟩
  exact upd_cong r4 rfl i hi
/-- the row of seen in both, as u has them -/
def SR (u : Mem) (N m : Nat) : Prop := m ≤ 5 ∧ gI u 38 4 = nI m ∧ gI u 82 37 = nI m ∧ ∀ i, i < m → ∃ p x, p < N ∧ x < 8 ∧ gA u 39 i = nI p ∧ gA u 103 i = nI p ∧ gA u 40 i = nI x ∧ gA u 104 i = nI x ∧ gA u 41 i = gA u 105 i
theorem imax_0 {r c : Int32} : (imax (0 : Int32) r = c) ↔ if 0 ≤ r then r = c else (0 : Int32) = c := by
  unfold imax
  by_cases h : (0 : Int32) < r
  · rw [if_pos h, if_pos (by (simp (disch := omega) only [le_I, lt_I, eq_I, nI_toInt, Int32.reduceToInt, ne_eq] at * <;> omega))]
  · rw [if_neg h]
    by_cases q : 0 ≤ r
    · have : r = 0 := by (simp (disch := omega) only [le_I, lt_I, eq_I, nI_toInt, Int32.reduceToInt, ne_eq] at * <;> omega)
      rw [if_pos q, this]
    · rw [if_neg q]
theorem seenA {u x v z : Mem} {K K1 : gK8} {w1 : gW5} {i m : Nat} {o : Bool} (hn6 : cN K ≤ 6) (hn1 : gI u 1 9 = nI (cN K)) (hS : SR u (cN K) m) (hx : Agr S13 TT u x) (hv : TC u v K1 w1) (hz : CM z K1 w1) (hzx : Agr SM FM x z) (hi : i < 8) :
    ∃ r v' z', f_X7_isAllSeenSo (bI (!o)) (nI i) v = some (bI r, v') ∧ f_X8_isSeen (bI o) (nI i) z = some (bI r, z') ∧ TC u v' K1 w1 ∧ CM z' K1 w1 ∧ Agr SM FM x z' := by
  obtain ⟨hm, h38, h37, hs⟩ := hS
  have key := while_2F (b1 := fun s : Int32 × Mem => f_X7_isAllSeenSo_L11 (bI (!o)) (nI i) s.1 s.2) (b2 := fun s : Int32 × Mem => f_X8_isSeen_L2 (bI o) (nI i) s.1 s.2) m (fun k a b => ∃ v z, a = (nI k, v) ∧ b = (nI k, z) ∧ TC u v K1 w1 ∧ CM z K1 w1 ∧ Agr SM FM x z) (fun r q => ∃ a v z, r = (bI a, v) ∧ q = (bI a, z) ∧ TC u v K1 w1 ∧ CM z K1 w1 ∧ Agr SM FM x z) (s := ((0 : Int32), v)) (t := ((0 : Int32), z)) (by omega) ⟨v, z, rfl, rfl, hv, hz, hzx⟩ ?_ ?_
  · obtain ⟨r, q, k1, k2, a, v', z', rfl, rfl, k3⟩ := key
    exact ⟨a, v', z', k1, k2, k3⟩
  · rintro k a b hk ⟨v, z, rfl, rfl, hv, hz, hzx⟩
    have hzu : Agr (fun x => SM x ∧ S13 x) FM u z := (hx.mono (fun _ h => h.2) (fun _ _ => trivial)).trans (hzx.mono (fun _ h => h.1) (fun _ h => h))
    obtain ⟨p, t, hp, ht, e39, e103, e40, e104, e41⟩ := hs k hk
    have hp6 : p < 6 := by omega
    obtain ⟨v2, c1, c2, c3, c4⟩ := glowT t13 hv.1 hp6 ht
    obtain ⟨z2, d1, d2, d3⟩ := glowMT hz hp6 ht
    have hv2 : TC u v2 K1 w1 := ⟨c2, hv.2.trans (c3.mono (fun x hx => by unfold S13 at hx; unfold St; omega) (fun _ h => h))⟩
    have hz2 : Agr SM FM x z2 := hzx.trans (d3.mono (fun x hx => by unfold SM at hx; unfold Sg; omega) (fun k hk => by unfold FM at hk; unfold Fg; omega))
    have v38 : gI v 38 4 = nI m := (hv.2.I (by unfold S13; omega) 4).trans h38
    have v39 : gA v 39 = gA u 39 := hv.2.A (by unfold S13; omega)
    have v40 : gA v 40 = gA u 40 := hv.2.A (by unfold S13; omega)
    have v41 : gA v2 41 = gA u 41 := hv2.2.A (by unfold S13; omega)
    have v1 : gI v 1 9 = nI (cN K) := (hv.2.I (by unfold S13; omega) 9).trans hn1
    have z37 : gI z 82 37 = nI m := (hzu.2.2 37 (by unfold FM; omega)).trans h37
    have z103 : gA z 103 = gA u 103 := hzu.A (x := 103) (by unfold SM S13; omega)
    have z104 : gA z 104 = gA u 104 := hzu.A (x := 104) (by unfold SM S13; omega)
    have z105 : gA z2 105 = gA u 105 := (d3.A (by unfold Sg; omega)).trans (hzu.A (x := 105) (by unfold SM S13; omega))
    obtain ⟨g, hg⟩ : ∃ g, g = glowS K1 w1 p t := ⟨_, rfl⟩
    rw [← hg] at c1 d1
    have eC : f_X7_isAllSeenSo_L11 (bI (!o)) (nI i) (nI k) v = if (if o = true then nI p else nI t) = nI i then (if imax (0 : Int32) g = gA u 41 k then some (Sum.inl (nI (k + 1), v2)) else some (Sum.inr ((0 : Int32), v2))) else some (Sum.inl (nI (k + 1), v)) := by
      unfold f_X7_isAllSeenSo_L11
      rw [v38, if_neg (by (simp (disch := omega) only [le_I, lt_I, eq_I, nI_toInt, Int32.reduceToInt, ne_eq] <;> omega))]
      simp only [gin_nI (show k < 10 by omega) (show 10 ≤ 2147483648 by decide), nI_clamp (show k < 2 ^ 31 by omega), v39, v40, e39, e40, nI_1]
      rw [pbind_of (isPerson_eq hn6 v1), wn_nI hp (by omega), if_neg bt]
      cases o
      · rw [if_neg (show ¬ bI (!false) = 0 by decide), if_neg (show ¬ (false = true) by decide), obind_of c1, v41]
      · rw [if_pos (show bI (!true) = 0 from rfl), if_pos rfl, obind_of c1, v41]
    have eM : f_X8_isSeen_L2 (bI o) (nI i) (nI k) z = if (if o = true then nI p else nI t) = nI i then (if (0 : Int32) ≤ g then (if g = gA u 105 k then some (Sum.inl (nI (k + 1), z2)) else some (Sum.inr ((0 : Int32), z2))) else (if (0 : Int32) = gA u 105 k then some (Sum.inl (nI (k + 1), z2)) else some (Sum.inr ((0 : Int32), z2)))) else some (Sum.inl (nI (k + 1), z)) := by
      unfold f_X8_isSeen_L2
      rw [z37, if_neg (by (simp (disch := omega) only [le_I, lt_I, eq_I, nI_toInt, Int32.reduceToInt, ne_eq] <;> omega))]
      simp only [gin_nI (show k < 5 by omega) (show 5 ≤ 2147483648 by decide), nI_clamp (show k < 2 ^ 31 by omega), z103, z104, e103, e104, nI_1]
      cases o
      · rw [if_pos (show bI false = 0 from rfl), if_neg (show ¬ (false = true) by decide), obind_of d1, z105]
      · rw [if_neg (show ¬ bI true = 0 by decide), if_pos rfl, obind_of d1, z105]
    by_cases q : (if o = true then nI p else nI t) = nI i
    · rw [if_pos q] at eC eM
      rw [← e41] at eM
      by_cases q2 : imax (0 : Int32) g = gA u 41 k
      · rw [if_pos q2] at eC
        rw [imax_0] at q2
        refine Or.inl ⟨_, _, eC, ?_, v2, z2, rfl, rfl, hv2, d2, hz2⟩
        refine eM.trans ?_
        by_cases q3 : (0 : Int32) ≤ g
        · rw [if_pos q3] at q2 ⊢
          rw [if_pos q2]
        · rw [if_neg q3] at q2 ⊢
          rw [if_pos q2]
      · rw [if_neg q2] at eC
        rw [imax_0] at q2
        refine Or.inr ⟨_, _, eC, ?_, false, v2, z2, rfl, rfl, hv2, d2, hz2⟩
        refine eM.trans ?_
        by_cases q3 : (0 : Int32) ≤ g
        · rw [if_pos q3] at q2 ⊢
          rw [if_neg q2]
          rfl
        · rw [if_neg q3] at q2 ⊢
          rw [if_neg q2]
          rfl
    · rw [if_neg q] at eC eM
      exact Or.inl ⟨_, _, eC, eM, v, z, rfl, rfl, hv, hz, hzx⟩
  · rintro a b ⟨v, z, rfl, rfl, hv, hz, hzx⟩
    have hzu : Agr (fun x => SM x ∧ S13 x) FM u z := (hx.mono (fun _ h => h.2) (fun _ _ => trivial)).trans (hzx.mono (fun _ h => h.1) (fun _ h => h))
    refine ⟨_, _, ?_, ?_, true, v, z, rfl, rfl, hv, hz, hzx⟩
    · show f_X7_isAllSeenSo_L11 (bI (!o)) (nI i) (nI m) v = _
      unfold f_X7_isAllSeenSo_L11
      rw [(hv.2.I (by unfold S13; omega) 4).trans h38, if_pos (by (simp (disch := omega) only [le_I, lt_I, eq_I, nI_toInt, Int32.reduceToInt, ne_eq] <;> omega))]
      rfl
    · show f_X8_isSeen_L2 (bI o) (nI i) (nI m) z = _
      unfold f_X8_isSeen_L2
      rw [(hzu.2.2 37 (by unfold FM; omega)).trans h37, if_pos (by (simp (disch := omega) only [le_I, lt_I, eq_I, nI_toInt, Int32.reduceToInt, ne_eq] <;> omega))]
      rfl
def dn (N i : Nat) : Int32 := if i ≤ N then nI (N - i) else -1
theorem dn_s {N i : Nat} (h : i ≤ N) : dn N i + (-1 : Int32) = dn N (i + 1) := by
  unfold dn
  rw [if_pos h]
  by_cases q : i + 1 ≤ N
  · rw [if_pos q, nI_m1 (by omega)]
    congr 1
  · rw [if_neg q, show N - i = 0 by omega]
    rfl
theorem dn_nn {N i : Nat} (h : i ≤ N) (hN : N < 2 ^ 31) : ¬ dn N i < 0 := by
  unfold dn
  rw [if_pos h]
  (simp (disch := omega) only [le_I, lt_I, eq_I, nI_toInt, Int32.reduceToInt, ne_eq] <;> omega)
theorem dn_end {N : Nat} : dn N (N + 1) < 0 := by
  unfold dn
  rw [if_neg (by omega)]
  decide
theorem st_can {u : Mem} (hI : Inv u) (x i y : Int32) : okS u (f_X7_can x i y u) (f_X8_can x i y) := by
  have hI0 := hI
  obtain ⟨K, w, B, pgs, hA⟩ := hI
  obtain ⟨⟨hn6, hn1⟩, -⟩ := hA.1.1
  have hm1 := hA.1.2.2.1.1
  have hSR : ∃ m, SR u (cN K) m := by
    obtain ⟨-, -, -, ⟨m, h1, h2, h3, h4⟩, -⟩ := hA.2.2.2.2.1
    exact ⟨m, h1, h2, h3, h4⟩
  obtain ⟨m, hSR⟩ := hSR
  have hM : ∀ v : Mem, gI v 82 0 = nI (cN K) → f_X8_can x i y v = if wn x 2 = true ∧ wn y 2 = true ∧ (if x = 0 then wn i (cN K) else wn i 8) = true then (if x = 0 then obind (f_X8_canOne i y v) (fun r13 u13 => some (r13, u13)) else obind (f_X8_stale i y v) (fun r8 u8 => some (r8, u8))) else some (-1, v) := by
    intro v hv
    unfold f_X8_can
    rw [pbind_of (in_eq (N := 2) rfl)]
    cases hx : wn x 2
    · rw [if_pos bf, if_neg (by simp)]
    · rw [if_neg bt]
      by_cases h0 : x = 0
      · rw [if_pos h0, if_pos h0, if_pos h0, pbind_of (isOne_eq hn6 hv)]
        cases hi : wn i (cN K)
        · rw [if_pos bf, if_neg (by simp)]
        · rw [if_neg bt, pbind_of (in_eq (N := 2) rfl)]
          cases hy : wn y 2
          · rw [if_pos bf, if_neg (by simp)]
          · rw [if_neg bt, if_pos (by simp)]
      · rw [if_neg h0, if_neg h0, if_neg h0, pbind_of isTaleM_eq]
        cases hi : wn i 8
        · rw [if_pos bf, if_neg (by simp)]
        · rw [if_neg bt, pbind_of (in_eq (N := 2) rfl)]
          cases hy : wn y 2
          · rw [if_pos bf, if_neg (by simp)]
          · rw [if_neg bt, if_pos (by simp)]
  unfold f_X7_can
  rw [pbind_of (isWithin_eq (N := 2) rfl)]
  cases hx : wn x 2
  · exact ⟨_, _, _, if_pos bf, (by rw [hM u hm1, hx, if_neg (by simp)]), hI0⟩
  · rw [if_neg bt, pbind_of (isWithin_eq (N := 2) rfl)]
    cases hy : wn y 2
    · exact ⟨_, _, _, if_pos bf, (by rw [hM u hm1, hy, if_neg (by simp)]), hI0⟩
    · rw [if_neg bt]
      by_cases h0 : x = 0
      · rw [if_pos h0, pbind_of (isPerson_eq hn6 hn1)]
        cases hi : wn i (cN K)
        · exact ⟨_, _, _, if_pos bf, (by rw [hM u hm1, if_pos h0, hi, if_neg (by simp)]), hI0⟩
        · rw [if_neg bt]
          refine ask hA (fun z hz hMz => ?_)
          obtain ⟨v1, c1, c2⟩ := becomeA hA (Agr.rf _ _ _)
          rw [hM z hMz.1.1.2, if_pos ⟨hx, hy, by rw [if_pos h0]; exact hi⟩, if_pos h0, obind_of c1]
          obtain ⟨j, hj, rfl⟩ := wn_of hi
          have hj6 : j < 6 := by omega
          have hvj : gA z 84 j = cV K j := (hMz.1.2.2.1 j hj6).2.1
          have key := while_2F (b1 := fun s : Int32 × Int32 × Int32 × Mem => f_X7_can_L100b y (nI j) x s.1 s.2.1 s.2.2.1 s.2.2.2) (b2 := fun s : Int32 × Int32 × Int32 × Mem => f_X8_canOne_L18 (nI j) y z s.1 s.2.1 s.2.2.1 s.2.2.2) 10 (fun k a b => ∃ n l e v z', a = (n, l, dn 9 k, v) ∧ b = (n, l, dn 9 k, z') ∧ TC u v (kV K j e) w ∧ CM z' (kV K j e) w ∧ Agr SM FM z z') (fun r q => ∃ a v z', r = (a, v) ∧ q = (a, z') ∧ Agr S13 TT u v ∧ CM z' K w ∧ Agr SM FM z z') (s := ((0 : Int32), (-5 : Int32), (9 : Int32), v1)) (t := ((0 : Int32), (-5 : Int32), (9 : Int32), z)) (by decide) ⟨0, -5, cV K j, v1, z, rfl, rfl, by rw [kV_self]; exact c2, by rw [kV_self]; exact hMz, Agr.rf _ _ _⟩ ?_ ?_
          · obtain ⟨r, q, k1, k2, a, v, z', rfl, rfl, k3, k4, k5⟩ := key
            refine ⟨a, v, z', k1, k3, ?_, k4, k5⟩
            have e : f_X8_canOne (nI j) y z = some (a, z') := by
              unfold f_X8_canOne
              rw [gin_nI hj6 (by decide)]
              exact k2
            rw [obind_of e]
          · rintro k a b hk ⟨n, l, e, v, z', rfl, rfl, hv, hz', hzz⟩
            have hv2 := setV hv j (dn 9 k)
            have hz2 := hz'.setV j (dn 9 k)
            rw [kV_kV] at hv2 hz2
            obtain ⟨r, v3, z3, s1, s2, s3, s4, s5⟩ := seenA (o := true) hn6 hn1 hSR hz hv2 hz2 (hzz.sa (by unfold SM; omega)) (show j < 8 by omega)
            have s1 : f_X7_isAllSeenSo x (nI j) (sA v 17 j (dn 9 k)) = some (bI r, v3) := by rw [h0]; exact s1
            have s2 : f_X8_isSeen (1 : Int32) (nI j) (sA z' 84 j (dn 9 k)) = some (bI r, z3) := s2
            have eC : f_X7_can_L100b y (nI j) x n l (dn 9 k) v = if bI r = 0 then some (Sum.inl (n, (l, (dn 9 (k + 1), v3)))) else some (Sum.inl (n + (1 : Int32), (dn 9 k, (dn 9 (k + 1), v3)))) := by
              unfold f_X7_can_L100b
              rw [if_neg (dn_nn (by omega) (by decide)), gin_nI hj6 (by decide), nI_clamp (by omega), obind_of s1, dn_s (by omega)]
            have eM : f_X8_canOne_L18 (nI j) y z n l (dn 9 k) z' = if bI r = 0 then some (Sum.inl (n, (l, (dn 9 (k + 1), z3)))) else some (Sum.inl (n + (1 : Int32), (dn 9 k, (dn 9 (k + 1), z3)))) := by
              unfold f_X8_canOne_L18
              rw [if_neg (dn_nn (by omega) (by decide)), gin_nI hj6 (by decide), nI_clamp (by omega), obind_of s2, dn_s (by omega)]
            cases r
            · rw [if_pos bf] at eC eM
              exact Or.inl ⟨_, _, eC, eM, _, _, _, v3, z3, rfl, rfl, s3, s4, s5⟩
            · rw [if_neg bt] at eC eM
              exact Or.inl ⟨_, _, eC, eM, _, _, _, v3, z3, rfl, rfl, s3, s4, s5⟩
          · rintro a b ⟨n, l, e, v, z', rfl, rfl, hv, hz', hzz⟩
            have hz2 := hz'.setV j (cV K j)
            rw [kV_kV, kV_self] at hz2
            refine ⟨_, _, ?_, ?_, if y = 0 then n else l, v, sA z' 84 j (cV K j), rfl, rfl, hv.2, hz2, hzz.sa (by unfold SM; omega)⟩
            · show f_X7_can_L100b y (nI j) x n l (dn 9 10) v = _
              unfold f_X7_can_L100b
              rw [if_pos dn_end]
              split <;> rfl
            · show f_X8_canOne_L18 (nI j) y z n l (dn 9 10) z' = _
              unfold f_X8_canOne_L18
              rw [if_pos dn_end, gin_nI hj6 (by decide), nI_clamp (by omega), hvj]
              split <;> rfl
      · rw [if_neg h0, pbind_of isTaleC_eq]
        have hx1 : x = 1 := by
          obtain ⟨k, hk, rfl⟩ := wn_of hx
          have : k = 0 ∨ k = 1 := by omega
          rcases this with rfl | rfl
          · exact absurd rfl h0
          · rfl
        cases hi : wn i 8
        · exact ⟨_, _, _, if_pos bf, (by rw [hM u hm1, if_neg h0, hi, if_neg (by simp)]), hI0⟩
        · rw [if_neg bt]
          refine ask hA (fun z hz hMz => ?_)
          obtain ⟨v1, c1, c2⟩ := becomeA hA (Agr.rf _ _ _)
          rw [hM z hMz.1.1.2, if_pos ⟨hx, hy, by rw [if_neg h0]; exact hi⟩, if_neg h0, obind_of c1]
          obtain ⟨j, hj8, rfl⟩ := wn_of hi
          have hvj : gA z 88 j = wO w j := hMz.2.2.2.2.1 j hj8
          have key := while_2F (b1 := fun s : Int32 × Int32 × Int32 × Mem => f_X7_can_L100 y (nI j) x s.1 s.2.1 s.2.2.1 s.2.2.2) (b2 := fun s : Int32 × Int32 × Int32 × Mem => f_X8_stale_L18 (nI j) y z s.1 s.2.1 s.2.2.1 s.2.2.2) 100 (fun k a b => ∃ n l e v z', a = (n, l, dn 99 k, v) ∧ b = (n, l, dn 99 k, z') ∧ TC u v K (wwO w j e) ∧ CM z' K (wwO w j e) ∧ Agr SM FM z z') (fun r q => ∃ a v z', r = (a, v) ∧ q = (a, z') ∧ Agr S13 TT u v ∧ CM z' K w ∧ Agr SM FM z z') (s := ((0 : Int32), (-5 : Int32), (99 : Int32), v1)) (t := ((0 : Int32), (-5 : Int32), (99 : Int32), z)) (by decide) ⟨0, -5, wO w j, v1, z, rfl, rfl, by rw [wwO_self]; exact c2, by rw [wwO_self]; exact hMz, Agr.rf _ _ _⟩ ?_ ?_
          · obtain ⟨r, q, k1, k2, a, v, z', rfl, rfl, k3, k4, k5⟩ := key
            refine ⟨a, v, z', k1, k3, ?_, k4, k5⟩
            have e : f_X8_stale (nI j) y z = some (a, z') := by
              unfold f_X8_stale
              rw [gin_nI hj8 (by decide)]
              exact k2
            rw [obind_of e]
          · rintro k a b hk ⟨n, l, e, v, z', rfl, rfl, hv, hz', hzz⟩
            have hv2 := setOf hv j (dn 99 k)
            have hz2 := hz'.setO j (dn 99 k)
            rw [wwO_wwO] at hv2 hz2
            obtain ⟨r, v3, z3, s1, s2, s3, s4, s5⟩ := seenA (o := false) hn6 hn1 hSR hz hv2 hz2 (hzz.sa (by unfold SM; omega)) hj8
            have s1 : f_X7_isAllSeenSo x (nI j) (sA v 15 j (dn 99 k)) = some (bI r, v3) := by rw [hx1]; exact s1
            have s2 : f_X8_isSeen (0 : Int32) (nI j) (sA z' 88 j (dn 99 k)) = some (bI r, z3) := s2
            have eC : f_X7_can_L100 y (nI j) x n l (dn 99 k) v = if bI r = 0 then some (Sum.inl (n, (l, (dn 99 (k + 1), v3)))) else some (Sum.inl (n + (1 : Int32), (dn 99 k, (dn 99 (k + 1), v3)))) := by
              unfold f_X7_can_L100
              rw [if_neg (dn_nn (by omega) (by decide)), gin_nI hj8 (by decide), nI_clamp (by omega), obind_of s1, dn_s (by omega)]
            have eM : f_X8_stale_L18 (nI j) y z n l (dn 99 k) z' = if bI r = 0 then some (Sum.inl (n, (l, (dn 99 (k + 1), z3)))) else some (Sum.inl (n + (1 : Int32), (dn 99 k, (dn 99 (k + 1), z3)))) := by
              unfold f_X8_stale_L18
              rw [if_neg (dn_nn (by omega) (by decide)), gin_nI hj8 (by decide), nI_clamp (by omega), obind_of s2, dn_s (by omega)]
            cases r
            · rw [if_pos bf] at eC eM
              exact Or.inl ⟨_, _, eC, eM, _, _, _, v3, z3, rfl, rfl, s3, s4, s5⟩
            · rw [if_neg bt] at eC eM
              exact Or.inl ⟨_, _, eC, eM, _, _, _, v3, z3, rfl, rfl, s3, s4, s5⟩
          · rintro a b ⟨n, l, e, v, z', rfl, rfl, hv, hz', hzz⟩
            have hz2 := hz'.setO j (wO w j)
            rw [wwO_wwO, wwO_self] at hz2
            refine ⟨_, _, ?_, ?_, if y = 0 then n else l, v, sA z' 88 j (wO w j), rfl, rfl, hv.2, hz2, hzz.sa (by unfold SM; omega)⟩
            · show f_X7_can_L100 y (nI j) x n l (dn 99 100) v = _
              unfold f_X7_can_L100
              rw [if_pos dn_end]
              split <;> rfl
            · show f_X8_stale_L18 (nI j) y z n l (dn 99 100) z' = _
              unfold f_X8_stale_L18
              rw [if_pos dn_end, gin_nI hj8 (by decide), nI_clamp (by omega), hvj]
              split <;> rfl
