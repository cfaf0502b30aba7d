/-! of, told, pass: the train itself -/
theorem in_rng {x : Int32} {a b : Int32} : f_X8_in x a b = some (bI (decide (a.toInt ≤ x.toInt ∧ x.toInt ≤ b.toInt))) := by
  unfold f_X8_in
  by_cases h1 : x < a
  · rw [if_pos h1, decide_eq_false (by rw [lt_I] at h1; omega)]; rfl
  · rw [if_neg h1]
    by_cases h2 : b < x
    · rw [if_pos h2, decide_eq_false (by rw [lt_I] at h2; omega)]; rfl
    · rw [if_neg h2, decide_eq_true (by rw [lt_I] at h1 h2; omega)]; rfl
/-- ten less: a number of eight behind 10 * k, or none -/
theorem tenLess_at {x : Int32} {k : Nat} (hk : k ≤ 3) (h : (10 * k : Nat) ≤ x.toInt ∧ x.toInt ≤ (10 * k + 7 : Nat)) : ∃ i, i < 8 ∧ x = nI (10 * k + i) ∧ f_X7_tenLess x (nI k) = some (nI i) := by
  obtain ⟨z, hz, rfl⟩ : ∃ z, z < 10 * k + 8 ∧ x = nI z := nI_in0 (by omega) (by omega)
  rw [nI_toInt (by omega)] at h
  refine ⟨z - 10 * k, by omega, by congr 1; omega, ?_⟩
  unfold f_X7_tenLess
  rw [show (10 : Int32) = nI 10 from rfl, nI_mul, if_pos (by (simp (disch := omega) only [le_I, lt_I, eq_I, nI_toInt, Int32.reduceToInt, ne_eq] <;> omega)), nI_sub (by omega) (by omega)]
theorem tenLess_no {x : Int32} {k : Nat} (hk : k ≤ 3) (h : ¬ ((10 * k : Nat) ≤ x.toInt ∧ x.toInt ≤ (10 * k + 7 : Nat))) : ∃ r, f_X7_tenLess x (nI k) = some r ∧ wn r 8 = false ∧ ((x.toInt < (10 * k : Nat) ∧ r = -1) ∨ ((10 * k : Nat) ≤ x.toInt ∧ r.toInt = x.toInt - (10 * k : Nat))) := by
  unfold f_X7_tenLess
  rw [show (10 : Int32) = nI 10 from rfl, nI_mul]
  by_cases q : nI (10 * k) ≤ x
  · have q2 := q
    rw [le_I, nI_toInt (by omega)] at q2
    have hx := Int32.toInt_lt x
    have e : (x - nI (10 * k)).toInt = x.toInt - (10 * k : Nat) := by rw [tI_sub, nI_toInt (by omega)] <;> rw [nI_toInt (by omega)] <;> omega
    refine ⟨_, if_pos q, decide_eq_false ?_, Or.inr ⟨q2, e⟩⟩
    rw [e]
    omega
  · refine ⟨_, if_neg q, by decide, Or.inl ⟨?_, rfl⟩⟩
    rw [le_I, nI_toInt (by omega)] at q
    omega
theorem st_of {u : Mem} (hI : Inv u) (p x : Int32) : okS u (f_X7_of p x u) (f_X8_of p x) := by
  have hI0 := hI
  obtain ⟨K, w, B, pgs, hA⟩ := hI
  obtain ⟨⟨hn6, hn1⟩, -, a3, -⟩ := hA.1.1
  have hm1 := hA.1.2.2.1.1
  have b3 := hA.1.2.2.1.2.2.1
  have a5 := hA.1.2.1.2.2.2.2
  have b5 := hA.1.2.2.2.1.2.2.2.2
  unfold f_X7_of
  rw [pbind_of (isPerson_eq hn6 hn1)]
  cases hp : wn p (cN K)
  · exact ⟨_, _, _, if_pos bf, (by unfold f_X8_of; rw [pbind_of (isOne_eq hn6 hm1), hp]; exact if_pos bf), hI0⟩
  · obtain ⟨i, hi, rfl⟩ := wn_of hp
    have hi6 : i < 6 := by omega
    rw [if_neg bt]
    simp only [gin_nI hi6 (show 6 ≤ 2147483648 by decide), nI_clamp (show i < 2 ^ 31 by omega)]
    have hM : ∀ v : Mem, gI v 82 0 = nI (cN K) → f_X8_of (nI i) x v = if (decide ((10 : Int32).toInt ≤ x.toInt ∧ x.toInt ≤ (17 : Int32).toInt)) = true then obind (f_X8_glow (nI i) (x - (10 : Int32)) v) (fun r18 u18 => some (r18, u18)) else (if x = (0 : Int32) then some (gA v 83 i, v) else (if x = (1 : Int32) then some (gA v 84 i, v) else (if x = (2 : Int32) then some (gA v 85 i, v) else (if x = (3 : Int32) then some (gA v 86 i, v) else (if x = (4 : Int32) then some (bI (bit (gI v 82 1) i), v) else (if x = (5 : Int32) then obind (f_X8_tells (nI i) v) (fun r17 u17 => some (r17, u17)) else some ((-10001 : Int32), v))))))) := by
      intro v hv
      unfold f_X8_of
      rw [pbind_of (isOne_eq hn6 hv), hp, if_neg bt, pbind_of in_rng]
      simp only [gin_nI hi6 (show 6 ≤ 2147483648 by decide), nI_clamp (show i < 2 ^ 31 by omega), pbind_of (hasM (gI v 82 1) i)]
      cases decide ((10 : Int32).toInt ≤ x.toInt ∧ x.toInt ≤ (17 : Int32).toInt)
      · rw [if_pos bf, if_neg (show ¬ (false = true) by decide)]
        cases bit (gI v 82 1) i <;> rfl
      · rw [if_neg bt, if_pos rfl]
    have e10 : (10 : Int32).toInt = 10 := rfl
    have e17 : (17 : Int32).toInt = 17 := rfl
    have hs : ∀ k : Int32, k.toInt < 10 → x = k → ¬ decide ((10 : Int32).toInt ≤ x.toInt ∧ x.toInt ≤ (17 : Int32).toInt) = true := by
      rintro k hk rfl q
      have := of_decide_eq_true q
      omega
    by_cases h0 : x = 0
    · rw [if_pos h0]
      refine ⟨_, _, _, rfl, ?_, hI0⟩
      rw [hM u hm1, if_neg (hs 0 (by decide) h0), if_pos h0, (a3 i hi6).1, (b3 i hi6).1]
    · rw [if_neg h0]
      by_cases h1 : x = 1
      · rw [if_pos h1]
        refine ⟨_, _, _, rfl, ?_, hI0⟩
        rw [hM u hm1, if_neg (hs 1 (by decide) h1), if_neg h0, if_pos h1, (a3 i hi6).2.1, (b3 i hi6).2.1]
      · rw [if_neg h1]
        by_cases h2 : x = 2
        · rw [if_pos h2]
          refine ⟨_, _, _, rfl, ?_, hI0⟩
          rw [hM u hm1, if_neg (hs 2 (by decide) h2), if_neg h0, if_neg h1, if_pos h2, (a3 i hi6).2.2.1, (b3 i hi6).2.2.1]
        · rw [if_neg h2]
          by_cases h3 : x = 3
          · rw [if_pos h3]
            refine ⟨_, _, _, rfl, ?_, hI0⟩
            rw [hM u hm1, if_neg (hs 3 (by decide) h3), if_neg h0, if_neg h1, if_neg h2, if_pos h3, a5 i hi6, b5 i hi6]
          · rw [if_neg h3]
            by_cases h4 : x = 4
            · have e : gA u 8 i = bI (bit (gI u 82 1) i) := ((a3 i hi6).2.2.2).trans ((b3 i hi6).2.2.2).symm
              rw [if_pos h4, pbind_of (asNum_eq e)]
              refine ⟨_, _, _, rfl, ?_, hI0⟩
              rw [hM u hm1, if_neg (hs 4 (by decide) h4), if_neg h0, if_neg h1, if_neg h2, if_neg h3, if_pos h4, e]
            · rw [if_neg h4]
              by_cases h5 : x = 5
              · obtain ⟨v1, c1, c2, c3, c4⟩ := favT (Or.inl rfl) hA.ct hi6
                have h01 : CM v1 K w := hA.cm.agr c3 (fun x hx => by unfold St; omega) (fun _ _ => trivial)
                obtain ⟨v2, d1, d2, d3⟩ := tellsMT h01 hi6
                rw [if_pos h5, obind_of c1]
                refine ⟨_, _, _, rfl, ?_, ask1 hA (c3.mono (fun x hx => by unfold SC at hx; unfold St; omega) (fun _ h => h)) (by rw [c4]) c2.kc0 c2.2 (d3.mono (fun x hx => by unfold SM at hx; unfold Sg; omega) (fun k hk => by unfold FM at hk; unfold Fg; omega)) d2 hA.1.2.2.2.2⟩
                rw [hM v1 h01.1.1.2, if_neg (hs 5 (by decide) h5), if_neg h0, if_neg h1, if_neg h2, if_neg h3, if_neg h4, if_pos h5, obind_of d1]
              · rw [if_neg h5]
                by_cases ht : ((10 * 1 : Nat) : Int) ≤ x.toInt ∧ x.toInt ≤ ((10 * 1 + 7 : Nat) : Int)
                · obtain ⟨t, ht8, rfl, htl⟩ := tenLess_at (k := 1) (by decide) ht
                  obtain ⟨v1, c1, c2, c3, c4⟩ := glowT (Or.inl rfl) hA.ct hi6 ht8
                  have h01 : CM v1 K w := hA.cm.agr c3 (fun x hx => by unfold St; omega) (fun _ _ => trivial)
                  obtain ⟨v2, d1, d2, d3⟩ := glowMT h01 hi6 ht8
                  rw [pbind_of (show f_X7_tenLess (nI (10 * 1 + t)) (1 : Int32) = some (nI t) from htl), pbind_of isTaleC_eq, wn_nI ht8 (by omega), if_neg bt, obind_of c1]
                  refine ⟨_, _, _, rfl, ?_, ask1 hA (c3.mono (fun x hx => by unfold SC at hx; unfold St; omega) (fun _ h => h)) (by rw [c4]) c2.kc0 c2.2 (d3.mono (fun x hx => by unfold SM at hx; unfold Sg; omega) (fun k hk => by unfold FM at hk; unfold Fg; omega)) d2 hA.1.2.2.2.2⟩
                  rw [hM v1 h01.1.1.2, if_pos (decide_eq_true (by omega)), show nI (10 * 1 + t) - (10 : Int32) = nI t from by rw [show (10 : Int32) = nI 10 from rfl, nI_sub (by omega) (by omega)]; congr 1; omega, obind_of d1]
                · obtain ⟨r, hr, hr8, -⟩ := tenLess_no (k := 1) (by decide) ht
                  rw [pbind_of (show f_X7_tenLess x (1 : Int32) = some r from hr), pbind_of isTaleC_eq, hr8, if_pos bf]
                  refine ⟨_, _, _, rfl, ?_, hI0⟩
                  rw [hM u hm1, if_neg (fun q => ht (by have := of_decide_eq_true q; omega)), if_neg h0, if_neg h1, if_neg h2, if_neg h3, if_neg h4, if_neg h5]
/-! told -/
theorem st_told {u : Mem} (hI : Inv u) (x : Int32) : okS u (f_X7_told x u) (f_X8_told x) := by
  have hI0 := hI
  obtain ⟨K, w, B, pgs, hA⟩ := hI
  obtain ⟨⟨hn6, hn1⟩, a2, a3, -⟩ := hA.1.1
  have b2 := hA.1.2.2.1.2.1
  obtain ⟨s1, s2, s3, a4, a5⟩ := hA.1.2.1
  obtain ⟨r1, r2, r3, b4, b5⟩ := hA.1.2.2.2.1
  have e10 : (10 : Int32).toInt = 10 := rfl
  have e17 : (17 : Int32).toInt = 17 := rfl
  have e20 : (20 : Int32).toInt = 20 := rfl
  have e27 : (27 : Int32).toInt = 27 := rfl
  have e30 : (30 : Int32).toInt = 30 := rfl
  have e37 : (37 : Int32).toInt = 37 := rfl
  have hsm : ∀ v : Mem, x.toInt < 10 → f_X8_told x v = (if x = (0 : Int32) then some (gI v 82 4, v) else (if x = (1 : Int32) then Option.bind (f_X8_slope v) (fun r9 => some (r9, v)) else (if x = (2 : Int32) then some (gI v 82 2, v) else (if x = (3 : Int32) then some (gI v 82 3, v) else (if x = (4 : Int32) then obind (f_X8_ash v) (fun r13 u13 => some (r13, u13)) else some ((-1 : Int32), v)))))) := by
    intro v h
    unfold f_X8_told
    rw [pbind_of in_rng, decide_eq_false (by omega), if_pos bf, pbind_of in_rng, decide_eq_false (by omega), if_pos bf, pbind_of in_rng, decide_eq_false (by omega), if_pos bf]
  unfold f_X7_told
  by_cases h0 : x = 0
  · rw [if_pos h0]
    refine ⟨_, _, _, rfl, ?_, hI0⟩
    rw [hsm u (by rw [h0]; decide), if_pos h0, s3, r3]
  · rw [if_neg h0]
    by_cases h1 : x = 1
    · have hC := hA.ct.1
      rw [if_pos h1, gob_t hC.2.2.2.2.2.2, hC.2.2.2.2.1.2.2.1]
      refine ⟨_, _, _, rfl, ?_, hI0⟩
      rw [hsm u (by rw [h1]; decide), if_neg h0, if_pos h1, pbind_of (slope_eq hA.cm.1.2.2.2.2.1 hA.cm.1.2.2.2.2.2)]
    · rw [if_neg h1]
      by_cases h2 : x = 2
      · rw [if_pos h2]
        refine ⟨_, _, _, rfl, ?_, hI0⟩
        rw [hsm u (by rw [h2]; decide), if_neg h0, if_neg h1, if_pos h2, s1, r1]
      · rw [if_neg h2]
        by_cases h3 : x = 3
        · rw [if_pos h3]
          refine ⟨_, _, _, rfl, ?_, hI0⟩
          rw [hsm u (by rw [h3]; decide), if_neg h0, if_neg h1, if_neg h2, if_pos h3, s2, r2]
        · rw [if_neg h3]
          by_cases h4 : x = 4
          · obtain ⟨v1, c1, c2, c3, c4⟩ := ashT (Or.inl rfl) hA.ct
            have h01 : CM v1 K w := hA.cm.agr c3 (fun x hx => by unfold St; omega) (fun _ _ => trivial)
            obtain ⟨v2, d1, d2, d3⟩ := ashMT h01
            rw [if_pos h4, obind_of c1]
            refine ⟨_, _, _, rfl, ?_, ask1 hA (c3.mono (fun x hx => by unfold SC at hx; unfold St; omega) (fun _ h => h)) (by rw [c4]) c2.kc0 c2.2 (d3.mono (fun x hx => by unfold SM at hx; unfold Sg; omega) (fun k hk => by unfold FM at hk; unfold Fg; omega)) d2 hA.1.2.2.2.2⟩
            rw [hsm v1 (by rw [h4]; decide), if_neg h0, if_neg h1, if_neg h2, if_neg h3, if_pos h4, obind_of d1]
          · rw [if_neg h4]
            by_cases t1 : ((10 * 1 : Nat) : Int) ≤ x.toInt ∧ x.toInt ≤ ((10 * 1 + 7 : Nat) : Int)
            · obtain ⟨t, ht8, rfl, htl⟩ := tenLess_at (k := 1) (by decide) t1
              rw [pbind_of (show f_X7_tenLess (nI (10 * 1 + t)) (1 : Int32) = some (nI t) from htl), pbind_of isTaleC_eq, wn_nI ht8 (by omega), if_neg bt, pbind_of (show f_X7_tenLess (nI (10 * 1 + t)) (1 : Int32) = some (nI t) from htl), gin_nI ht8 (by decide), nI_clamp (by omega)]
              refine ⟨_, _, _, rfl, ?_, hI0⟩
              unfold f_X8_told
              rw [pbind_of in_rng, decide_eq_true (by omega), if_neg bt, show nI (10 * 1 + t) - (10 : Int32) = nI t from by rw [show (10 : Int32) = nI 10 from rfl, nI_sub (by omega) (by omega)]; congr 1; omega, gin_nI ht8 (by decide), nI_clamp (by omega), show gA u 2 t = cH K t from a2 t ht8, b2 t ht8]
            · obtain ⟨r, hr, hr8, -⟩ := tenLess_no (k := 1) (by decide) t1
              rw [pbind_of (show f_X7_tenLess x (1 : Int32) = some r from hr), pbind_of isTaleC_eq, hr8, if_pos bf]
              by_cases t2 : ((10 * 2 : Nat) : Int) ≤ x.toInt ∧ x.toInt ≤ ((10 * 2 + 7 : Nat) : Int)
              · obtain ⟨t, ht8, rfl, htl⟩ := tenLess_at (k := 2) (by decide) t2
                rw [pbind_of (show f_X7_tenLess (nI (10 * 2 + t)) (2 : Int32) = some (nI t) from htl), pbind_of isTaleC_eq, wn_nI ht8 (by omega), if_neg bt, pbind_of (show f_X7_tenLess (nI (10 * 2 + t)) (2 : Int32) = some (nI t) from htl), gin_nI ht8 (by decide), nI_clamp (by omega)]
                refine ⟨_, _, _, rfl, ?_, hI0⟩
                unfold f_X8_told
                rw [pbind_of in_rng, decide_eq_false (by omega), if_pos bf, pbind_of in_rng, decide_eq_true (by omega), if_neg bt, show nI (10 * 2 + t) - (20 : Int32) = nI t from by rw [show (20 : Int32) = nI 20 from rfl, nI_sub (by omega) (by omega)]; congr 1; omega, gin_nI ht8 (by decide), nI_clamp (by omega), show gA u 3 t = wO w t from a4 t ht8, b4 t ht8]
              · obtain ⟨r2, hr2, hr28, -⟩ := tenLess_no (k := 2) (by decide) t2
                rw [pbind_of (show f_X7_tenLess x (2 : Int32) = some r2 from hr2), pbind_of isTaleC_eq, hr28, if_pos bf]
                by_cases t3 : ((10 * 3 : Nat) : Int) ≤ x.toInt ∧ x.toInt ≤ ((10 * 3 + 7 : Nat) : Int)
                · obtain ⟨t, ht8, rfl, htl⟩ := tenLess_at (k := 3) (by decide) t3
                  rw [pbind_of (show f_X7_tenLess (nI (10 * 3 + t)) (3 : Int32) = some (nI t) from htl), pbind_of isTaleC_eq, wn_nI ht8 (by omega), if_neg bt, pbind_of (show f_X7_tenLess (nI (10 * 3 + t)) (3 : Int32) = some (nI t) from htl), pbind_of (spreadC hA.ct.1 hA.ct.vc ht8)]
                  refine ⟨_, _, _, rfl, ?_, hI0⟩
                  unfold f_X8_told
                  rw [pbind_of in_rng, decide_eq_false (by omega), if_pos bf, pbind_of in_rng, decide_eq_false (by omega), if_pos bf, pbind_of in_rng, decide_eq_true (by omega), if_neg bt, show nI (10 * 3 + t) - (30 : Int32) = nI t from by rw [show (30 : Int32) = nI 30 from rfl, nI_sub (by omega) (by omega)]; congr 1; omega, pbind_of (spreadM hA.cm.1 hA.1.2.2.2.2.2.1 hA.cm.vm ht8), spr_eq K w t hn6 hA.1.2.2.2.2.2.1]
                · obtain ⟨r3, hr3, hr38, -⟩ := tenLess_no (k := 3) (by decide) t3
                  rw [pbind_of (show f_X7_tenLess x (3 : Int32) = some r3 from hr3), pbind_of isTaleC_eq, hr38, if_pos bf]
                  refine ⟨_, _, _, rfl, ?_, hI0⟩
                  unfold f_X8_told
                  rw [pbind_of in_rng, decide_eq_false (by omega), if_pos bf, pbind_of in_rng, decide_eq_false (by omega), if_pos bf, pbind_of in_rng, decide_eq_false (by omega), if_pos bf, if_neg h0, if_neg h1, if_neg h2, if_neg h3, if_neg h4]
/-! pass -/
theorem st_pass {u : Mem} (hI : Inv u) (x : Int32) : okS u (f_X7_pass x u) (f_X8_pass x) := by
  have hI0 := hI
  obtain ⟨K, w, B, pgs, hA⟩ := hI
  have s3 : gI u 1 12 = wM w := hA.1.2.1.2.2.1
  have r3 : gI u 82 4 = wM w := hA.1.2.2.2.1.2.2.1
  unfold f_X7_pass
  rw [pbind_of (isUpTo_eq (N := 31) rfl)]
  cases hx : wn x 31
  · exact ⟨_, _, _, if_pos bf, (by unfold f_X8_pass; rw [pbind_of isMinutes_eq, hx]; exact if_pos bf), hI0⟩
  · obtain ⟨n, hn, rfl⟩ := wn_of hx
    rw [if_neg bt, s3]
    by_cases h : wM w + nI n ≤ 9999
    · obtain ⟨v1, c1, c2, c3, c4⟩ := rideT (Or.inl rfl) hA.ct (show n < 5000 by omega)
      have h01 : CM v1 K w := hA.cm.agr c3 (fun x hx => by unfold St; omega) (fun _ _ => trivial)
      obtain ⟨v2, d1, d2, d3⟩ := goMT h01 (show n < 5000 by omega)
      rw [if_pos h, obind_of c1]
      refine ⟨_, _, _, rfl, ?_, ask1 hA (c3.mono (fun x hx => by unfold SC at hx; unfold St; omega) (fun _ h => h)) (by rw [c4]) c2.kc0 c2.2 (d3.mono (fun x hx => by unfold SM at hx; unfold Sg; omega) (fun k hk => by unfold FM at hk; unfold Fg; omega)) d2 (rng_w hA.1.2.2.2.2 (ride_b hA.bd.1 hA.bd.2 n))⟩
      unfold f_X8_pass
      rw [pbind_of isMinutes_eq, hx, if_neg bt, show gI v1 82 4 = wM w from h01.2.2.2.1, if_pos h, obind_of d1, show gI v1 1 12 = wM (rideS K n w) from c2.2.2.2.1, show gI v2 82 4 = wM (rideS K n w) from d2.2.2.2.1]
    · rw [if_neg h]
      exact ⟨_, _, _, rfl, (by unfold f_X8_pass; rw [pbind_of isMinutes_eq, hx, if_neg bt, r3, if_neg h]), hI0⟩
