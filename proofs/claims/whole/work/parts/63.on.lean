/-! on, gets, hears -/
theorem bool_of {u : Mem} {K : gK8} {w : gW5} {B : Nat} {pgs : Nat → gPg} (hA : InvA u K w B pgs) : ∀ i, i < 6 → ∃ b, cO K i = bI b := fun i hi => ⟨_, ((hA.1.2.2.1.2.2.1 i hi).2.2.2).symm⟩
def TC (u v : Mem) (K : gK8) (w : gW5) : Prop := CT v 13 K w ∧ Agr S13 TT u v
def MC (x y : Mem) (K0 : gK8) (w0 : gW5) (K : gK8) (w : gW5) : Prop := CM y K w ∧ SV y K0 w0 ∧ Agr SM FM x y
theorem t13 : tOK 13 := Or.inr (Or.inl rfl)
theorem becomeA {u v : Mem} {K : gK8} {w : gW5} {B : Nat} {pgs : Nat → gPg} (hA : InvA u K w B pgs) (hv : Agr S13 TT u v) : ∃ v1, f_X6_becomeLike 13 1 v = some ((), v1) ∧ TC u v1 K w := by
  obtain ⟨v1, h1, h2, h3, h4⟩ := becomeT t13 (Or.inl rfl) (by decide) (bool_of hA) (hA.ct.agr hv (fun x hx => by unfold S13; omega) (held_13 hA.ct))
  exact ⟨v1, h1, h2, hv.trans (h3.mono (fun x hx => by unfold S13 at hx; unfold Sb; omega) (fun _ h => h))⟩
theorem rideA {u v : Mem} {K : gK8} {w : gW5} (h : TC u v K w) {n : Nat} (hn : n < 5000) : ∃ v', f_X6_ride 13 (nI n) v = some ((), v') ∧ TC u v' K (rideS K n w) := by
  obtain ⟨v1, h1, h2, h3, h4⟩ := rideT t13 h.1 hn
  exact ⟨v1, h1, h2, h.2.trans (h3.mono (fun x hx => by unfold S13 at hx; unfold St; omega) (fun _ h => h))⟩
theorem saveA {x y : Mem} {K : gK8} {w : gW5} (h : CM y K w) (hx : Agr SM FM x y) : ∃ y', f_X8_save y = some ((), y') ∧ MC x y' K w K w := by
  obtain ⟨v1, h1, h2, h3, h4⟩ := saveM h
  exact ⟨v1, h1, h2, h3, hx.trans (h4.mono (fun x hx => by unfold SM at hx; unfold Ss; omega) (fun k hk => by unfold FM at hk; unfold Fs; omega))⟩
theorem goA {x y : Mem} {K0 K : gK8} {w0 w : gW5} (h : MC x y K0 w0 K w) {n : Nat} (hn : n < 5000) : ∃ y', f_X8_goMinutes (nI n) y = some ((), y') ∧ MC x y' K0 w0 K (rideS K n w) := by
  obtain ⟨v1, h1, h2, h3⟩ := goMT h.1 hn
  exact ⟨v1, h1, h2, h.2.1.agr h3 (by unfold Sg; omega) (by unfold Fg; omega), h.2.2.trans (h3.mono (fun x hx => by unfold SM at hx; unfold Sg; omega) (fun k hk => by unfold FM at hk; unfold Fg; omega))⟩
theorem goMinA {x y : Mem} {K0 K : gK8} {w0 w : gW5} (h : MC x y K0 w0 K w) : ∃ y', f_X8_goMinute y = some ((), y') ∧ MC x y' K0 w0 K (minS K w) := by
  obtain ⟨v1, h1, h2, h3⟩ := goMinMT h.1
  exact ⟨v1, h1, h2, h.2.1.agr h3 (by unfold Sg; omega) (by unfold Fg; omega), h.2.2.trans (h3.mono (fun x hx => by unfold SM at hx; unfold Sg; omega) (fun k hk => by unfold FM at hk; unfold Fg; omega))⟩
theorem putA {x y : Mem} {K0 K : gK8} {w0 w : gW5} (h : MC x y K0 w0 K w) (hK : sameK K0 K) : ∃ y', f_X8_putBack y = some ((), y') ∧ CM y' K0 w0 ∧ Agr SM FM x y' := by
  obtain ⟨v1, h1, h2, h3, h4⟩ := putM h.1 h.2.1 hK
  exact ⟨v1, h1, h2, h.2.2.trans (h4.mono (fun x hx => by unfold SM at hx; unfold Sp; omega) (fun k hk => by unfold FM at hk; unfold Fp; omega))⟩
theorem tenLess_gen {x : Int32} {k : Nat} (hk : k ≤ 3) : ∃ r, f_X7_tenLess x (nI k) = some r ∧ ((x.toInt < (10 * k : Nat) ∧ r = -1) ∨ ((10 * k : Nat) ≤ x.toInt ∧ r.toInt = x.toInt - (10 * k : Nat))) := by
  by_cases h : (10 * k : Nat) ≤ x.toInt ∧ x.toInt ≤ (10 * k + 7 : Nat)
  · obtain ⟨i, hi, rfl, ht⟩ := tenLess_at hk h
    refine ⟨_, ht, Or.inr ⟨h.1, ?_⟩⟩
    rw [nI_toInt (by omega), nI_toInt (by omega)]
    omega
  · obtain ⟨r, hr, -, h2⟩ := tenLess_no hk h
    exact ⟨r, hr, h2⟩
def onI (N : Nat) (x : Int32) : Prop := (0 ≤ x.toInt ∧ x.toInt ≤ 1) ∨ (10 ≤ x.toInt ∧ x.toInt ≤ 9 + N) ∨ (20 ≤ x.toInt ∧ x.toInt ≤ 27)
def onV (w : gW5) (x : Int32) : Int32 := if x.toInt = 0 then wS w else if x.toInt = 1 then wP w else if x.toInt < 20 then wK w (x.toInt.toNat - 10) else wO w (x.toInt.toNat - 20)
theorem clamp_nn {x : Int32} (h : 0 ≤ x.toInt) : x.toNatClampNeg = x.toInt.toNat := by
  obtain ⟨z, hz, rfl⟩ : ∃ z : Nat, z < 2 ^ 31 ∧ x = nI z := nI_in0 h (by have := Int32.toInt_lt x; omega)
  rw [nI_clamp hz, nI_toInt hz]
  omega
/-- what on answers once it is asked well -/
theorem onC {u : Mem} {K : gK8} {w : gW5} {B : Nat} {pgs : Nat → gPg} (hA : InvA u K w B pgs) (n x : Int32) :
    (¬ onI (cN K) x → f_X7_on n x u = some (-1, u)) ∧ (onI (cN K) x → wn n 31 = false → f_X7_on n x u = some (-2, u)) ∧
    (∀ m, m < 31 → n = nI m → onI (cN K) x → ∃ v, f_X7_on n x u = some (onV (rideS K m w) x, v) ∧ Agr S13 TT u v) := by
  obtain ⟨⟨hn6, hn1⟩, -⟩ := hA.1.1
  obtain ⟨r1, hr1, h1⟩ := tenLess_gen (x := x) (k := 1) (by decide)
  obtain ⟨r2, hr2, h2⟩ := tenLess_gen (x := x) (k := 2) (by decide)
  have e1 : f_X7_tenLess x (1 : Int32) = some r1 := hr1
  have e2 : f_X7_tenLess x (2 : Int32) = some r2 := hr2
  have hm1 : (-1 : Int32).toInt = -1 := rfl
  have p1 : wn r1 (cN K) = decide (10 ≤ x.toInt ∧ x.toInt ≤ 9 + cN K) := by
    unfold wn
    rcases h1 with ⟨q, rfl⟩ | ⟨q, q2⟩
    · rw [decide_eq_false (by omega), decide_eq_false (by omega)]
    · rw [q2]
      by_cases z : 10 ≤ x.toInt ∧ x.toInt ≤ 9 + cN K
      · rw [decide_eq_true (by omega), decide_eq_true z]
      · rw [decide_eq_false (by omega), decide_eq_false z]
  have p2 : wn r2 8 = decide (20 ≤ x.toInt ∧ x.toInt ≤ 27) := by
    unfold wn
    rcases h2 with ⟨q, rfl⟩ | ⟨q, q2⟩
    · rw [decide_eq_false (by omega), decide_eq_false (by omega)]
    · rw [q2]
      by_cases z : 20 ≤ x.toInt ∧ x.toInt ≤ 27
      · rw [decide_eq_true (by omega), decide_eq_true z]
      · rw [decide_eq_false (by omega), decide_eq_false z]
  have p0 : wn x 2 = decide (0 ≤ x.toInt ∧ x.toInt ≤ 1) := by
    unfold wn
    by_cases z : 0 ≤ x.toInt ∧ x.toInt ≤ 1
    · rw [decide_eq_true (by omega), decide_eq_true z]
    · rw [decide_eq_false (by omega), decide_eq_false z]
  have key : ∀ m, m < 31 → n = nI m → onI (cN K) x → ∃ v, obind (f_X6_becomeLike 13 1 u) (fun _ u7 => obind (f_X6_ride 13 n u7) (fun _ u8 => Option.bind (f_X7_isPerson r1 u8) (fun r9 => (if r9 = 0 then Option.bind (f_X7_isTale r2) (fun r11 => (if r11 = 0 then (if x = 0 then some (gI u8 13 10, u8) else some (gI u8 13 11, u8)) else gin r2 8 (some (gA u8 15 r2.toNatClampNeg, u8)))) else gin r1 6 (some (gA u8 19 r1.toNatClampNeg, u8)))))) = some (onV (rideS K m w) x, v) ∧ Agr S13 TT u v := by
    rintro m hm rfl hx
    obtain ⟨v1, c1, c2⟩ := becomeA hA (Agr.rf _ _ _)
    obtain ⟨v2, d1, d2⟩ := rideA c2 (show m < 5000 by omega)
    have hp : gI v2 1 9 = nI (cN K) := (d2.2.I (by unfold S13; omega) 9).trans hn1
    rw [obind_of c1, obind_of d1, pbind_of (isPerson_eq hn6 hp), p1, pbind_of isTaleC_eq, p2]
    refine ⟨v2, ?_, d2.2⟩
    unfold onV
    rcases hx with z | z | z
    · rw [decide_eq_false (by omega), if_pos bf, decide_eq_false (by omega), if_pos bf]
      by_cases q : x.toInt = 0
      · have : x = 0 := by rw [eq_I]; exact q
        rw [if_pos this, if_pos q, show gI v2 13 10 = _ from d2.1.2.1]
      · have : ¬ x = 0 := by rw [eq_I]; exact q
        rw [if_neg this, if_neg q, if_pos (by omega), show gI v2 13 11 = _ from d2.1.2.2.1]
    · rw [decide_eq_true z, if_neg bt, if_neg (by omega), if_neg (by omega), if_pos (by omega)]
      rcases h1 with ⟨q, rfl⟩ | ⟨q, q2⟩
      · omega
      · rw [gin_of (by omega) (by omega), clamp_nn (by omega), q2]
        rw [show gA v2 19 _ = _ from d2.1.2.2.2.2.2 (x.toInt - ((10 * 1 : Nat) : Int)).toNat (by omega)]
        congr 3
        omega
    · rw [decide_eq_false (by omega), if_pos bf, decide_eq_true z, if_neg bt, if_neg (by omega), if_neg (by omega), if_neg (by omega)]
      rcases h2 with ⟨q, rfl⟩ | ⟨q, q2⟩
      · omega
      · rw [gin_of (by omega) (by omega), clamp_nn (by omega), q2]
        rw [show gA v2 15 _ = _ from d2.1.2.2.2.2.1 (x.toInt - ((10 * 2 : Nat) : Int)).toNat (by omega)]
        congr 3
        omega
  unfold f_X7_on
  rw [pbind_of e1, pbind_of e2, pbind_of (isWithin_eq (N := 2) rfl), p0, pbind_of (isPerson_eq hn6 hn1), p1, pbind_of isTaleC_eq, p2, pbind_of (isUpTo_eq (N := 31) rfl)]
  refine ⟨fun h => ?_, fun h hw => ?_, fun m hm he h => ?_⟩
  · unfold onI at h
    rw [decide_eq_false (by omega), if_pos bf, decide_eq_false (by omega), if_pos bf, decide_eq_false (by omega), if_pos bf]
  · rw [hw, if_pos bf]
    split
    · split
      · split
        · rename_i q1 q2 q3
          unfold onI at h
          by_cases z0 : 0 ≤ x.toInt ∧ x.toInt ≤ 1
          · rw [decide_eq_true z0] at q1; exact absurd q1 bt
          · by_cases z1 : 10 ≤ x.toInt ∧ x.toInt ≤ 9 + cN K
            · rw [decide_eq_true z1] at q2; exact absurd q2 bt
            · by_cases z2 : 20 ≤ x.toInt ∧ x.toInt ≤ 27
              · rw [decide_eq_true z2] at q3; exact absurd q3 bt
              · omega
        · rfl
      · rfl
    · rfl
  · have hw : wn n 31 = true := by rw [he]; exact wn_nI hm (by omega)
    rw [hw, if_neg bt]
    obtain ⟨v, k1, k2⟩ := key m hm he h
    refine ⟨v, ?_, k2⟩
    unfold onI at h
    by_cases z0 : 0 ≤ x.toInt ∧ x.toInt ≤ 1
    · rw [decide_eq_true z0, if_neg bt]
      exact k1
    · rw [decide_eq_false z0, if_pos bf]
      by_cases z1 : 10 ≤ x.toInt ∧ x.toInt ≤ 9 + cN K
      · rw [decide_eq_true z1, if_neg bt]
        rw [decide_eq_true z1] at p1
        exact k1
      · rw [decide_eq_false z1, if_pos bf, decide_eq_true (show 20 ≤ x.toInt ∧ x.toInt ≤ 27 by omega), if_neg bt]
        exact k1
theorem onM {x : Mem} {K : gK8} {w : gW5} (hM : CM x K w) (n y : Int32) :
    (¬ onI (cN K) y → f_X8_on n y x = some (-1, x)) ∧ (onI (cN K) y → wn n 31 = false → f_X8_on n y x = some (-2, x)) ∧
    (∀ m, m < 31 → n = nI m → onI (cN K) y → ∃ v, f_X8_on n y x = some (onV (rideS K m w) y, v) ∧ CM v K w ∧ Agr SM FM x v) := by
  obtain ⟨hn6, hn1⟩ := hM.1.1
  have e9 : ((9 : Int32) + gI x 82 0).toInt = 9 + cN K := by
    rw [hn1, show (9 : Int32) = nI 9 from rfl, nI_add, nI_toInt (by omega)]
    omega
  have e0 : (0 : Int32).toInt = 0 := rfl
  have e1 : (1 : Int32).toInt = 1 := rfl
  have e10 : (10 : Int32).toInt = 10 := rfl
  have e20 : (20 : Int32).toInt = 20 := rfl
  have e27 : (27 : Int32).toInt = 27 := rfl
  have key : ∀ m, m < 31 → n = nI m → onI (cN K) y → ∃ v, obind (f_X8_save x) (fun _ u5 => obind (f_X8_goMinutes n u5) (fun _ u6 => (if y = 0 then obind (f_X8_putBack u6) (fun _ u15 => some (gI u6 82 2, u15)) else (if y = (1 : Int32) then obind (f_X8_putBack u6) (fun _ u14 => some (gI u6 82 3, u14)) else (if (20 : Int32) ≤ y then gin (y - (20 : Int32)) 8 (obind (f_X8_putBack u6) (fun _ u11 => some (gA u6 88 (y - (20 : Int32)).toNatClampNeg, u11))) else gin (y - (10 : Int32)) 6 (obind (f_X8_putBack u6) (fun _ u13 => some (gA u6 86 (y - (10 : Int32)).toNatClampNeg, u13)))))))) = some (onV (rideS K m w) y, v) ∧ CM v K w ∧ Agr SM FM x v := by
    rintro m hm rfl hx
    obtain ⟨v1, c1, c2⟩ := saveA hM (Agr.rf _ _ _)
    obtain ⟨v2, d1, d2⟩ := goA c2 (show m < 5000 by omega)
    obtain ⟨v3, f1, f2⟩ := putA d2 (sameK.rf K)
    rw [obind_of c1, obind_of d1, obind_of f1]
    refine ⟨v3, ?_, f2⟩
    unfold onV
    by_cases q0 : y.toInt = 0
    · have : y = 0 := by rw [eq_I]; exact q0
      rw [if_pos this, if_pos q0, d2.1.2.1]
    · have : ¬ y = 0 := by rw [eq_I]; exact q0
      rw [if_neg this, if_neg q0]
      by_cases q1 : y.toInt = 1
      · have : y = 1 := by rw [eq_I]; exact q1
        rw [if_pos this, if_pos q1, obind_of f1, d2.1.2.2.1]
      · have : ¬ y = 1 := by rw [eq_I]; exact q1
        rw [if_neg this, if_neg q1]
        by_cases q2 : (20 : Int32) ≤ y
        · rw [if_pos q2]
          rw [le_I] at q2
          unfold onI at hx
          have e : (y - (20 : Int32)).toInt = y.toInt - 20 := tI_sub (by omega) (by omega)
          rw [gin_of (by omega) (by omega), if_neg (by omega), obind_of f1, clamp_nn (by omega), e, d2.1.2.2.2.2.1 _ (by omega)]
          congr 3
          omega
        · rw [if_neg q2]
          rw [le_I] at q2
          unfold onI at hx
          have e : (y - (10 : Int32)).toInt = y.toInt - 10 := tI_sub (by omega) (by omega)
          rw [gin_of (by omega) (by omega), if_pos (by omega), obind_of f1, clamp_nn (by omega), e, d2.1.2.2.2.2.2 _ (by omega)]
          congr 3
          omega
  unfold f_X8_on
  rw [pbind_of in_rng, pbind_of in_rng, pbind_of in_rng, pbind_of isMinutes_eq, e0, e1, e10, e20, e27, e9]
  refine ⟨fun h => ?_, fun h hw => ?_, fun m hm he h => ?_⟩
  · unfold onI at h
    rw [decide_eq_false (by omega), if_pos bf, decide_eq_false (by omega), if_pos bf, decide_eq_false (by omega), if_pos bf]
  · rw [hw, if_pos bf]
    unfold onI at h
    by_cases z0 : 0 ≤ y.toInt ∧ y.toInt ≤ 1
    · rw [decide_eq_true z0, if_neg bt]
    · rw [decide_eq_false z0, if_pos bf]
      by_cases z1 : 10 ≤ y.toInt ∧ y.toInt ≤ 9 + cN K
      · rw [decide_eq_true z1, if_neg bt]
      · rw [decide_eq_false z1, if_pos bf, decide_eq_true (show 20 ≤ y.toInt ∧ y.toInt ≤ 27 by omega), if_neg bt]
  · have hw : wn n 31 = true := by rw [he]; exact wn_nI hm (by omega)
    rw [hw, if_neg bt]
    obtain ⟨v, k1, k2⟩ := key m hm he h
    refine ⟨v, ?_, k2⟩
    unfold onI at h
    by_cases z0 : 0 ≤ y.toInt ∧ y.toInt ≤ 1
    · rw [decide_eq_true z0, if_neg bt]
      exact k1
    · rw [decide_eq_false z0, if_pos bf]
      by_cases z1 : 10 ≤ y.toInt ∧ y.toInt ≤ 9 + cN K
      · rw [decide_eq_true z1, if_neg bt]
        exact k1
      · rw [decide_eq_false z1, if_pos bf, decide_eq_true (show 20 ≤ y.toInt ∧ y.toInt ≤ 27 by omega), if_neg bt]
        exact k1
theorem st_on {u : Mem} (hI : Inv u) (n x : Int32) : okS u (f_X7_on n x u) (f_X8_on n x) := by
  obtain ⟨K, w, B, pgs, hA⟩ := hI
  refine ask hA (fun y hy hM => ?_)
  obtain ⟨c1, c2, c3⟩ := onC hA n x
  obtain ⟨d1, d2, d3⟩ := onM hM n x
  by_cases h : onI (cN K) x
  · cases hw : wn n 31
    · exact ⟨_, _, _, c2 h hw, Agr.rf _ _ _, d2 h hw, hM, Agr.rf _ _ _⟩
    · obtain ⟨m, hm, he⟩ := wn_of hw
      obtain ⟨v, p1, p2⟩ := c3 m hm he h
      obtain ⟨v', q1, q2, q3⟩ := d3 m hm he h
      exact ⟨_, _, _, p1, p2, q1, q2, q3⟩
  · exact ⟨_, _, _, c1 h, Agr.rf _ _ _, d1 h, hM, Agr.rf _ _ _⟩
/-! gets, hears -/
theorem rideS_1 (K : gK8) (w : gW5) : rideS K 1 w = minS K w := rfl
theorem rideA1 {u v : Mem} {K : gK8} {w : gW5} (h : TC u v K w) : ∃ v', f_X6_ride 13 (1 : Int32) v = some ((), v') ∧ TC u v' K (minS K w) := rideA (n := 1) h (by decide)
theorem st_gets {u : Mem} (hI : Inv u) (x : Int32) : okS u (f_X7_gets x u) (f_X8_gets x) := by
  have hI0 := hI
  obtain ⟨K, w, B, pgs, hA⟩ := hI
  unfold f_X7_gets
  rw [pbind_of (isWithin_eq (N := 100) rfl)]
  cases hx : wn x 100
  · exact ⟨_, _, _, if_pos bf, (by unfold f_X8_gets; rw [pbind_of (in_eq (N := 100) rfl), hx]; exact if_pos bf), hI0⟩
  · obtain ⟨s, hs, rfl⟩ := wn_of hx
    rw [if_neg bt]
    refine ask hA (fun y hy hM => ?_)
    obtain ⟨v1, c1, c2⟩ := becomeA hA (Agr.rf _ _ _)
    obtain ⟨y1, d1, d2⟩ := saveA hM (Agr.rf _ _ _)
    unfold f_X8_gets
    rw [pbind_of (in_eq (N := 100) rfl), hx, if_neg bt, obind_of c1, obind_of d1]
    have key := while_2F (b1 := fun s' : Int32 × Mem => f_X7_gets_L25 (nI s) s'.1 s'.2) (b2 := fun s' : Int32 × Mem => f_X8_gets_L20 (nI s) s'.1 s'.2) 31 (fun i a b => ∃ v z, a = (nI i, v) ∧ b = (nI i, z) ∧ TC u v K (rideS K i w) ∧ MC y z K w K (rideS K i w)) (fun r q => ∃ a v z, r = (a, v) ∧ q = (a, z) ∧ Agr S13 TT u v ∧ CM z K w ∧ Agr SM FM y z) (s := ((0 : Int32), v1)) (t := ((0 : Int32), y1)) (by decide) ⟨v1, y1, rfl, rfl, c2, d2⟩ ?_ ?_
    · obtain ⟨r, q, h1, h2, a, v, z, rfl, rfl, h3, h4, h5⟩ := key
      exact ⟨a, v, z, h1, h3, h2, h4, h5⟩
    · rintro i a b hi ⟨v, z, rfl, rfl, hv, hz⟩
      have eC : f_X7_gets_L25 (nI s) (nI i) v = if wP (rideS K i w) < nI (s * 50) then obind (f_X6_ride 13 (1 : Int32) v) (fun _ u7 => some (Sum.inl (nI (i + 1), u7))) else some (Sum.inr (nI i, v)) := by
        unfold f_X7_gets_L25
        rw [if_neg (by (simp (disch := omega) only [le_I, lt_I, eq_I, nI_toInt, Int32.reduceToInt, ne_eq] <;> omega)), show gI v 13 11 = _ from hv.1.2.2.1, show (50 : Int32) = nI 50 from rfl, nI_mul, nI_1]
      have eM : f_X8_gets_L20 (nI s) (nI i) z = if nI (s * 50) ≤ wP (rideS K i w) then obind (f_X8_putBack z) (fun _ u8 => some (Sum.inr (nI i, u8))) else obind (f_X8_goMinute z) (fun _ u9 => some (Sum.inl (nI (i + 1), u9))) := by
        unfold f_X8_gets_L20
        rw [if_neg (by (simp (disch := omega) only [le_I, lt_I, eq_I, nI_toInt, Int32.reduceToInt, ne_eq] <;> omega)), show gI z 82 3 = _ from hz.1.2.2.1, show (50 : Int32) = nI 50 from rfl, nI_mul, Nat.mul_comm, nI_1]
      by_cases q : wP (rideS K i w) < nI (s * 50)
      · obtain ⟨v2, f1, f2⟩ := rideA1 hv
        obtain ⟨z2, g1, g2⟩ := goMinA hz
        rw [if_pos q, obind_of f1] at eC
        rw [if_neg (by rw [lt_I] at q; rw [le_I]; omega), obind_of g1] at eM
        exact Or.inl ⟨_, _, eC, eM, v2, z2, rfl, rfl, f2, g2⟩
      · obtain ⟨z2, g1, g2, g3⟩ := putA hz (sameK.rf K)
        rw [if_neg q] at eC
        rw [if_pos (by rw [lt_I] at q; rw [le_I]; omega), obind_of g1] at eM
        exact Or.inr ⟨_, _, eC, eM, _, v, z2, rfl, rfl, hv.2, g2, g3⟩
    · rintro a b ⟨v, z, rfl, rfl, hv, hz⟩
      obtain ⟨z2, g1, g2, g3⟩ := putA hz (sameK.rf K)
      refine ⟨_, _, ?_, ?_, -5, v, z2, rfl, rfl, hv.2, g2, g3⟩
      · show f_X7_gets_L25 (nI s) (nI 31) v = _
        unfold f_X7_gets_L25
        rw [if_pos (by decide)]
      · show f_X8_gets_L20 (nI s) (nI 31) z = _
        unfold f_X8_gets_L20
        rw [if_pos (by decide), obind_of g1]
theorem st_hears {u : Mem} (hI : Inv u) (p x : Int32) : okS u (f_X7_hears p x u) (f_X8_hears p x) := by
  have hI0 := hI
  obtain ⟨K, w, B, pgs, hA⟩ := hI
  obtain ⟨⟨hn6, hn1⟩, -⟩ := hA.1.1
  have hm1 := hA.1.2.2.1.1
  unfold f_X7_hears
  rw [pbind_of (isPerson_eq hn6 hn1)]
  cases hp : wn p (cN K)
  · exact ⟨_, _, _, if_pos bf, (by unfold f_X8_hears; rw [pbind_of (isOne_eq hn6 hm1), hp]; exact if_pos bf), hI0⟩
  · rw [if_neg bt, pbind_of isTaleC_eq]
    cases hx : wn x 8
    · exact ⟨_, _, _, if_pos bf, (by unfold f_X8_hears; rw [pbind_of (isOne_eq hn6 hm1), hp, if_neg bt, pbind_of isTaleM_eq, hx]; exact if_pos bf), hI0⟩
    · obtain ⟨j, hj, rfl⟩ := wn_of hp
      obtain ⟨t, ht, rfl⟩ := wn_of hx
      have hj6 : j < 6 := by omega
      rw [if_neg bt]
      refine ask hA (fun y hy hM => ?_)
      obtain ⟨v1, c1, c2⟩ := becomeA hA (Agr.rf _ _ _)
      obtain ⟨y1, d1, d2⟩ := saveA hM (Agr.rf _ _ _)
      unfold f_X8_hears
      rw [pbind_of (isOne_eq hn6 hM.1.1.2), hp, if_neg bt, pbind_of isTaleM_eq, hx, if_neg bt, obind_of c1, obind_of d1]
      have key := while_2F (b1 := fun s' : Int32 × Mem => f_X7_hears_L30 (nI j) (nI t) s'.1 s'.2) (b2 := fun s' : Int32 × Mem => f_X8_hears_L24 (nI j) (nI t) s'.1 s'.2) 31 (fun i a b => ∃ v z, a = (nI i, v) ∧ b = (nI i, z) ∧ TC u v K (rideS K i w) ∧ MC y z K w K (rideS K i w)) (fun r q => ∃ a v z, r = (a, v) ∧ q = (a, z) ∧ Agr S13 TT u v ∧ CM z K w ∧ Agr SM FM y z) (s := ((0 : Int32), v1)) (t := ((0 : Int32), y1)) (by decide) ⟨v1, y1, rfl, rfl, c2, d2⟩ ?_ ?_
      · obtain ⟨r, q, h1, h2, a, v, z, rfl, rfl, h3, h4, h5⟩ := key
        exact ⟨a, v, z, h1, h3, h2, h4, h5⟩
      · rintro i a b hi ⟨v, z, rfl, rfl, hv, hz⟩
        have eC : f_X7_hears_L30 (nI j) (nI t) (nI i) v = if bI (bit (wK (rideS K i w) j) t) = 0 then obind (f_X6_ride 13 (1 : Int32) v) (fun _ u7 => some (Sum.inl (nI (i + 1), u7))) else some (Sum.inr (nI i, v)) := by
          unfold f_X7_hears_L30
          rw [if_neg (by (simp (disch := omega) only [le_I, lt_I, eq_I, nI_toInt, Int32.reduceToInt, ne_eq] <;> omega)), pbind_of (knowsC hj6), show gA v (13 + 6) j = _ from hv.1.2.2.2.2.2 j hj6, nI_1]
        have eM : f_X8_hears_L24 (nI j) (nI t) (nI i) z = if bI (bit (wK (rideS K i w) j) t) = 0 then obind (f_X8_goMinute z) (fun _ u9 => some (Sum.inl (nI (i + 1), u9))) else obind (f_X8_putBack z) (fun _ u8 => some (Sum.inr (nI i, u8))) := by
          unfold f_X8_hears_L24
          rw [if_neg (by (simp (disch := omega) only [le_I, lt_I, eq_I, nI_toInt, Int32.reduceToInt, ne_eq] <;> omega)), gin_nI hj6 (by decide), nI_clamp (by omega), pbind_of (hasM _ _), hz.1.2.2.2.2.2 j hj6, nI_1]
        cases q : bit (wK (rideS K i w) j) t
        · obtain ⟨v2, f1, f2⟩ := rideA1 hv
          obtain ⟨z2, g1, g2⟩ := goMinA hz
          rw [q, if_pos bf, obind_of f1] at eC
          rw [q, if_pos bf, obind_of g1] at eM
          exact Or.inl ⟨_, _, eC, eM, v2, z2, rfl, rfl, f2, g2⟩
        · obtain ⟨z2, g1, g2, g3⟩ := putA hz (sameK.rf K)
          rw [q, if_neg bt] at eC
          rw [q, if_neg bt, obind_of g1] at eM
          exact Or.inr ⟨_, _, eC, eM, _, v, z2, rfl, rfl, hv.2, g2, g3⟩
      · rintro a b ⟨v, z, rfl, rfl, hv, hz⟩
        obtain ⟨z2, g1, g2, g3⟩ := putA hz (sameK.rf K)
        refine ⟨_, _, ?_, ?_, -5, v, z2, rfl, rfl, hv.2, g2, g3⟩
        · show f_X7_hears_L30 (nI j) (nI t) (nI 31) v = _
          unfold f_X7_hears_L30
          rw [if_pos (by decide)]
        · show f_X8_hears_L24 (nI j) (nI t) (nI 31) z = _
          unfold f_X8_hears_L24
          rw [if_pos (by decide), obind_of g1]
