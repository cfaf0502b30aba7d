/-! BOUNDS: nothing wraps around in a ride -/
theorem tI_add {x y : Int32} (h1 : -2147483648 ≤ x.toInt + y.toInt) (h2 : x.toInt + y.toInt < 2147483648) : (x + y).toInt = x.toInt + y.toInt := by
  rw [Int32.toInt_add, Int.bmod_eq_of_le (by omega) (by omega)]
theorem tI_sub {x y : Int32} (h1 : -2147483648 ≤ x.toInt - y.toInt) (h2 : x.toInt - y.toInt < 2147483648) : (x - y).toInt = x.toInt - y.toInt := by
  rw [Int32.toInt_sub, Int.bmod_eq_of_le (by omega) (by omega)]
theorem tI_2 {x : Int32} (h1 : -1073741824 ≤ x.toInt) (h2 : x.toInt < 1073741824) : (x * (2 : Int32)).toInt = x.toInt * 2 := by
  rw [Int32.toInt_mul, show (2 : Int32).toInt = 2 from rfl, Int.bmod_eq_of_le (by omega) (by omega)]
theorem tdiv2_iv (x : Int) {b : Int} (h1 : -b ≤ x) (h2 : x ≤ b) : -b ≤ x.tdiv 2 ∧ x.tdiv 2 ≤ b := by
  by_cases h : 0 ≤ x
  · rw [Int.tdiv_eq_ediv_of_nonneg h]
    omega
  · have e : x = -(-x) := by omega
    rw [e, Int.neg_tdiv, Int.tdiv_eq_ediv_of_nonneg (by omega)]
    omega
theorem tI_half {x : Int32} {b : Int} (hb : b ≤ 1073741824) (h1 : -b ≤ x.toInt) (h2 : x.toInt ≤ b) : -b ≤ (x / (2 : Int32)).toInt ∧ (x / (2 : Int32)).toInt ≤ b := by
  have h := tdiv2_iv x.toInt h1 h2
  rw [Int32.toInt_div, show (2 : Int32).toInt = 2 from rfl, Int.bmod_eq_of_le (by omega) (by omega)]
  exact h
theorem imin_nI {a b : Nat} (ha : a < 2 ^ 31) (hb : b < 2 ^ 31) : imin (nI a) (nI b) = nI (min a b) := by
  unfold imin
  by_cases h : nI b < nI a
  · rw [if_pos h, Nat.min_eq_right (by (simp (disch := omega) only [le_I, lt_I, eq_I, nI_toInt, Int32.reduceToInt, ne_eq] at * <;> omega))]
  · rw [if_neg h, Nat.min_eq_left (by (simp (disch := omega) only [le_I, lt_I, eq_I, nI_toInt, Int32.reduceToInt, ne_eq] at * <;> omega))]
theorem imax_nI {a b : Nat} (ha : a < 2 ^ 31) (hb : b < 2 ^ 31) : imax (nI a) (nI b) = nI (max a b) := by
  unfold imax
  by_cases h : nI a < nI b
  · rw [if_pos h, Nat.max_eq_right (by (simp (disch := omega) only [le_I, lt_I, eq_I, nI_toInt, Int32.reduceToInt, ne_eq] at * <;> omega))]
  · rw [if_neg h, Nat.max_eq_left (by (simp (disch := omega) only [le_I, lt_I, eq_I, nI_toInt, Int32.reduceToInt, ne_eq] at * <;> omega))]
theorem pgW_iv (lt : Nat → Int32) : ∀ (pg : List (Nat × Nat × List Nat)) (s : Int32) (B : Int), pgOK pg → -B ≤ s.toInt → s.toInt ≤ B → B + 100 * pg.length < 2147483648 →
    -(B + 100 * pg.length) ≤ (pg.foldl (fun s c => if c.1 = 2 then s else if (c.2.2.foldl (tkS lt) []).headD false = true then (if c.1 = 0 then s + nI c.2.1 else s - nI c.2.1) else s) s).toInt ∧ (pg.foldl (fun s c => if c.1 = 2 then s else if (c.2.2.foldl (tkS lt) []).headD false = true then (if c.1 = 0 then s + nI c.2.1 else s - nI c.2.1) else s) s).toInt ≤ B + 100 * pg.length := by
  intro pg
  induction pg with
  | nil =>
    intro s B _ h1 h2 _
    simp only [List.foldl_nil, List.length_nil]
    omega
  | cons c pg ih =>
    intro s B hO h1 h2 h3
    have hc := (hO c List.mem_cons_self).2.1
    rw [List.length_cons] at h3 ⊢
    rw [List.foldl_cons]
    have h4 := ih (if c.1 = 2 then s else if (c.2.2.foldl (tkS lt) []).headD false = true then (if c.1 = 0 then s + nI c.2.1 else s - nI c.2.1) else s) (B + 100) (fun c hc => hO c (List.mem_cons_of_mem _ hc)) ?_ ?_ (by omega)
    · omega
    · split
      · omega
      · split
        · split
          · rw [tI_add (by rw [nI_toInt (by omega)]; omega) (by rw [nI_toInt (by omega)]; omega), nI_toInt (by omega)]; omega
          · rw [tI_sub (by rw [nI_toInt (by omega)]; omega) (by rw [nI_toInt (by omega)]; omega), nI_toInt (by omega)]; omega
        · omega
    · split
      · omega
      · split
        · split
          · rw [tI_add (by rw [nI_toInt (by omega)]; omega) (by rw [nI_toInt (by omega)]; omega), nI_toInt (by omega)]; omega
          · rw [tI_sub (by rw [nI_toInt (by omega)]; omega) (by rw [nI_toInt (by omega)]; omega), nI_toInt (by omega)]; omega
        · omega
def kb (K : gK8) : Prop := (∀ i, i < 8 → ∃ k, k < 10 ∧ cH K i = nI k) ∧ (∀ i, i < 6 → ∃ k, k < 10 ∧ cV K i = nI k) ∧ (∀ i, i < 24 → ∃ k, k < 10 ∧ cR K i = nI k) ∧ pgOK (cP K) ∧ (cP K).length ≤ 10 ∧ cN K ≤ 6
def bW (w : gW5) (m : Nat) : Prop := (∀ i, i < 8 → ∃ k, k < 100 ∧ wO w i = nI k) ∧ (∃ k, k < 10000 + m ∧ wS w = nI k) ∧ (∃ k, k < 10000 ∧ wP w = nI k) ∧ ∀ i, i < 6 → ∃ k, k < 256 ∧ wK w i = nI k
theorem sum_iv {K : gK8} {w : gW5} {p t : Nat} (hK : kb K) (hO : ∀ i, i < 8 → ∃ k, k < 100 ∧ wO w i = nI k) (ht : t < 8) : -1100 ≤ (sumS K w p t).toInt ∧ (sumS K w p t).toInt ≤ 1100 := by
  obtain ⟨k1, -, -, k4, k5, -⟩ := hK
  obtain ⟨h, hh, he⟩ := k1 t ht
  obtain ⟨o, ho, hoe⟩ := hO t ht
  unfold sumS
  have h1 := pgW_iv (ltV (nI p) (cK K p) (cV K p) (nI t) (wO w t) (rm10 (wM w))) (cP K) 0 0 k4 (by decide) (by decide) (by omega)
  change -(0 + 100 * ((cP K).length : Int)) ≤ (pgW (ltV (nI p) (cK K p) (cV K p) (nI t) (wO w t) (rm10 (wM w))) (cP K)).toInt ∧ (pgW (ltV (nI p) (cK K p) (cV K p) (nI t) (wO w t) (rm10 (wM w))) (cP K)).toInt ≤ 0 + 100 * ((cP K).length : Int) at h1
  generalize pgW (ltV (nI p) (cK K p) (cV K p) (nI t) (wO w t) (rm10 (wM w))) (cP K) = z at h1
  have e : cH K t * 2 = nI (h * 2) := by rw [he]; exact nI_mul h 2
  rw [e, hoe]
  have e2 : (nI (h * 2) - nI o).toInt = (h * 2 : Nat) - (o : Int) := by
    rw [tI_sub, nI_toInt (by omega), nI_toInt (by omega)] <;> rw [nI_toInt (by omega), nI_toInt (by omega)] <;> omega
  rw [tI_add (by omega) (by omega), e2]
  omega
theorem glow_iv {K : gK8} {w : gW5} {p t : Nat} (hK : kb K) (hO : ∀ i, i < 8 → ∃ k, k < 100 ∧ wO w i = nI k) (hp : p < 6) (ht : t < 8) : -3000 ≤ (glowS K w p t).toInt ∧ (glowS K w p t).toInt ≤ 3000 := by
  have hs := sum_iv (p := p) hK hO ht
  obtain ⟨v, hv, hve⟩ := hK.2.1 p hp
  obtain ⟨r, hr, hre⟩ := hK.2.2.1 (p * 4 + t % 4) (by omega)
  have hv' := nI_toInt (show v < 2 ^ 31 by omega)
  have hr' := nI_toInt (show r < 2 ^ 31 by omega)
  unfold glowS
  rw [hve, hre]
  generalize sumS K w p t = s at hs
  have h2 := tI_2 (x := s) (by omega) (by omega)
  have hh := tI_half (x := s) (b := 1100) (by decide) (by omega) (by omega)
  have h0 : (0 : Int32).toInt = 0 := rfl
  have hx : -2200 ≤ (if wO w t = 0 then s * 2 else s).toInt ∧ (if wO w t = 0 then s * 2 else s).toInt ≤ 2200 := by
    split
    · omega
    · omega
  generalize (if wO w t = 0 then s * 2 else s) = x at hx
  split
  · rw [tI_add (by omega) (by omega)]; omega
  · split
    · omega
    · split
      · omega
      · split
        · split
          · rw [tI_add (by omega) (by omega)]; omega
          · omega
        · split
          · rw [tI_sub (by omega) (by omega)]; omega
          · split
            · rw [tI_add (by omega) (by omega)]; omega
            · omega
theorem favS_pos (K : gK8) (w : gW5) (p : Nat) : ∀ n, (favS K w p n).1 = -5 ∨ ∃ x, x < n ∧ (favS K w p n).1 = nI x ∧ (0 : Int32) < glowS K w p x
  | 0 => Or.inl rfl
  | n + 1 => by
    have hg := favS_ge K w p n
    unfold favS at hg ⊢
    rw [itN_succ]
    split
    · rename_i h
      refine Or.inr ⟨n, by omega, rfl, ?_⟩
      have h2 := h.2
      (simp (disch := omega) only [le_I, lt_I, eq_I, nI_toInt, Int32.reduceToInt, ne_eq] at * <;> omega)
    · rcases favS_pos K w p n with h | ⟨x, hx, h⟩
      · exact Or.inl h
      · exact Or.inr ⟨x, by omega, h⟩
theorem or_256 : ∀ a, a < 256 → ∀ t, t < 8 → 0 ≤ (nI a ||| ((1 : Int32) <<< (nI t &&& 31))).toInt ∧ (nI a ||| ((1 : Int32) <<< (nI t &&& 31))).toInt < 256 := by decide +kernel
theorem toldS_b {K : gK8} {p t : Nat} {kn : Nat → Int32} (ht : t < 8) (h : ∀ i, i < 6 → ∃ k, k < 256 ∧ kn i = nI k) : ∀ n, ∀ i, i < 6 → ∃ k, k < 256 ∧ toldS K p t n kn i = nI k
  | 0 => h
  | n + 1 => by
    have ih := toldS_b (K := K) (p := p) ht h n
    intro i hi
    show ∃ k, k < 256 ∧ (if hearB K p n = true then upd (toldS K p t n kn) n (toldS K p t n kn n ||| ((1 : Int32) <<< (nI t &&& 31))) else toldS K p t n kn) i = nI k
    split
    · rw [upd_eq]
      split
      · rename_i q
        subst q
        obtain ⟨k, hk, he⟩ := ih i hi
        rw [he]
        exact nI_in0 (or_256 k hk t ht).1 (or_256 k hk t ht).2
      · exact ih i hi
    · exact ih i hi
theorem tell_b {K : gK8} {w : gW5} {p t m : Nat} (hK : kb K) (hw : bW w m) (hm : m ≤ 18000) (hp : p < 6) (ht : t < 8) (hg : (0 : Int32) < glowS K w p t) : bW (tellS K w p t) (m + 3000) := by
  obtain ⟨h1, ⟨s, hs, hse⟩, h3, h4⟩ := hw
  have hi := glow_iv hK h1 hp ht
  obtain ⟨g, hgl, hge⟩ : ∃ g, g < 3001 ∧ glowS K w p t = nI g := nI_in0 (by rw [lt_I] at hg; have : (0 : Int32).toInt = 0 := rfl; omega) (by omega)
  refine ⟨fun i hi => ?_, ⟨s + g, by omega, ?_⟩, h3, toldS_b ht h4 (cN K)⟩
  · show ∃ k, k < 100 ∧ upd (wO w) t (imin (wO w t + (1 : Int32)) (99 : Int32)) i = nI k
    rw [upd_eq]
    split
    · obtain ⟨k, hk, he⟩ := h1 t ht
      rw [he, nI_1, show (99 : Int32) = nI 99 from rfl, imin_nI (by omega) (by decide)]
      exact ⟨_, by omega, rfl⟩
    · exact h1 i hi
  · show wS w + glowS K w p t = _
    rw [hse, hge, nI_add]
theorem bW.mono {w : gW5} {m m' : Nat} (h : bW w m) (hm : m ≤ m') : bW w m' := by
  obtain ⟨h1, ⟨s, hs, hse⟩, h3⟩ := h
  exact ⟨h1, ⟨s, by omega, hse⟩, h3⟩
theorem pers_b {K : gK8} {w : gW5} {p m : Nat} (hK : kb K) (hw : bW w m) (hm : m ≤ 18000) (hp : p < 6) : bW (persS K p w) (m + 3000) := by
  unfold persS
  split
  · rcases favS_pos K w p 8 with h | ⟨x, hx, h, hg⟩
    · rw [h, if_pos (by decide)]
      exact hw.mono (by omega)
    · rw [h, if_neg (by (simp (disch := omega) only [le_I, lt_I, eq_I, nI_toInt, Int32.reduceToInt, ne_eq] <;> omega)), nI_clamp (by omega)]
      exact tell_b hK hw hm hp hx hg
  · exact hw.mono (by omega)
theorem persN_b {K : gK8} {w : gW5} (hK : kb K) (hw : bW w 0) : ∀ n, n ≤ 6 → bW (itN (persS K) n w) (3000 * n)
  | 0, _ => hw
  | n + 1, hn => by
    have ih := persN_b hK hw n (by omega)
    rw [itN_succ]
    exact (pers_b hK ih (by omega) (by omega)).mono (by omega)
theorem roll_b {K : gK8} {w : gW5} (hK : kb K) (hw : bW w 18000) : bW (rollS K w) 0 := by
  obtain ⟨h1, ⟨s, hs, hse⟩, ⟨p, hp, hpe⟩, h4⟩ := hw
  have hb : ∃ b, 1 ≤ b ∧ b < 100 ∧ byS K = nI b := by
    have h9 := pgS_lt hK.2.2.2.1
    refine ⟨max (pgS (cP K)) 1, by omega, by omega, ?_⟩
    unfold byS
    exact imax_nI (by omega) (by decide)
  obtain ⟨b, hb1, hb2, hbe⟩ := hb
  have e1 : imin (wS w / byS K) (20 : Int32) = nI (min (s / b) 20) := by
    have := Nat.div_le_self s b
    rw [hse, hbe, nI_div (by omega) (by omega)]
    exact imin_nI (by omega) (by decide)
  obtain ⟨d, hd⟩ : ∃ d, d = min (s / b) 20 := ⟨_, rfl⟩
  have hdb : d * b ≤ s := by
    have : d ≤ s / b := by omega
    exact Nat.le_trans (Nat.mul_le_mul_right b this) (Nat.div_mul_le_self s b)
  have hd20 : d ≤ 20 := by omega
  rw [← hd] at e1
  unfold rollS
  rw [e1]
  refine ⟨h1, ⟨min (s - d * b) 9999, by omega, ?_⟩, ⟨min (p + d) 9999, by omega, ?_⟩, h4⟩
  · show imin (wS w - nI d * byS K) (9999 : Int32) = _
    rw [hse, hbe, nI_mul, nI_sub (by omega) hdb]
    exact imin_nI (by omega) (by decide)
  · show imin (wP w + nI d) (9999 : Int32) = _
    rw [hpe, nI_add]
    exact imin_nI (by omega) (by decide)
theorem min_b {K : gK8} {w : gW5} (hK : kb K) (hw : bW w 0) : bW (minS K w) 0 :=
  roll_b hK ((persN_b hK hw (cN K) hK.2.2.2.2.2).mono (by have := hK.2.2.2.2.2; omega))
theorem ride_b {K : gK8} {w : gW5} (hK : kb K) (hw : bW w 0) : ∀ n, bW (rideS K n w) 0
  | 0 => hw
  | n + 1 => by
    show bW (minS K (rideS K n w)) 0
    exact min_b hK (ride_b hK hw n)
theorem rng_kb {K : gK8} {w : gW5} (h : rng K w) (hO : pgOK (cP K)) (hl : (cP K).length ≤ 10) (hN : cN K ≤ 6) : kb K ∧ bW w 0 := by
  obtain ⟨c1, c2, c3, c4, c5, d1, d2, d3, d4, d5, d6⟩ := h
  exact ⟨⟨d1, d3, d4, hO, hl, hN⟩, d2, d5, d6, c3⟩
theorem rng_w {K : gK8} {w w' : gW5} (h : rng K w) (hb : bW w' 0) : rng K w' := by
  obtain ⟨c1, c2, c3, c4, c5, d1, d2, d3, d4, d5, d6⟩ := h
  obtain ⟨b1, b2, b3, b4⟩ := hb
  exact ⟨c1, c2, b4, c4, c5, d1, b1, d3, d4, b2, b3⟩
