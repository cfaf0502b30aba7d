/-! ASH AND SPREAD -/
theorem ashM1 {u : Mem} {K : gK8} {w : gW5} {p : Nat} {v : Mem} (hK : KM u K) (hv : VM u w v) (hp : p < 6) (a : Int32) :
    ∃ v', whileO (fun s => f_X8_ash_L31 s.1 s.2.1 s.2.2.1 s.2.2.2) FUEL (a, (nI p, ((0 : Int32), v))) = some (.inl (ashS1 K w p 8 a, (nI (p + 1), v'))) ∧ VM u w v' := by
  have h := while_F (body := fun s : Int32 × Int32 × Int32 × Mem => f_X8_ash_L31 s.1 s.2.1 s.2.2.1 s.2.2.2) 8 (fun i s => ∃ v', s = (ashS1 K w p i a, nI p, nI i, v') ∧ VM u w v') (fun r => ∃ v', r = .inl (ashS1 K w p 8 a, (nI (p + 1), v')) ∧ VM u w v') (s := (a, (nI p, ((0 : Int32), v)))) (by decide) ⟨v, rfl, hv⟩ ?_ ?_
  · obtain ⟨r, h1, v', rfl, h2⟩ := h
    exact ⟨v', h1, h2⟩
  · rintro i s hi ⟨v1, rfl, hv1⟩
    refine Or.inl ?_
    obtain ⟨v2, hg, hv2⟩ := glowM hK hv1 hp hi
    have hv1' := hv1
    obtain ⟨o, k, g, rfl, ho, hk⟩ := hv1
    show ∃ s', f_X8_ash_L31 (ashS1 K w p i a) (nI p) (nI i) _ = some (Sum.inl s') ∧ _
    unfold f_X8_ash_L31
    have hs : ashS1 K w p (i + 1) a = if bit (wK w p) i = true ∧ (0 : Int32) < glowS K w p i then ashS1 K w p i a &&& (((1 : Int32) <<< (nI i &&& 31)) ^^^ (-1 : Int32)) else ashS1 K w p i a := rfl
    rw [if_neg (by (simp (disch := omega) only [le_I, lt_I, eq_I, nI_toInt, Int32.reduceToInt, ne_eq] <;> omega)), gin_nI hp (by decide), nI_clamp (by omega), NM_86, pbind_of (hasM _ _), hk p hp, nI_1, hs]
    cases hb : bit (wK w p) i
    · rw [if_pos (show bI false = 0 from rfl), if_neg (by simp)]
      exact ⟨_, rfl, _, rfl, hv1'⟩
    · rw [if_neg (show ¬ bI true = 0 by decide), obind_of hg]
      by_cases q : glowS K w p i ≤ 0
      · rw [if_pos q, if_neg (by intro q2; have q2 := q2.2; (simp (disch := omega) only [le_I, lt_I, eq_I, nI_toInt, Int32.reduceToInt, ne_eq] at * <;> omega))]
        exact ⟨_, rfl, _, rfl, hv2⟩
      · rw [if_neg q, if_pos ⟨rfl, by (simp (disch := omega) only [le_I, lt_I, eq_I, nI_toInt, Int32.reduceToInt, ne_eq] at * <;> omega)⟩]
        exact ⟨_, rfl, _, rfl, hv2⟩
  · rintro s ⟨v1, rfl, hv1⟩
    refine ⟨_, ?_, v1, rfl, hv1⟩
    show f_X8_ash_L31 (ashS1 K w p 8 a) (nI p) (nI 8) v1 = _
    unfold f_X8_ash_L31
    rw [if_pos (by (simp (disch := omega) only [le_I, lt_I, eq_I, nI_toInt, Int32.reduceToInt, ne_eq] <;> omega)), nI_1]
theorem ashM {u : Mem} {K : gK8} {w : gW5} {v : Mem} (hK : KM u K) (hv : VM u w v) :
    ∃ v', f_X8_ash v = some (ashS K w (cN K), v') ∧ VM u w v' := by
  have k12 := hK.1
  have k4 := hK.2.2.1
  have h := while_F (body := fun s : Int32 × Int32 × Mem => f_X8_ash_L6 s.1 s.2.1 s.2.2) (cN K) (fun i s => ∃ v', s = (ashS K w i, nI i, v') ∧ VM u w v') (fun r => ∃ v', r = (ashS K w (cN K), v') ∧ VM u w v') (s := ((255 : Int32), ((0 : Int32), v))) (by omega) ⟨v, rfl, hv⟩ ?_ ?_
  · obtain ⟨r, h1, v', rfl, h2⟩ := h
    exact ⟨v', h1, h2⟩
  · rintro i s hi ⟨v1, rfl, hv1⟩
    obtain ⟨v2, h2, hv2⟩ := ashM1 hK hv1 (show i < 6 by omega) (ashS K w i)
    refine Or.inl ?_
    have hv1' := hv1
    have hoff : bI (bit (gI u 82 1) i) = cO K i := (k4 i (by omega)).2.2.2
    show ∃ s', f_X8_ash_L6 (ashS K w i) (nI i) v1 = some (Sum.inl s') ∧ _
    have hs : ashS K w (i + 1) = if cO K i = 0 then ashS1 K w i 8 (ashS K w i) else ashS K w i := rfl
    obtain ⟨o, k, g, rfl, ho, hk⟩ := hv1
    unfold f_X8_ash_L6
    rw [NM_I 82 0 (Or.inr (by decide)), NM_I 82 1 (Or.inr (by decide)), k12.2, if_neg (by (simp (disch := omega) only [le_I, lt_I, eq_I, nI_toInt, Int32.reduceToInt, ne_eq] <;> omega)), pbind_of (hasM _ _), hoff, hs, nI_1]
    by_cases h0 : cO K i = 0
    · rw [if_pos h0, if_pos h0]
      exact ⟨_, h2, _, rfl, hv2⟩
    · rw [if_neg h0, if_neg h0]
      exact ⟨_, rfl, _, rfl, hv1'⟩
  · rintro s ⟨v1, rfl, hv1⟩
    refine ⟨_, ?_, v1, rfl, hv1⟩
    show f_X8_ash_L6 (ashS K w (cN K)) (nI (cN K)) v1 = _
    obtain ⟨o, k, g, rfl, ho, hk⟩ := hv1
    unfold f_X8_ash_L6
    rw [NM_I 82 0 (Or.inr (by decide)), k12.2, if_pos (by (simp (disch := omega) only [le_I, lt_I, eq_I, nI_toInt, Int32.reduceToInt, ne_eq] <;> omega))]
/-! spread: both give the number whose bit o is set where one is reached -/
theorem ext32 {x y : Int32} (h : ∀ o, o < 32 → bit x o = bit y o) : x = y := bx_ext fun i hi => by rw [← bit_lsb x hi, ← bit_lsb y hi]; exact h i hi
def sprC (K : gK8) (w : gW5) (t : Nat) (n : Nat) : Int32 := itN (fun p r => if bit (wK w p) t = true then (if cO K p = 0 then (r ||| ((1 : Int32) <<< (nI p &&& 31))) ||| hearS K p (cN K) else r ||| ((1 : Int32) <<< (nI p &&& 31))) else r) n 0
theorem spreadC {u : Mem} {t x : Nat} {K : gK8} {w : gW5} {v : Mem} (hK : KC u t K) (hv : VC t u w v) (hx : x < 8) : f_X6_spread t (nI x) v = some (sprC K w x (cN K)) := by
  have hh : ∀ p, p < 6 → f_X6_hearersOf t (nI p) v = some (hearS K p (cN K)) := fun p hp => hearC hK hv hp
  obtain ⟨o, k, g, rfl, ho, hk⟩ := hv
  obtain ⟨⟨k1, k2⟩, k3, k4, k5, k6, k7, k8⟩ := hK
  have h := while_F (body := fun s : Int32 × Int32 => f_X6_spread_L4 (NF t u (wS w) (wP w) (wM w) o k g) t (nI x) s.1 s.2) (cN K) (fun i s => s = (sprC K w x i, nI i)) (fun r => r = sprC K w x (cN K)) (s := ((0 : Int32), (0 : Int32))) (by omega) rfl ?_ ?_
  · obtain ⟨r, h1, rfl⟩ := h
    exact h1
  · rintro i s hi rfl
    refine Or.inl ?_
    have hs : sprC K w x (i + 1) = if bit (wK w i) x = true then (if cO K i = 0 then (sprC K w x i ||| ((1 : Int32) <<< (nI i &&& 31))) ||| hearS K i (cN K) else sprC K w x i ||| ((1 : Int32) <<< (nI i &&& 31))) else sprC K w x i := rfl
    show ∃ s', f_X6_spread_L4 _ t (nI x) (sprC K w x i) (nI i) = some (Sum.inl s') ∧ _
    unfold f_X6_spread_L4
    rw [NF_I t 9 (Or.inr (by decide)), k2, if_neg (by (simp (disch := omega) only [le_I, lt_I, eq_I, nI_toInt, Int32.reduceToInt, ne_eq] <;> omega)), pbind_of (knowsC (by omega)), NF_6, hk i (by omega), nI_1, gin_nI (show i < 6 by omega) (by decide), nI_clamp (by omega), NF_A (t + 7) (by omega), (k4 i (by omega)).2.2.2, pbind_of (hh i (by omega)), hs]
    cases hb : bit (wK w i) x
    · rw [if_pos (show bI false = 0 from rfl), if_neg (by decide)]
      exact ⟨_, rfl, rfl⟩
    · rw [if_neg (show ¬ bI true = 0 by decide), if_pos rfl]
      by_cases h0 : cO K i = 0
      · rw [if_pos h0, if_pos h0]
        exact ⟨_, rfl, rfl⟩
      · rw [if_neg h0, if_neg h0]
        exact ⟨_, rfl, rfl⟩
  · rintro s rfl
    refine ⟨_, ?_, rfl⟩
    show f_X6_spread_L4 _ t (nI x) (sprC K w x (cN K)) (nI (cN K)) = _
    unfold f_X6_spread_L4
    rw [NF_I t 9 (Or.inr (by decide)), k2, if_pos (by (simp (disch := omega) only [le_I, lt_I, eq_I, nI_toInt, Int32.reduceToInt, ne_eq] <;> omega))]
/-- who is reached, as a bit -/
def rchB (K : gK8) (w : gW5) (t o : Nat) : Nat → Bool
  | 0 => false
  | n + 1 => rchB K w t o n || (bit (wK w n) t && (decide (o = n) || (decide (cO K n = 0) && (decide (o < cN K) && hearB K n o))))
theorem sprC_bit (K : gK8) (w : gW5) (t : Nat) (hN : cN K ≤ 6) {o : Nat} (ho : o < 32) : ∀ n, n ≤ 6 → bit (sprC K w t n) o = rchB K w t o n
  | 0, _ => bit_0 ho
  | n + 1, hn => by
    have ih := sprC_bit K w t hN ho n (by omega)
    have hs : sprC K w t (n + 1) = if bit (wK w n) t = true then (if cO K n = 0 then (sprC K w t n ||| ((1 : Int32) <<< (nI n &&& 31))) ||| hearS K n (cN K) else sprC K w t n ||| ((1 : Int32) <<< (nI n &&& 31))) else sprC K w t n := rfl
    rw [hs]
    unfold rchB
    cases hb : bit (wK w n) t
    · rw [if_neg (by decide), ih]; simp
    · rw [if_pos rfl]
      by_cases h0 : cO K n = 0
      · rw [if_pos h0, bit_or _ _ ho, bit_or _ _ ho, ih, bit_sh (by omega) ho, hearS_bit K n (cN K) (by omega) o ho]
        simp [h0, Bool.or_assoc]
      · rw [if_neg h0, bit_or _ _ ho, ih, bit_sh (by omega) ho]
        simp [h0]
/-! the reference: who knows, and the carriages where one who is on tells -/
def sprM (K : gK8) (w : gW5) (t : Nat) (n : Nat) : Int32 × Int32 := itN (fun p q => if bit (wK w p) t = true then (q.1 ||| ((1 : Int32) <<< (nI p &&& 31)), q.2 ||| (if cO K p = 0 then (1 : Int32) <<< (cC K p &&& 31) else 0)) else q) n (0, 0)
def sprM2 (K : gK8) (seats : Int32) (s : Int32) (n : Nat) : Int32 := itN (fun p r => r ||| (if cO K p = 0 ∧ bit seats (cC K p).toNatClampNeg = true then (1 : Int32) <<< (nI p &&& 31) else 0)) n s
/-- all carriages are 0 to 3 -/
def carOK (K : gK8) : Prop := ∀ i, i < 6 → ∃ c, c < 4 ∧ cC K i = nI c
theorem spreadM {u : Mem} {x : Nat} {K : gK8} {w : gW5} {v : Mem} (hK : KM u K) (hC : carOK K) (hv : VM u w v) (hx : x < 8) : f_X8_spread (nI x) v = some (sprM2 K (sprM K w x (cN K)).2 (sprM K w x (cN K)).1 (cN K)) := by
  obtain ⟨o, k, g, rfl, ho, hk⟩ := hv
  obtain ⟨⟨k1, k2⟩, k3, k4, k5, k6, k7⟩ := hK
  have h := while_F (body := fun s : Int32 × Int32 × Int32 => f_X8_spread_L7 (NM u (wS w) (wP w) (wM w) o k g) (nI x) s.1 s.2.1 s.2.2) (cN K) (fun i s => s = ((sprM K w x i).1, (sprM K w x i).2, nI i)) (fun r => r = sprM2 K (sprM K w x (cN K)).2 (sprM K w x (cN K)).1 (cN K)) (s := ((0 : Int32), ((0 : Int32), (0 : Int32)))) (by omega) rfl ?_ ?_
  · obtain ⟨r, h1, rfl⟩ := h
    exact h1
  · rintro i s hi rfl
    refine Or.inl ?_
    have hs : sprM K w x (i + 1) = if bit (wK w i) x = true then ((sprM K w x i).1 ||| ((1 : Int32) <<< (nI i &&& 31)), (sprM K w x i).2 ||| (if cO K i = 0 then (1 : Int32) <<< (cC K i &&& 31) else 0)) else sprM K w x i := rfl
    have hoff : bI (bit (gI u 82 1) i) = cO K i := (k4 i (by omega)).2.2.2
    show ∃ s', f_X8_spread_L7 _ (nI x) (sprM K w x i).1 (sprM K w x i).2 (nI i) = some (Sum.inl s') ∧ _
    unfold f_X8_spread_L7
    simp only [gin_nI (show i < 6 by omega) (show 6 ≤ 2147483648 by decide), nI_clamp (show i < 2 ^ 31 by omega), NM_86, nI_1, NM_A 85 (show 85 ≠ 88 ∧ 85 ≠ 86 ∧ 85 ≠ 99 by decide)]
    rw [NM_I 82 0 (Or.inr (by decide)), NM_I 82 1 (Or.inr (by decide)), k2, if_neg (by (simp (disch := omega) only [le_I, lt_I, eq_I, nI_toInt, Int32.reduceToInt, ne_eq] <;> omega)), pbind_of (hasM _ _), pbind_of (hasM _ _), hk i (by omega), hoff, (k4 i (by omega)).2.2.1, hs]
    cases hb : bit (wK w i) x
    · rw [if_pos (show bI false = 0 from rfl), if_neg (by decide)]
      exact ⟨_, rfl, rfl⟩
    · rw [if_neg (show ¬ bI true = 0 by decide), if_pos rfl]
      by_cases h0 : cO K i = 0
      · rw [if_pos h0, if_pos h0]
        exact ⟨_, rfl, rfl⟩
      · rw [if_neg h0, if_neg h0]
        exact ⟨_, rfl, rfl⟩
  · rintro s rfl
    refine ⟨_, ?_, rfl⟩
    show f_X8_spread_L7 _ (nI x) (sprM K w x (cN K)).1 (sprM K w x (cN K)).2 (nI (cN K)) = _
    unfold f_X8_spread_L7
    rw [NM_I 82 0 (Or.inr (by decide)), k2, if_pos (by (simp (disch := omega) only [le_I, lt_I, eq_I, nI_toInt, Int32.reduceToInt, ne_eq] <;> omega))]
    generalize (sprM K w x (cN K)).1 = s0
    generalize (sprM K w x (cN K)).2 = seats
    have h := while_F (body := fun s : Int32 × Int32 => f_X8_spread_L79 (NM u (wS w) (wP w) (wM w) o k g) seats s.1 s.2) (cN K) (fun i s => s = (sprM2 K seats s0 i, nI i)) (fun r : (Int32 × Int32 × Int32) ⊕ Int32 => r = .inr (sprM2 K seats s0 (cN K))) (s := (s0, (0 : Int32))) (by omega) rfl ?_ ?_
    · obtain ⟨r, h1, rfl⟩ := h
      exact h1
    · rintro i s hi rfl
      refine Or.inl ?_
      have hoff : bI (bit (gI u 82 1) i) = cO K i := (k4 i (by omega)).2.2.2
      obtain ⟨c, hc, hce⟩ := hC i (by omega)
      have hs : sprM2 K seats s0 (i + 1) = sprM2 K seats s0 i ||| (if cO K i = 0 ∧ bit seats (cC K i).toNatClampNeg = true then (1 : Int32) <<< (nI i &&& 31) else 0) := rfl
      show ∃ s', f_X8_spread_L79 _ seats (sprM2 K seats s0 i) (nI i) = some (Sum.inl s') ∧ _
      unfold f_X8_spread_L79
      rw [NM_I 82 0 (Or.inr (by decide)), NM_I 82 1 (Or.inr (by decide)), k2, if_neg (by (simp (disch := omega) only [le_I, lt_I, eq_I, nI_toInt, Int32.reduceToInt, ne_eq] <;> omega)), pbind_of (hasM _ _), hoff, gin_nI (show i < 6 by omega) (by decide), nI_clamp (by omega), NM_A 85 (by decide), (k4 i (by omega)).2.2.1, hs, hce, pbind_of (hasM _ _), nI_clamp (by omega), nI_1]
      by_cases h0 : cO K i = 0
      · rw [if_pos h0]
        cases hb : bit seats c
        · rw [if_pos (show bI false = 0 from rfl), if_neg (by simp)]
          exact ⟨_, rfl, rfl⟩
        · rw [if_neg (show ¬ bI true = 0 by decide), if_pos ⟨h0, rfl⟩]
          exact ⟨_, rfl, rfl⟩
      · rw [if_neg h0, if_neg (fun q => h0 q.1)]
        exact ⟨_, rfl, rfl⟩
    · rintro s rfl
      refine ⟨_, ?_, rfl⟩
      show f_X8_spread_L79 _ seats (sprM2 K seats s0 (cN K)) (nI (cN K)) = _
      unfold f_X8_spread_L79
      rw [NM_I 82 0 (Or.inr (by decide)), k2, if_pos (by (simp (disch := omega) only [le_I, lt_I, eq_I, nI_toInt, Int32.reduceToInt, ne_eq] <;> omega))]
theorem rchB_iff (K : gK8) (w : gW5) (t o : Nat) : ∀ n, rchB K w t o n = true ↔ ∃ p, p < n ∧ bit (wK w p) t = true ∧ (o = p ∨ (cO K p = 0 ∧ o < cN K ∧ cO K o = 0 ∧ cC K o = cC K p))
  | 0 => by simp [rchB]
  | n + 1 => by
    have ih := rchB_iff K w t o n
    unfold rchB hearB
    rw [Bool.or_eq_true, ih]
    simp only [Bool.and_eq_true, Bool.or_eq_true, decide_eq_true_eq]
    constructor
    · rintro (⟨p, h1, h2⟩ | h)
      · exact ⟨p, by omega, h2⟩
      · exact ⟨n, by omega, h⟩
    · rintro ⟨p, h1, h2⟩
      by_cases q : p = n
      · subst q; exact Or.inr h2
      · exact Or.inl ⟨p, by omega, h2⟩
theorem sprM_1 (K : gK8) (w : gW5) (t : Nat) {o : Nat} (ho : o < 32) : ∀ n, n ≤ 6 → bit (sprM K w t n).1 o = (decide (o < n) && bit (wK w o) t)
  | 0, _ => by rw [show (sprM K w t 0).1 = 0 from rfl, bit_0 ho]; simp
  | n + 1, hn => by
    have ih := sprM_1 K w t ho n (by omega)
    have hs : sprM K w t (n + 1) = if bit (wK w n) t = true then ((sprM K w t n).1 ||| ((1 : Int32) <<< (nI n &&& 31)), (sprM K w t n).2 ||| (if cO K n = 0 then (1 : Int32) <<< (cC K n &&& 31) else 0)) else sprM K w t n := rfl
    rw [hs]
    by_cases q : o = n
    · subst q
      cases hb : bit (wK w o) t
      · rw [if_neg (by decide), ih]; simp
      · rw [if_pos rfl, bit_or _ _ ho, ih, bit_sh (by omega) ho]; simp
    · have h2 : (o < n + 1) ↔ o < n := by omega
      cases hb : bit (wK w n) t
      · rw [if_neg (by decide), ih]; simp [h2]
      · rw [if_pos rfl, bit_or _ _ ho, ih, bit_sh (by omega) ho]; simp [h2, q]
theorem sprM_2 (K : gK8) (w : gW5) (t : Nat) (hC : carOK K) {c : Nat} (hc : c < 4) : ∀ n, n ≤ 6 → (bit (sprM K w t n).2 c = true ↔ ∃ p, p < n ∧ bit (wK w p) t = true ∧ cO K p = 0 ∧ cC K p = nI c)
  | 0, _ => by rw [show (sprM K w t 0).2 = 0 from rfl, bit_0 (by omega)]; simp
  | n + 1, hn => by
    have ih := sprM_2 K w t hC hc n (by omega)
    have hs : sprM K w t (n + 1) = if bit (wK w n) t = true then ((sprM K w t n).1 ||| ((1 : Int32) <<< (nI n &&& 31)), (sprM K w t n).2 ||| (if cO K n = 0 then (1 : Int32) <<< (cC K n &&& 31) else 0)) else sprM K w t n := rfl
    obtain ⟨d, hd, hde⟩ := hC n (by omega)
    rw [hs]
    have key : bit (if bit (wK w n) t = true then ((sprM K w t n).1 ||| ((1 : Int32) <<< (nI n &&& 31)), (sprM K w t n).2 ||| (if cO K n = 0 then (1 : Int32) <<< (cC K n &&& 31) else 0)) else sprM K w t n).2 c = (bit (sprM K w t n).2 c || (bit (wK w n) t && (decide (cO K n = 0) && decide (c = d)))) := by
      cases hb : bit (wK w n) t
      · rw [if_neg (by decide)]; simp
      · rw [if_pos rfl]
        show bit ((sprM K w t n).2 ||| (if cO K n = 0 then (1 : Int32) <<< (cC K n &&& 31) else 0)) c = _
        rw [bit_or _ _ (by omega)]
        by_cases h0 : cO K n = 0
        · rw [if_pos h0, hde, bit_sh (by omega) (by omega)]; simp [h0]
        · rw [if_neg h0, bit_0 (by omega)]; simp [h0]
    rw [key, Bool.or_eq_true, ih]
    simp only [Bool.and_eq_true, decide_eq_true_eq]
    have hcd : c = d ↔ cC K n = nI c := by
      rw [hde, nI_eq (by omega) (by omega)]
      exact eq_comm
    rw [hcd]
    constructor
    · rintro (⟨p, h1, h2⟩ | h)
      · exact ⟨p, by omega, h2⟩
      · exact ⟨n, by omega, h⟩
    · rintro ⟨p, h1, h2⟩
      by_cases q : p = n
      · subst q; exact Or.inr h2
      · exact Or.inl ⟨p, by omega, h2⟩
theorem sprM2_bit (K : gK8) (seats s : Int32) {o : Nat} (ho : o < 32) : ∀ n, n ≤ 6 → bit (sprM2 K seats s n) o = (bit s o || (decide (o < n) && (decide (cO K o = 0) && bit seats (cC K o).toNatClampNeg)))
  | 0, _ => by rw [show sprM2 K seats s 0 = s from rfl]; simp
  | n + 1, hn => by
    have ih := sprM2_bit K seats s ho n (by omega)
    have hs : sprM2 K seats s (n + 1) = sprM2 K seats s n ||| (if cO K n = 0 ∧ bit seats (cC K n).toNatClampNeg = true then (1 : Int32) <<< (nI n &&& 31) else 0) := rfl
    rw [hs, bit_or _ _ ho, ih]
    by_cases q : o = n
    · subst q
      by_cases h0 : cO K o = 0
      · cases hb : bit seats (cC K o).toNatClampNeg
        · rw [if_neg (by simp), bit_0 ho]; simp
        · rw [if_pos ⟨h0, rfl⟩, bit_sh (by omega) ho]; simp [h0]
      · rw [if_neg (fun z => h0 z.1), bit_0 ho]; simp [h0]
    · have h2 : (o < n + 1) ↔ o < n := by omega
      have h3 : bit (if cO K n = 0 ∧ bit seats (cC K n).toNatClampNeg = true then (1 : Int32) <<< (nI n &&& 31) else 0) o = false := by
        split
        · rw [bit_sh (by omega) ho]; simp [q]
        · exact bit_0 ho
      rw [h3]; simp [h2]
theorem spr_eq (K : gK8) (w : gW5) (t : Nat) (hN : cN K ≤ 6) (hC : carOK K) : sprM2 K (sprM K w t (cN K)).2 (sprM K w t (cN K)).1 (cN K) = sprC K w t (cN K) := by
  refine ext32 fun o ho => ?_
  rw [sprC_bit K w t hN ho _ hN, sprM2_bit K _ _ ho _ hN, sprM_1 K w t ho _ hN, Bool.eq_iff_iff, rchB_iff]
  simp only [Bool.or_eq_true, Bool.and_eq_true, decide_eq_true_eq]
  constructor
  · rintro (⟨h1, h2⟩ | ⟨h1, h2, h3⟩)
    · exact ⟨o, h1, h2, Or.inl rfl⟩
    · obtain ⟨c, hc, hce⟩ := hC o (by omega)
      rw [hce, nI_clamp (by omega), sprM_2 K w t hC hc _ hN] at h3
      obtain ⟨p, p1, p2, p3, p4⟩ := h3
      exact ⟨p, p1, p2, Or.inr ⟨p3, h1, h2, by rw [hce, p4]⟩⟩
  · rintro ⟨p, p1, p2, rfl | ⟨p3, h1, h2, h4⟩⟩
    · exact Or.inl ⟨p1, p2⟩
    · refine Or.inr ⟨h1, h2, ?_⟩
      obtain ⟨c, hc, hce⟩ := hC o (by omega)
      rw [hce, nI_clamp (by omega), sprM_2 K w t hC hc _ hN]
      exact ⟨p, p1, p2, p3, by rw [← h4, hce]⟩
