/-! THE CLASS' TRAIN DOES AS THE SPEC -/
theorem PC_NF {u : Mem} {t b : Nat} {pg : List (Nat × Nat × List Nat)} {s p m : Int32} {o k g : Nat → Int32} (ht : tOK t) (hb : gokb u.1 b l0 = true) (h : PC u b pg) : PC (NF t u s p m o k g) b pg := by
  obtain ⟨h1, h2⟩ := held_apart ht hb
  refine ⟨h.1, ?_, ?_, fun i hi => ?_⟩
  · rw [NF_I b 1 (Or.inl h1)]; exact h.2.1
  · rw [NF_I b 2 (Or.inl h1)]; exact h.2.2.1
  · rw [NF_A (b + 1) ⟨h2 2 (by decide) (by decide), h2 6 (by decide) (by decide), h2 9 (by decide) (by decide)⟩]; exact h.2.2.2 i hi
theorem gob_t {α : Type} {n t : Nat} {l : List (Nat × Nat)} {k : Option α} (h : gokb n t l = true) : gob n t l k = k := if_pos h
theorem sumC {u : Mem} {t : Nat} {K : gK8} {w : gW5} {p x : Nat} {o k g : Nat → Int32} (ht : tOK t) (hK : KC u t K) (ho : ∀ i, i < 8 → o i = wO w i) (hp : p < 6) (hx : x < 8) :
    ∃ g', f_X6_sum t (nI p) (nI x) (NF t u (wS w) (wP w) (wM w) o k g) = some (sumS K w p x, NF t u (wS w) (wP w) (wM w) o k g') := by
  obtain ⟨⟨k1, k2⟩, k3, k4, k5, k6, k7, k8⟩ := hK
  unfold f_X6_sum
  simp only [gin_nI hp (show 6 ≤ 2147483648 by decide), gin_nI hx (show 8 ≤ 2147483648 by decide), nI_clamp (show p < 2 ^ 31 by omega), nI_clamp (show x < 2 ^ 31 by omega)]
  simp only [gin_of (x := (0 : Int32)) (n := 6) (by decide) (by decide), gin_of (x := (1 : Int32)) (n := 6) (by decide) (by decide), gin_of (x := (2 : Int32)) (n := 6) (by decide) (by decide), gin_of (x := (3 : Int32)) (n := 6) (by decide) (by decide), gin_of (x := (4 : Int32)) (n := 6) (by decide) (by decide), gin_of (x := (5 : Int32)) (n := 6) (by decide) (by decide)]
  simp only [NF_g, NF_A (t + 1) (show t + 1 ≠ t + 2 ∧ t + 1 ≠ t + 6 ∧ t + 1 ≠ t + 9 by omega), NF_A (t + 3) (show t + 3 ≠ t + 2 ∧ t + 3 ≠ t + 6 ∧ t + 3 ≠ t + 9 by omega), NF_A (t + 4) (show t + 4 ≠ t + 2 ∧ t + 4 ≠ t + 6 ∧ t + 4 ≠ t + 9 by omega), NF_2, NF_12, NF_R, NF_n]
  rw [gob_t k8]
  have hW : ∀ G : Nat → Int32, (∀ i, i < 6 → G i = ltV (nI p) (cK K p) (cV K p) (nI x) (wO w x) (rm10 (wM w)) i) → f_X0_warmth (gR u t 13) (t + 9) (NF t u (wS w) (wP w) (wM w) o k G) = some (pgW (ltV (nI p) (cK K p) (cV K p) (nI x) (wO w x) (rm10 (wM w))) (cP K)) := fun G hG => warmth_eq (PC_NF ht k8 k6) k7 (fun i hi => by rw [NF_9]; exact hG i hi)
  have key : ∀ G : Nat → Int32, (∀ i, i < 6 → G i = ltV (nI p) (cK K p) (cV K p) (nI x) (wO w x) (rm10 (wM w)) i) → Option.bind (f_X0_warmth (gR u t 13) (t + 9) (NF t u (wS w) (wP w) (wM w) o k G)) (fun r13 => some (gA u (t + 1) x * 2 - o x + r13, NF t u (wS w) (wP w) (wM w) o k G)) = some (sumS K w p x, NF t u (wS w) (wP w) (wM w) o k G) := by
    intro G hG
    rw [pbind_of (hW G hG), k3 x hx, ho x hx]
    rfl
  refine ⟨_, key _ ?_⟩
  intro i hi
  rw [(k4 p hp).1, (k4 p hp).2.1, ho x hx]
  have h : i = 0 ∨ i = 1 ∨ i = 2 ∨ i = 3 ∨ i = 4 ∨ i = 5 := by omega
  rcases h with rfl | rfl | rfl | rfl | rfl | rfl <;> rfl
theorem nI_40 {p x : Nat} : nI p * (4 : Int32) + (nI x - nI x / (4 : Int32) * (4 : Int32)) = nI p * nI 4 + (nI x - nI x / nI 4 * nI 4) := rfl
theorem glowC' {u : Mem} {t : Nat} {K : gK8} {w : gW5} {p x : Nat} {o k g : Nat → Int32} (ht : tOK t) (hK : KC u t K) (ho : ∀ i, i < 8 → o i = wO w i) (hp : p < 6) (hx : x < 8) :
    ∃ g', f_X6_glow t (nI p) (nI x) (NF t u (wS w) (wP w) (wM w) o k g) = some (glowS K w p x, NF t u (wS w) (wP w) (wM w) o k g') := by
  obtain ⟨g', h⟩ := sumC (g := g) (k := k) ht hK ho hp hx
  refine ⟨g', ?_⟩
  obtain ⟨⟨k1, k2⟩, k3, k4, k5, k6, k7, k8⟩ := hK
  unfold f_X6_glow f_X6_twiceIfFresh
  rw [obind_of h]
  simp only [gin_nI hp (show 6 ≤ 2147483648 by decide), gin_nI hx (show 8 ≤ 2147483648 by decide), nI_clamp (show p < 2 ^ 31 by omega), nI_clamp (show x < 2 ^ 31 by omega)]
  simp only [NF_A (t + 3) (show t + 3 ≠ t + 2 ∧ t + 3 ≠ t + 6 ∧ t + 3 ≠ t + 9 by omega), NF_A (t + 4) (show t + 4 ≠ t + 2 ∧ t + 4 ≠ t + 6 ∧ t + 4 ≠ t + 9 by omega), NF_A (t + 8) (show t + 8 ≠ t + 2 ∧ t + 8 ≠ t + 6 ∧ t + 8 ≠ t + 9 by omega), NF_2, NF_12]
  rw [nI_40, nI_rem (by omega) (by decide), nI_mul, nI_add, (k4 p hp).1, (k4 p hp).2.1, ho x hx]
  simp only [gin_nI (show p * 4 + x % 4 < 24 by omega) (show 24 ≤ 2147483648 by decide), nI_clamp (show p * 4 + x % 4 < 2 ^ 31 by omega)]
  rw [k5 _ (by omega)]
  unfold glowS rm4
  generalize cK K p = kd
  generalize sumS K w p x = sm
  by_cases h1 : kd = 1
  · rw [if_pos h1, if_pos h1]
  · rw [if_neg h1, if_neg h1]
    by_cases h2 : kd = 2
    · rw [if_pos h2, if_pos h2]
    · rw [if_neg h2, if_neg h2]
      by_cases h3 : kd = 3
      · rw [if_pos h3, if_pos h3]
        by_cases q : wO w x = 0 <;> simp [q]
      · rw [if_neg h3, if_neg h3]
        by_cases h4 : kd = 4
        · rw [if_pos h4, if_pos h4]
          by_cases q : wM w - wM w / 4 * 4 = 0 <;> simp [q]
        · rw [if_neg h4, if_neg h4]
          by_cases h5 : kd = 5
          · rw [if_pos h5, if_pos h5]
          · rw [if_neg h5, if_neg h5]
            by_cases h6 : kd = 6
            · rw [if_pos h6, if_pos h6]
              by_cases q : wO w x = 0 <;> simp [q]
            · rw [if_neg h6, if_neg h6]
theorem and1 (y : Int32) : y &&& (1 : Int32) = 0 ∨ y &&& (1 : Int32) = 1 := by
  have h : ∀ b : Bool, y.toBitVec.getLsbD 0 = b → y &&& (1 : Int32) = if b = true then 1 else 0 := by
    intro b hb
    refine bx_ext fun i hi => ?_
    rw [Int32.toBitVec_and, BitVec.getLsbD_and, bx_1 i hi]
    cases i with
    | zero =>
      rw [hb]
      cases b
      · simp
      · simp
    | succ i =>
      cases b
      · simp [bx_0 (i + 1) hi]
      · simp [bx_1 (i + 1) hi]
  have := h _ rfl
  cases hb : y.toBitVec.getLsbD 0
  · rw [hb] at this; exact Or.inl this
  · rw [hb] at this; exact Or.inr this
theorem bit_f {x : Int32} {t : Nat} (h : bit x t = false) : (x >>> (nI t &&& 31)) &&& (1 : Int32) = 0 := by
  unfold bit at h
  rcases and1 (x >>> (nI t &&& 31)) with q | q
  · exact q
  · rw [q] at h; exact absurd h (by decide)
theorem bit_t {x : Int32} {t : Nat} (h : bit x t = true) : (x >>> (nI t &&& 31)) &&& (1 : Int32) = 1 := of_decide_eq_true h
theorem knowsC {v : Mem} {t p x : Nat} (hp : p < 6) : f_X6_knowsOf t (nI p) (nI x) v = some (bI (bit (gA v (t + 6) p) x)) := by
  unfold f_X6_knowsOf
  rw [gin_nI hp (by decide), nI_clamp (by omega)]
  cases h : bit (gA v (t + 6) p) x
  · rw [bit_f h]; rfl
  · rw [bit_t h]; rfl
theorem itN_succ {α : Type} (f : Nat → α → α) (n : Nat) (a : α) : itN f (n + 1) a = f n (itN f n a) := rfl
theorem favS_ge (K : gK8) (w : gW5) (p : Nat) : ∀ n, (0 : Int32) ≤ (favS K w p n).2
  | 0 => (by decide : (0 : Int32) ≤ 0)
  | n + 1 => by
    unfold favS
    rw [itN_succ]
    have h := favS_ge K w p n
    unfold favS at h
    split
    · rename_i q
      obtain ⟨q1, q2⟩ := q
      show (0 : Int32) ≤ glowS K w p n
      (simp (disch := omega) only [le_I, lt_I, eq_I, nI_toInt, Int32.reduceToInt, ne_eq] at * <;> omega)
    · exact h
theorem favC {u : Mem} {t : Nat} {K : gK8} {w : gW5} {p : Nat} {o k g : Nat → Int32} (ht : tOK t) (hK : KC u t K) (ho : ∀ i, i < 8 → o i = wO w i) (hk : ∀ i, i < 6 → k i = wK w i) (hp : p < 6) :
    ∃ g', f_X6_favourite t (nI p) (NF t u (wS w) (wP w) (wM w) o k g) = some ((favS K w p 8).1, NF t u (wS w) (wP w) (wM w) o k g') := by
  have h := while_F (body := fun s : Int32 × Int32 × Int32 × Mem => f_X6_favourite_L8 t (nI p) s.1 s.2.1 s.2.2.1 s.2.2.2) 8 (fun i s => ∃ g', s = ((favS K w p i).1, (favS K w p i).2, nI i, NF t u (wS w) (wP w) (wM w) o k g')) (fun r => ∃ g', r = ((favS K w p 8).1, NF t u (wS w) (wP w) (wM w) o k g')) (s := ((-5 : Int32), ((0 : Int32), ((0 : Int32), NF t u (wS w) (wP w) (wM w) o k g)))) (by decide) ⟨g, rfl⟩ ?_ ?_
  · obtain ⟨r, h1, g', rfl⟩ := h
    exact ⟨g', h1⟩
  · rintro i s hi ⟨g1, rfl⟩
    refine Or.inl ?_
    have h0 := favS_ge K w p i
    have hs : favS K w p (i + 1) = if bit (wK w p) i = true ∧ (favS K w p i).2 < glowS K w p i then (nI i, glowS K w p i) else favS K w p i := rfl
    rw [hs]
    show ∃ s', f_X6_favourite_L8 t (nI p) (favS K w p i).1 (favS K w p i).2 (nI i) (NF t u (wS w) (wP w) (wM w) o k g1) = some (Sum.inl s') ∧ _
    unfold f_X6_favourite_L8
    rw [if_neg (by (simp (disch := omega) only [le_I, lt_I, eq_I, nI_toInt, Int32.reduceToInt, ne_eq] <;> omega)), pbind_of (knowsC hp), NF_6, hk p hp, nI_1]
    cases hb : bit (wK w p) i
    · rw [if_pos (show bI false = 0 from rfl), if_pos h0, if_neg (by simp)]
      exact ⟨_, rfl, g1, rfl⟩
    · rw [if_neg (show ¬ bI true = 0 by decide)]
      obtain ⟨g2, hg⟩ := glowC' (g := g1) (k := k) ht hK ho hp hi
      rw [obind_of hg]
      by_cases q : glowS K w p i ≤ (favS K w p i).2
      · rw [if_pos q, if_neg (by intro q2; have q2 := q2.2; (simp (disch := omega) only [le_I, lt_I, eq_I, nI_toInt, Int32.reduceToInt, ne_eq] at * <;> omega))]
        exact ⟨_, rfl, g2, rfl⟩
      · rw [if_neg q, if_pos ⟨rfl, by (simp (disch := omega) only [le_I, lt_I, eq_I, nI_toInt, Int32.reduceToInt, ne_eq] at * <;> omega)⟩]
        exact ⟨_, rfl, g2, rfl⟩
  · rintro s ⟨g1, rfl⟩
    refine ⟨_, ?_, g1, rfl⟩
    show f_X6_favourite_L8 t (nI p) (favS K w p 8).1 (favS K w p 8).2 (nI 8) (NF t u (wS w) (wP w) (wM w) o k g1) = _
    unfold f_X6_favourite_L8
    rw [if_pos (by (simp (disch := omega) only [le_I, lt_I, eq_I, nI_toInt, Int32.reduceToInt, ne_eq] <;> omega))]
