/-! THE CLASS' TRAIN DOES AS THE SPEC -/
theorem PC_NF {u : Mem} {t b : Nat} {pg : List (Nat × Nat × List Nat)} {s p m : Int32} {o k g : Nat → Int32} (ht : tOK t) (hb : gokb u.1 b l0 = true) (h : PC u b pg) : PC (NF t u s p m o k g) b pg := by
  obtain ⟨h1, h2⟩ := held_apart ht hb
  refine ⟨h.1, ?_, ?_, fun i hi => ?_⟩
  · rw [NF_I b 1 (Or.inl h1)]; exact h.2.1
  · rw [NF_I b 2 (Or.inl h1)]; exact h.2.2.1
  · rw [NF_A (b + 1) ⟨h2 2 (by decide) (by decide), h2 6 (by decide) (by decide), h2 9 (by decide) (by decide)⟩]; exact h.2.2.2 i hi
theorem gob_t {α : Type} {n t : Nat} {l : List (Nat × Nat)} {k : Option α} (h : gokb n t l = true) : gob n t l k = k := if_pos h
theorem sumC {u : Mem} {t : Nat} {K : gK8} {w : gW5} {p x : Nat} {o k g : Nat → Int32} (ht : tOK t) (hK : KC u t K) (ho : ∀ i, i < 8 → o i = wO w i) (hp : p < 6) (hx : x < 8) :
    ∃ g', f_X6_sum t (nI p) (nI x) (NF t u (wS w) (wP w) (wM w) o k g) = some (sumS K w p x, NF t u (wS w) (wP w) (wM w) o k g') := by
  obtain ⟨⟨k1, k2⟩, k3, k4, k5, k6, k7, k8⟩ := hK
  unfold f_X6_sum
  simp only [gin_nI hp (show 6 ≤ 2147483648 by decide), gin_nI hx (show 8 ≤ 2147483648 by decide), nI_clamp (show p < 2 ^ 31 by omega), nI_clamp (show x < 2 ^ 31 by omega)]
  simp only [gin_of (x := (0 : Int32)) (n := 6) (by decide) (by decide), gin_of (x := (1 : Int32)) (n := 6) (by decide) (by decide), gin_of (x := (2 : Int32)) (n := 6) (by decide) (by decide), gin_of (x := (3 : Int32)) (n := 6) (by decide) (by decide), gin_of (x := (4 : Int32)) (n := 6) (by decide) (by decide), gin_of (x := (5 : Int32)) (n := 6) (by decide) (by decide)]
  simp only [NF_g, NF_A (t + 1) (show t + 1 ≠ t + 2 ∧ t + 1 ≠ t + 6 ∧ t + 1 ≠ t + 9 by omega), NF_A (t + 3) (show t + 3 ≠ t + 2 ∧ t + 3 ≠ t + 6 ∧ t + 3 ≠ t + 9 by omega), NF_A (t + 4) (show t + 4 ≠ t + 2 ∧ t + 4 ≠ t + 6 ∧ t + 4 ≠ t + 9 by omega), NF_2, NF_12, NF_R, NF_n]
  rw [gob_t k8]
  refine ⟨_, ?_⟩
  rw [pbind_of (warmth_eq (lt := ltV (nI p) (cK K p) (cV K p) (nI x) (wO w x) (rm10 (wM w))) (PC_NF ht k8 k6) k7 ?_)]
  · rw [k3 x hx, ho x hx]
    rfl
  · intro i hi
    rw [NF_9, (k4 p hp).1, (k4 p hp).2.1, ho x hx]
    have h : i = 0 ∨ i = 1 ∨ i = 2 ∨ i = 3 ∨ i = 4 ∨ i = 5 := by omega
    rcases h with rfl | rfl | rfl | rfl | rfl | rfl <;> rfl
