/-! NUMBERS of the pure part -/
theorem nI_mul (a b : Nat) : nI a * nI b = nI (a * b) := (Int32.ofNat_mul a b).symm
theorem le_I (a b : Int32) : a ≤ b ↔ a.toInt ≤ b.toInt := Int32.le_iff_toInt_le
theorem lt_I (a b : Int32) : a < b ↔ a.toInt < b.toInt := Int32.lt_iff_toInt_lt
theorem eq_I (a b : Int32) : a = b ↔ a.toInt = b.toInt := Int32.toInt_inj.symm
/-- a number between 0 and a small bound is some nI k -/
theorem nI_in0 {x : Int32} {n : Nat} (h0 : 0 ≤ x.toInt) (h1 : x.toInt < n) : ∃ k, k < n ∧ x = nI k := by
  have h2 := Int32.toInt_lt x
  refine ⟨x.toInt.toNat, by omega, ?_⟩
  rw [eq_I, nI_toInt (by omega)]
  omega
theorem gin_nI {α : Type} {k n : Nat} {o : Option α} (h : k < n) (hn : n ≤ 2147483648) : gin (nI k) n o = o := by
  unfold gin
  rw [if_pos ⟨by rw [nI_toInt (by omega)]; omega, by rw [nI_toInt (by omega)]; omega⟩]
theorem gin_of {α : Type} {x : Int32} {n : Nat} {o : Option α} (h0 : 0 ≤ x.toInt) (h1 : x.toInt < n) : gin x n o = o := if_pos ⟨h0, h1⟩
theorem gne_of {α : Type} {y : Int32} {k : Option α} (h : ¬ y = 0) : gne y k = k := if_neg h
theorem gbo_0 {α : Type} {k : Option α} : gbo 0 k = k := if_pos (Or.inl rfl)
theorem gbo_1 {α : Type} {k : Option α} : gbo 1 k = k := if_pos (Or.inr rfl)
theorem obind_some {α β : Type} {a : α} {u : Mem} {k : α → Mem → Option β} : obind (some (a, u)) k = k a u := rfl
theorem obind_of {α β : Type} {x : Option (α × Mem)} {a : α} {u : Mem} {k : α → Mem → Option β} (h : x = some (a, u)) : obind x k = k a u := by rw [h]; rfl
theorem pbind_of {α β : Type} {x : Option α} {a : α} {k : α → Option β} (h : x = some a) : Option.bind x k = k a := by rw [h]; rfl
/-! counted loops -/
def itN {α : Type} (f : Nat → α → α) : Nat → α → α
  | 0, a => a
  | n + 1, a => f n (itN f n a)
theorem whileO_inl {σ ρ : Type} {body : σ → Option (σ ⊕ ρ)} {n : Nat} {s s' : σ} (h : body s = some (.inl s')) : whileO body (n + 1) s = whileO body n s' := by
  show (match body s with | none => none | some (.inl s') => whileO body n s' | some (.inr r) => some r) = _
  rw [h]
theorem whileO_inr {σ ρ : Type} {body : σ → Option (σ ⊕ ρ)} {n : Nat} {s : σ} {r : ρ} (h : body s = some (.inr r)) : whileO body (n + 1) s = some r := by
  show (match body s with | none => none | some (.inl s') => whileO body n s' | some (.inr r) => some r) = _
  rw [h]
/-- a loop by an invariant that counts up to N; P of its result -/
theorem while_I {σ ρ : Type} {body : σ → Option (σ ⊕ ρ)} (N : Nat) (J : Nat → σ → Prop) (P : ρ → Prop)
    (h : ∀ i s, i < N → J i s → (∃ s', body s = some (.inl s') ∧ J (i + 1) s') ∨ ∃ r, body s = some (.inr r) ∧ P r)
    (hN : ∀ s, J N s → ∃ r, body s = some (.inr r) ∧ P r) :
    ∀ (d i : Nat) (s : σ) (n : Nat), i + d = N → d < n → J i s → ∃ r, whileO body n s = some r ∧ P r := by
  intro d
  induction d with
  | zero =>
    intro i s n hi hn hJ
    have : i = N := by omega
    subst this
    obtain ⟨r, h1, h2⟩ := hN s hJ
    obtain ⟨n, rfl⟩ := Nat.exists_eq_succ_of_ne_zero (by omega : n ≠ 0)
    exact ⟨r, whileO_inr h1, h2⟩
  | succ d ih =>
    intro i s n hi hn hJ
    obtain ⟨n, rfl⟩ := Nat.exists_eq_succ_of_ne_zero (by omega : n ≠ 0)
    rcases h i s (by omega) hJ with ⟨s', h1, h2⟩ | ⟨r, h1, h2⟩
    · obtain ⟨r, h3, h4⟩ := ih (i + 1) s' n (by omega) (by omega) h2
      exact ⟨r, (whileO_inl h1).trans h3, h4⟩
    · exact ⟨r, whileO_inr h1, h2⟩
theorem while_F {σ ρ : Type} {body : σ → Option (σ ⊕ ρ)} (N : Nat) (J : Nat → σ → Prop) (P : ρ → Prop) {s : σ} (hN0 : N < 5000) (h0 : J 0 s)
    (h : ∀ i s, i < N → J i s → (∃ s', body s = some (.inl s') ∧ J (i + 1) s') ∨ ∃ r, body s = some (.inr r) ∧ P r)
    (hN : ∀ s, J N s → ∃ r, body s = some (.inr r) ∧ P r) : ∃ r, whileO body FUEL s = some r ∧ P r :=
  while_I N J P h hN N 0 s FUEL (Nat.zero_add N) hN0 h0
example (k : Nat) (h : k < 8) : ¬ (8 : Int32) ≤ nI k := by (simp (disch := omega) only [le_I, lt_I, eq_I, nI_toInt, Int32.reduceToInt, ne_eq] <;> omega)
example (k : Nat) (h : k ≥ 8) (h2 : k < 9) : (8 : Int32) ≤ nI k := by (simp (disch := omega) only [le_I, lt_I, eq_I, nI_toInt, Int32.reduceToInt, ne_eq] <;> omega)
example (x : Int32) (h : ¬ x < 0) (h2 : x < 6) : ∃ k, k < 6 ∧ x = nI k := nI_in0 (by (simp (disch := omega) only [le_I, lt_I, eq_I, nI_toInt, Int32.reduceToInt, ne_eq] at * <;> omega)) (by (simp (disch := omega) only [le_I, lt_I, eq_I, nI_toInt, Int32.reduceToInt, ne_eq] at * <;> omega))
example (x : Int32) (h : ¬ x < 0) (h2 : ¬ (5 : Int32) < x) : ∃ k, k < 6 ∧ x = nI k := nI_in0 (by (simp (disch := omega) only [le_I, lt_I, eq_I, nI_toInt, Int32.reduceToInt, ne_eq] at * <;> omega)) (by (simp (disch := omega) only [le_I, lt_I, eq_I, nI_toInt, Int32.reduceToInt, ne_eq] at * <;> omega))
