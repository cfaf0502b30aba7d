/-! RANGE CHECKS, both sides as one Bool -/
def wn (x : Int32) (N : Nat) : Bool := decide (0 ≤ x.toInt ∧ x.toInt < N)
theorem wn_of {x : Int32} {N : Nat} (h : wn x N = true) : ∃ k, k < N ∧ x = nI k := by
  obtain ⟨h1, h2⟩ := of_decide_eq_true h
  exact nI_in0 h1 h2
theorem wn_nI {k N : Nat} (h : k < N) (hk : k < 2 ^ 31) : wn (nI k) N = true := decide_eq_true (by rw [nI_toInt hk]; omega)
theorem isWithin_eq {x c : Int32} {N : Nat} (hc : c.toInt = N) : f_X7_isWithin x c = some (bI (wn x N)) := by
  unfold f_X7_isWithin wn
  by_cases h1 : x < 0
  · rw [if_pos h1, decide_eq_false (by rw [lt_I] at h1; intro q; have : (0 : Int32).toInt = 0 := rfl; omega)]; rfl
  · rw [if_neg h1]
    have h1' : 0 ≤ x.toInt := by
      rw [lt_I] at h1
      have : (0 : Int32).toInt = 0 := rfl
      omega
    by_cases h2 : c ≤ x
    · rw [if_pos h2, decide_eq_false (by rw [le_I] at h2; omega)]; rfl
    · rw [if_neg h2, decide_eq_true (by rw [le_I] at h2; omega)]; rfl
theorem isUpTo_eq {x c : Int32} {N : Nat} (hc : c.toInt + 1 = N) : f_X7_isUpTo x c = some (bI (wn x N)) := by
  unfold f_X7_isUpTo wn
  by_cases h1 : x < 0
  · rw [if_pos h1, decide_eq_false (by rw [lt_I] at h1; intro q; have : (0 : Int32).toInt = 0 := rfl; omega)]; rfl
  · rw [if_neg h1]
    have h1' : 0 ≤ x.toInt := by
      rw [lt_I] at h1
      have : (0 : Int32).toInt = 0 := rfl
      omega
    by_cases h2 : c < x
    · rw [if_pos h2, decide_eq_false (by rw [lt_I] at h2; omega)]; rfl
    · rw [if_neg h2, decide_eq_true (by rw [lt_I] at h2; omega)]; rfl
theorem in_eq {x c : Int32} {N : Nat} (hc : c.toInt + 1 = N) : f_X8_in x (0 : Int32) c = some (bI (wn x N)) := isUpTo_eq hc
theorem isPerson_eq {x : Int32} {u : Mem} {n : Nat} (hn : n ≤ 6) (h : gI u 1 9 = nI n) : f_X7_isPerson x u = some (bI (wn x n)) := by
  unfold f_X7_isPerson
  rw [h, pbind_of (isWithin_eq (nI_toInt (by omega)))]
  cases wn x n <;> rfl
theorem isTaleC_eq {x : Int32} : f_X7_isTale x = some (bI (wn x 8)) := by
  unfold f_X7_isTale
  rw [pbind_of (isWithin_eq (N := 8) rfl)]
  cases wn x 8 <;> rfl
theorem isOne_eq {x : Int32} {u : Mem} {n : Nat} (hn : n ≤ 6) (h : gI u 82 0 = nI n) : f_X8_isOne x u = some (bI (wn x n)) := by
  have hc : (nI n - (1 : Int32)).toInt + 1 = n := by
    cases n with
    | zero => rfl
    | succ k => rw [nI_pred, nI_toInt (by omega)]; omega
  unfold f_X8_isOne
  rw [h, pbind_of (in_eq hc)]
  cases wn x n <;> rfl
theorem isTaleM_eq {x : Int32} : f_X8_isTale x = some (bI (wn x 8)) := by
  unfold f_X8_isTale
  rw [pbind_of (in_eq (N := 8) rfl)]
  cases wn x 8 <;> rfl
theorem isTales_eq {x : Int32} : f_X8_isTales x = some (bI (wn x 256)) := by
  unfold f_X8_isTales
  rw [pbind_of (in_eq (N := 256) rfl)]
  cases wn x 256 <;> rfl
theorem isCarriage_eq {x : Int32} : f_X8_isCarriage x = some (bI (wn x 4)) := by
  unfold f_X8_isCarriage
  rw [pbind_of (in_eq (N := 4) rfl)]
  cases wn x 4 <;> rfl
theorem isMinutes_eq {x : Int32} : f_X8_isMinutes x = some (bI (wn x 31)) := by
  unfold f_X8_isMinutes
  rw [pbind_of (in_eq (N := 31) rfl)]
  cases wn x 31 <;> rfl
