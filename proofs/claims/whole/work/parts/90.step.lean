/-! EACH CASE OF THE LAW KEEPS THE INVARIANT -/
theorem gk {α : Type} {k L c : Nat} {o : Option α} (h : k + 6 ≤ L) (hL : L ≤ 3072) (hc : c < 6) : gin (nI k + nI c) L o = o := by
  rw [nI_add, gin_nI (by omega) (by omega)]
theorem lg_self (x : Int64) : lg_cmp x x = 0 := (lg_cmp_eq x x).mpr rfl
theorem stepS {u : Mem} {a : Option (Int32 × Mem)} {b : Mem → Option (Int32 × Mem)} (h : okS u a b) : ∃ u2, obind a (fun r u1 => obind (b u1) (fun r2 u2 => if r = r2 then some u2 else none)) = some u2 ∧ Inv u2 := by
  obtain ⟨r, u1, u2, h1, h2, h3⟩ := h
  exact ⟨u2, by rw [obind_of h1, obind_of h2, if_pos rfl], h3⟩
theorem stepSL {u : Mem} {a : Option (Int64 × Mem)} {b : Mem → Option (Int64 × Mem)} (h : okSL u a b) : ∃ u2, obind a (fun r u1 => obind (b u1) (fun r2 u2 => if lg_cmp r r2 = 0 then some u2 else none)) = some u2 ∧ Inv u2 := by
  obtain ⟨r, u1, u2, h1, h2, h3⟩ := h
  exact ⟨u2, by rw [obind_of h1, obind_of h2, if_pos (lg_self r)], h3⟩
theorem stepR {u : Mem} {a b : Option Int32} (hI : Inv u) (h : okR a b) : ∃ u2, Option.bind a (fun r => Option.bind b (fun r2 => if r = r2 then some u else none)) = some u2 ∧ Inv u2 := by
  obtain ⟨r, h1, h2⟩ := h
  exact ⟨u, by rw [pbind_of h1, pbind_of h2, if_pos rfl], hI⟩
theorem stepl {u : Mem} {a b : Option Int64} (hI : Inv u) (h : okL a b) : ∃ u2, Option.bind a (fun r => Option.bind b (fun r2 => if lg_cmp r r2 = 0 then some u else none)) = some u2 ∧ Inv u2 := by
  obtain ⟨r, h1, h2⟩ := h
  exact ⟨u, by rw [pbind_of h1, pbind_of h2, if_pos (lg_self r)], hI⟩
theorem kst_0 {xs : Nat → Int32} {L k : Nat} {u : Mem} (hk : k + 6 ≤ L) (hL : L ≤ 3072) (hI : Inv u) : ∃ u2, f_L_0 xs L (nI k) u = some u2 ∧ Inv u2 := by
  unfold f_L_0
  have g : ∀ (α : Type) (c : Nat) (o : Option α), c < 6 → gin (nI k + nI c) L o = o := fun α c o hc => gk hk hL hc
  have g1 : ∀ {α : Type} (o : Option α), gin (nI k + (1 : Int32)) L o = o := fun o => g _ 1 o (by decide)
  have g2 : ∀ {α : Type} (o : Option α), gin (nI k + (2 : Int32)) L o = o := fun o => g _ 2 o (by decide)
  have g3 : ∀ {α : Type} (o : Option α), gin (nI k + (3 : Int32)) L o = o := fun o => g _ 3 o (by decide)
  have g4 : ∀ {α : Type} (o : Option α), gin (nI k + (4 : Int32)) L o = o := fun o => g _ 4 o (by decide)
  simp only [g1, g2, g3, g4]
  exact stepS (st_one hI _ _ _ _)
theorem kst_1 {xs : Nat → Int32} {L k : Nat} {u : Mem} (hk : k + 6 ≤ L) (hL : L ≤ 3072) (hI : Inv u) : ∃ u2, f_L_1 xs L (nI k) u = some u2 ∧ Inv u2 := by
  unfold f_L_1
  have g : ∀ (α : Type) (c : Nat) (o : Option α), c < 6 → gin (nI k + nI c) L o = o := fun α c o hc => gk hk hL hc
  have g1 : ∀ {α : Type} (o : Option α), gin (nI k + (1 : Int32)) L o = o := fun o => g _ 1 o (by decide)
  have g2 : ∀ {α : Type} (o : Option α), gin (nI k + (2 : Int32)) L o = o := fun o => g _ 2 o (by decide)
  simp only [g1, g2]
  exact stepS (st_of hI _ _)
theorem kst_2 {xs : Nat → Int32} {L k : Nat} {u : Mem} (hk : k + 6 ≤ L) (hL : L ≤ 3072) (hI : Inv u) : ∃ u2, f_L_2 xs L (nI k) u = some u2 ∧ Inv u2 := by
  unfold f_L_2
  have g : ∀ (α : Type) (c : Nat) (o : Option α), c < 6 → gin (nI k + nI c) L o = o := fun α c o hc => gk hk hL hc
  have g1 : ∀ {α : Type} (o : Option α), gin (nI k + (1 : Int32)) L o = o := fun o => g _ 1 o (by decide)
  have g2 : ∀ {α : Type} (o : Option α), gin (nI k + (2 : Int32)) L o = o := fun o => g _ 2 o (by decide)
  simp only [g1, g2]
  exact stepS (st_seat hI _ _)
theorem kst_3 {xs : Nat → Int32} {L k : Nat} {u : Mem} (hk : k + 6 ≤ L) (hL : L ≤ 3072) (hI : Inv u) : ∃ u2, f_L_3 xs L (nI k) u = some u2 ∧ Inv u2 := by
  unfold f_L_3
  have g : ∀ (α : Type) (c : Nat) (o : Option α), c < 6 → gin (nI k + nI c) L o = o := fun α c o hc => gk hk hL hc
  have g1 : ∀ {α : Type} (o : Option α), gin (nI k + (1 : Int32)) L o = o := fun o => g _ 1 o (by decide)
  have g2 : ∀ {α : Type} (o : Option α), gin (nI k + (2 : Int32)) L o = o := fun o => g _ 2 o (by decide)
  simp only [g1, g2]
  exact stepS (st_know hI _ _)
theorem kst_4 {xs : Nat → Int32} {L k : Nat} {u : Mem} (hk : k + 6 ≤ L) (hL : L ≤ 3072) (hI : Inv u) : ∃ u2, f_L_4 xs L (nI k) u = some u2 ∧ Inv u2 := by
  unfold f_L_4
  have g : ∀ (α : Type) (c : Nat) (o : Option α), c < 6 → gin (nI k + nI c) L o = o := fun α c o hc => gk hk hL hc
  have g1 : ∀ {α : Type} (o : Option α), gin (nI k + (1 : Int32)) L o = o := fun o => g _ 1 o (by decide)
  have g2 : ∀ {α : Type} (o : Option α), gin (nI k + (2 : Int32)) L o = o := fun o => g _ 2 o (by decide)
  simp only [g1, g2]
  split
  · exact stepS (st_leave hI _ false)
  · exact stepS (st_leave hI _ true)
theorem kst_5 {xs : Nat → Int32} {L k : Nat} {u : Mem} (hk : k + 6 ≤ L) (hL : L ≤ 3072) (hI : Inv u) : ∃ u2, f_L_5 xs L (nI k) u = some u2 ∧ Inv u2 := by
  unfold f_L_5
  have g : ∀ (α : Type) (c : Nat) (o : Option α), c < 6 → gin (nI k + nI c) L o = o := fun α c o hc => gk hk hL hc
  have g1 : ∀ {α : Type} (o : Option α), gin (nI k + (1 : Int32)) L o = o := fun o => g _ 1 o (by decide)
  have g2 : ∀ {α : Type} (o : Option α), gin (nI k + (2 : Int32)) L o = o := fun o => g _ 2 o (by decide)
  have g3 : ∀ {α : Type} (o : Option α), gin (nI k + (3 : Int32)) L o = o := fun o => g _ 3 o (by decide)
  simp only [g1, g2, g3]
  exact stepS (st_set hI _ _ _)
theorem kst_6 {xs : Nat → Int32} {L k : Nat} {u : Mem} (hk : k + 6 ≤ L) (hL : L ≤ 3072) (hI : Inv u) : ∃ u2, f_L_6 xs L (nI k) u = some u2 ∧ Inv u2 := by
  unfold f_L_6
  have g : ∀ (α : Type) (c : Nat) (o : Option α), c < 6 → gin (nI k + nI c) L o = o := fun α c o hc => gk hk hL hc
  have g1 : ∀ {α : Type} (o : Option α), gin (nI k + (1 : Int32)) L o = o := fun o => g _ 1 o (by decide)
  have g2 : ∀ {α : Type} (o : Option α), gin (nI k + (2 : Int32)) L o = o := fun o => g _ 2 o (by decide)
  have g3 : ∀ {α : Type} (o : Option α), gin (nI k + (3 : Int32)) L o = o := fun o => g _ 3 o (by decide)
  simp only [g1, g2, g3]
  exact stepS (st_row hI _ _ _)
theorem kst_7 {xs : Nat → Int32} {L k : Nat} {u : Mem} (hk : k + 6 ≤ L) (hL : L ≤ 3072) (hI : Inv u) : ∃ u2, f_L_7 xs L (nI k) u = some u2 ∧ Inv u2 := by
  unfold f_L_7
  have g : ∀ (α : Type) (c : Nat) (o : Option α), c < 6 → gin (nI k + nI c) L o = o := fun α c o hc => gk hk hL hc
  have g1 : ∀ {α : Type} (o : Option α), gin (nI k + (1 : Int32)) L o = o := fun o => g _ 1 o (by decide)
  simp only [g1]
  exact stepS (st_feed hI _)
theorem kst_8 {xs : Nat → Int32} {L k : Nat} {u : Mem} (hk : k + 6 ≤ L) (hL : L ≤ 3072) (hI : Inv u) : ∃ u2, f_L_8 xs L (nI k) u = some u2 ∧ Inv u2 := by
  unfold f_L_8
  exact stepS (st_branch hI )
theorem kst_9 {xs : Nat → Int32} {L k : Nat} {u : Mem} (hk : k + 6 ≤ L) (hL : L ≤ 3072) (hI : Inv u) : ∃ u2, f_L_9 xs L (nI k) u = some u2 ∧ Inv u2 := by
  unfold f_L_9
  have g : ∀ (α : Type) (c : Nat) (o : Option α), c < 6 → gin (nI k + nI c) L o = o := fun α c o hc => gk hk hL hc
  have g1 : ∀ {α : Type} (o : Option α), gin (nI k + (1 : Int32)) L o = o := fun o => g _ 1 o (by decide)
  simp only [g1]
  exact stepS (st_told hI _)
theorem kst_10 {xs : Nat → Int32} {L k : Nat} {u : Mem} (hk : k + 6 ≤ L) (hL : L ≤ 3072) (hI : Inv u) : ∃ u2, f_L_10 xs L (nI k) u = some u2 ∧ Inv u2 := by
  unfold f_L_10
  have g : ∀ (α : Type) (c : Nat) (o : Option α), c < 6 → gin (nI k + nI c) L o = o := fun α c o hc => gk hk hL hc
  have g1 : ∀ {α : Type} (o : Option α), gin (nI k + (1 : Int32)) L o = o := fun o => g _ 1 o (by decide)
  simp only [g1]
  exact stepS (st_pass hI _)
theorem kst_11 {xs : Nat → Int32} {L k : Nat} {u : Mem} (hk : k + 6 ≤ L) (hL : L ≤ 3072) (hI : Inv u) : ∃ u2, f_L_11 xs L (nI k) u = some u2 ∧ Inv u2 := by
  unfold f_L_11
  have g : ∀ (α : Type) (c : Nat) (o : Option α), c < 6 → gin (nI k + nI c) L o = o := fun α c o hc => gk hk hL hc
  have g1 : ∀ {α : Type} (o : Option α), gin (nI k + (1 : Int32)) L o = o := fun o => g _ 1 o (by decide)
  have g2 : ∀ {α : Type} (o : Option α), gin (nI k + (2 : Int32)) L o = o := fun o => g _ 2 o (by decide)
  simp only [g1, g2]
  exact stepS (st_on hI _ _)
theorem kst_12 {xs : Nat → Int32} {L k : Nat} {u : Mem} (hk : k + 6 ≤ L) (hL : L ≤ 3072) (hI : Inv u) : ∃ u2, f_L_12 xs L (nI k) u = some u2 ∧ Inv u2 := by
  unfold f_L_12
  have g : ∀ (α : Type) (c : Nat) (o : Option α), c < 6 → gin (nI k + nI c) L o = o := fun α c o hc => gk hk hL hc
  have g1 : ∀ {α : Type} (o : Option α), gin (nI k + (1 : Int32)) L o = o := fun o => g _ 1 o (by decide)
  simp only [g1]
  exact stepS (st_gets hI _)
theorem kst_13 {xs : Nat → Int32} {L k : Nat} {u : Mem} (hk : k + 6 ≤ L) (hL : L ≤ 3072) (hI : Inv u) : ∃ u2, f_L_13 xs L (nI k) u = some u2 ∧ Inv u2 := by
  unfold f_L_13
  have g : ∀ (α : Type) (c : Nat) (o : Option α), c < 6 → gin (nI k + nI c) L o = o := fun α c o hc => gk hk hL hc
  have g1 : ∀ {α : Type} (o : Option α), gin (nI k + (1 : Int32)) L o = o := fun o => g _ 1 o (by decide)
  have g2 : ∀ {α : Type} (o : Option α), gin (nI k + (2 : Int32)) L o = o := fun o => g _ 2 o (by decide)
  simp only [g1, g2]
  exact stepS (st_hears hI _ _)
theorem kst_14 {xs : Nat → Int32} {L k : Nat} {u : Mem} (hk : k + 6 ≤ L) (hL : L ≤ 3072) (hI : Inv u) : ∃ u2, f_L_14 xs L (nI k) u = some u2 ∧ Inv u2 := by
  unfold f_L_14
  have g : ∀ (α : Type) (c : Nat) (o : Option α), c < 6 → gin (nI k + nI c) L o = o := fun α c o hc => gk hk hL hc
  have g1 : ∀ {α : Type} (o : Option α), gin (nI k + (1 : Int32)) L o = o := fun o => g _ 1 o (by decide)
  have g2 : ∀ {α : Type} (o : Option α), gin (nI k + (2 : Int32)) L o = o := fun o => g _ 2 o (by decide)
  simp only [g1, g2]
  exact stepS (st_best hI _ _)
theorem kst_15 {xs : Nat → Int32} {L k : Nat} {u : Mem} (hk : k + 6 ≤ L) (hL : L ≤ 3072) (hI : Inv u) : ∃ u2, f_L_15 xs L (nI k) u = some u2 ∧ Inv u2 := by
  unfold f_L_15
  have g : ∀ (α : Type) (c : Nat) (o : Option α), c < 6 → gin (nI k + nI c) L o = o := fun α c o hc => gk hk hL hc
  have g1 : ∀ {α : Type} (o : Option α), gin (nI k + (1 : Int32)) L o = o := fun o => g _ 1 o (by decide)
  simp only [g1]
  exact stepS (st_swap hI _)
theorem kst_16 {xs : Nat → Int32} {L k : Nat} {u : Mem} (hk : k + 6 ≤ L) (hL : L ≤ 3072) (hI : Inv u) : ∃ u2, f_L_16 xs L (nI k) u = some u2 ∧ Inv u2 := by
  unfold f_L_16
  have g : ∀ (α : Type) (c : Nat) (o : Option α), c < 6 → gin (nI k + nI c) L o = o := fun α c o hc => gk hk hL hc
  have g1 : ∀ {α : Type} (o : Option α), gin (nI k + (1 : Int32)) L o = o := fun o => g _ 1 o (by decide)
  have g2 : ∀ {α : Type} (o : Option α), gin (nI k + (2 : Int32)) L o = o := fun o => g _ 2 o (by decide)
  have g3 : ∀ {α : Type} (o : Option α), gin (nI k + (3 : Int32)) L o = o := fun o => g _ 3 o (by decide)
  simp only [g1, g2, g3]
  exact stepS (st_see hI _ _ _)
theorem kst_17 {xs : Nat → Int32} {L k : Nat} {u : Mem} (hk : k + 6 ≤ L) (hL : L ≤ 3072) (hI : Inv u) : ∃ u2, f_L_17 xs L (nI k) u = some u2 ∧ Inv u2 := by
  unfold f_L_17
  have g : ∀ (α : Type) (c : Nat) (o : Option α), c < 6 → gin (nI k + nI c) L o = o := fun α c o hc => gk hk hL hc
  have g1 : ∀ {α : Type} (o : Option α), gin (nI k + (1 : Int32)) L o = o := fun o => g _ 1 o (by decide)
  have g2 : ∀ {α : Type} (o : Option α), gin (nI k + (2 : Int32)) L o = o := fun o => g _ 2 o (by decide)
  have g3 : ∀ {α : Type} (o : Option α), gin (nI k + (3 : Int32)) L o = o := fun o => g _ 3 o (by decide)
  simp only [g1, g2, g3]
  exact stepS (st_can hI _ _ _)
theorem kst_18 {xs : Nat → Int32} {L k : Nat} {u : Mem} (hk : k + 6 ≤ L) (hL : L ≤ 3072) (hI : Inv u) : ∃ u2, f_L_18 xs L (nI k) u = some u2 ∧ Inv u2 := by
  unfold f_L_18
  have g : ∀ (α : Type) (c : Nat) (o : Option α), c < 6 → gin (nI k + nI c) L o = o := fun α c o hc => gk hk hL hc
  have g1 : ∀ {α : Type} (o : Option α), gin (nI k + (1 : Int32)) L o = o := fun o => g _ 1 o (by decide)
  have g2 : ∀ {α : Type} (o : Option α), gin (nI k + (2 : Int32)) L o = o := fun o => g _ 2 o (by decide)
  have g3 : ∀ {α : Type} (o : Option α), gin (nI k + (3 : Int32)) L o = o := fun o => g _ 3 o (by decide)
  simp only [g1, g2, g3]
  exact stepSL (st_odds hI _ _ _)
theorem kst_19 {xs : Nat → Int32} {L k : Nat} {u : Mem} (hk : k + 6 ≤ L) (hL : L ≤ 3072) (hI : Inv u) : ∃ u2, f_L_19 xs L (nI k) u = some u2 ∧ Inv u2 := by
  unfold f_L_19
  have g : ∀ (α : Type) (c : Nat) (o : Option α), c < 6 → gin (nI k + nI c) L o = o := fun α c o hc => gk hk hL hc
  have g1 : ∀ {α : Type} (o : Option α), gin (nI k + (1 : Int32)) L o = o := fun o => g _ 1 o (by decide)
  have g2 : ∀ {α : Type} (o : Option α), gin (nI k + (2 : Int32)) L o = o := fun o => g _ 2 o (by decide)
  simp only [g1, g2]
  exact stepSL (st_mean hI _ _)
theorem kst_20 {xs : Nat → Int32} {L k : Nat} {u : Mem} (hk : k + 6 ≤ L) (hL : L ≤ 3072) (hI : Inv u) : ∃ u2, f_L_20 xs L (nI k) u = some u2 ∧ Inv u2 := by
  unfold f_L_20
  have g : ∀ (α : Type) (c : Nat) (o : Option α), c < 6 → gin (nI k + nI c) L o = o := fun α c o hc => gk hk hL hc
  have g1 : ∀ {α : Type} (o : Option α), gin (nI k + (1 : Int32)) L o = o := fun o => g _ 1 o (by decide)
  have g2 : ∀ {α : Type} (o : Option α), gin (nI k + (2 : Int32)) L o = o := fun o => g _ 2 o (by decide)
  simp only [g1, g2]
  exact stepS (st_plan hI _ _)
theorem kst_21 {xs : Nat → Int32} {L k : Nat} {u : Mem} (hk : k + 6 ≤ L) (hL : L ≤ 3072) (hI : Inv u) : ∃ u2, f_L_21 xs L (nI k) u = some u2 ∧ Inv u2 := by
  unfold f_L_21
  have g : ∀ (α : Type) (c : Nat) (o : Option α), c < 6 → gin (nI k + nI c) L o = o := fun α c o hc => gk hk hL hc
  have g1 : ∀ {α : Type} (o : Option α), gin (nI k + (1 : Int32)) L o = o := fun o => g _ 1 o (by decide)
  simp only [g1]
  exact stepS (st_ends hI _)
theorem kst_22 {xs : Nat → Int32} {L k : Nat} {u : Mem} (hk : k + 6 ≤ L) (hL : L ≤ 3072) (hI : Inv u) : ∃ u2, f_L_22 xs L (nI k) u = some u2 ∧ Inv u2 := by
  unfold f_L_22
  have g : ∀ (α : Type) (c : Nat) (o : Option α), c < 6 → gin (nI k + nI c) L o = o := fun α c o hc => gk hk hL hc
  have g1 : ∀ {α : Type} (o : Option α), gin (nI k + (1 : Int32)) L o = o := fun o => g _ 1 o (by decide)
  have g2 : ∀ {α : Type} (o : Option α), gin (nI k + (2 : Int32)) L o = o := fun o => g _ 2 o (by decide)
  simp only [g1, g2]
  exact stepS (st_book hI _ _)
theorem kst_23 {xs : Nat → Int32} {L k : Nat} {u : Mem} (hk : k + 6 ≤ L) (hL : L ≤ 3072) (hI : Inv u) : ∃ u2, f_L_23 xs L (nI k) u = some u2 ∧ Inv u2 := by
  unfold f_L_23
  exact stepR hI (st_looked hI )
theorem kst_24 {xs : Nat → Int32} {L k : Nat} {u : Mem} (hk : k + 6 ≤ L) (hL : L ≤ 3072) (hI : Inv u) : ∃ u2, f_L_24 xs L (nI k) u = some u2 ∧ Inv u2 := by
  unfold f_L_24
  have g : ∀ (α : Type) (c : Nat) (o : Option α), c < 6 → gin (nI k + nI c) L o = o := fun α c o hc => gk hk hL hc
  have g1 : ∀ {α : Type} (o : Option α), gin (nI k + (1 : Int32)) L o = o := fun o => g _ 1 o (by decide)
  have g2 : ∀ {α : Type} (o : Option α), gin (nI k + (2 : Int32)) L o = o := fun o => g _ 2 o (by decide)
  simp only [g1, g2]
  exact stepR hI (st_judge hI _ _)
theorem kst_25 {xs : Nat → Int32} {L k : Nat} {u : Mem} (hk : k + 6 ≤ L) (hL : L ≤ 3072) (hI : Inv u) : ∃ u2, f_L_25 xs L (nI k) u = some u2 ∧ Inv u2 := by
  unfold f_L_25
  exact stepS (st_image hI )
theorem kst_26 {xs : Nat → Int32} {L k : Nat} {u : Mem} (hk : k + 6 ≤ L) (hL : L ≤ 3072) (hI : Inv u) : ∃ u2, f_L_26 xs L (nI k) u = some u2 ∧ Inv u2 := by
  unfold f_L_26
  exact stepS (st_undo hI )
theorem kst_27 {xs : Nat → Int32} {L k : Nat} {u : Mem} (hk : k + 6 ≤ L) (hL : L ≤ 3072) (hI : Inv u) : ∃ u2, f_L_27 xs L (nI k) u = some u2 ∧ Inv u2 := by
  unfold f_L_27
  have g : ∀ (α : Type) (c : Nat) (o : Option α), c < 6 → gin (nI k + nI c) L o = o := fun α c o hc => gk hk hL hc
  have g1 : ∀ {α : Type} (o : Option α), gin (nI k + (1 : Int32)) L o = o := fun o => g _ 1 o (by decide)
  have g2 : ∀ {α : Type} (o : Option α), gin (nI k + (2 : Int32)) L o = o := fun o => g _ 2 o (by decide)
  have g3 : ∀ {α : Type} (o : Option α), gin (nI k + (3 : Int32)) L o = o := fun o => g _ 3 o (by decide)
  simp only [g1, g2, g3]
  exact stepS (st_act hI _ _ _)
theorem kst_28 {xs : Nat → Int32} {L k : Nat} {u : Mem} (hk : k + 6 ≤ L) (hL : L ≤ 3072) (hI : Inv u) : ∃ u2, f_L_28 xs L (nI k) u = some u2 ∧ Inv u2 := by
  unfold f_L_28
  have g : ∀ (α : Type) (c : Nat) (o : Option α), c < 6 → gin (nI k + nI c) L o = o := fun α c o hc => gk hk hL hc
  have g1 : ∀ {α : Type} (o : Option α), gin (nI k + (1 : Int32)) L o = o := fun o => g _ 1 o (by decide)
  simp only [g1]
  exact stepR hI (st_trace hI _)
theorem kst_29 {xs : Nat → Int32} {L k : Nat} {u : Mem} (hk : k + 6 ≤ L) (hL : L ≤ 3072) (hI : Inv u) : ∃ u2, f_L_29 xs L (nI k) u = some u2 ∧ Inv u2 := by
  unfold f_L_29
  have g : ∀ (α : Type) (c : Nat) (o : Option α), c < 6 → gin (nI k + nI c) L o = o := fun α c o hc => gk hk hL hc
  have g1 : ∀ {α : Type} (o : Option α), gin (nI k + (1 : Int32)) L o = o := fun o => g _ 1 o (by decide)
  have g2 : ∀ {α : Type} (o : Option α), gin (nI k + (2 : Int32)) L o = o := fun o => g _ 2 o (by decide)
  simp only [g1, g2]
  exact stepR hI (st_taken hI _ _)
theorem kst_30 {xs : Nat → Int32} {L k : Nat} {u : Mem} (hk : k + 6 ≤ L) (hL : L ≤ 3072) (hI : Inv u) : ∃ u2, f_L_30 xs L (nI k) u = some u2 ∧ Inv u2 := by
  unfold f_L_30
  have g : ∀ (α : Type) (c : Nat) (o : Option α), c < 6 → gin (nI k + nI c) L o = o := fun α c o hc => gk hk hL hc
  have g1 : ∀ {α : Type} (o : Option α), gin (nI k + (1 : Int32)) L o = o := fun o => g _ 1 o (by decide)
  simp only [g1]
  exact stepR hI (st_count hI _)
theorem kst_31 {xs : Nat → Int32} {L k : Nat} {u : Mem} (hk : k + 6 ≤ L) (hL : L ≤ 3072) (hI : Inv u) : ∃ u2, f_L_31 xs L (nI k) u = some u2 ∧ Inv u2 := by
  unfold f_L_31
  have g : ∀ (α : Type) (c : Nat) (o : Option α), c < 6 → gin (nI k + nI c) L o = o := fun α c o hc => gk hk hL hc
  have g1 : ∀ {α : Type} (o : Option α), gin (nI k + (1 : Int32)) L o = o := fun o => g _ 1 o (by decide)
  have g2 : ∀ {α : Type} (o : Option α), gin (nI k + (2 : Int32)) L o = o := fun o => g _ 2 o (by decide)
  have g3 : ∀ {α : Type} (o : Option α), gin (nI k + (3 : Int32)) L o = o := fun o => g _ 3 o (by decide)
  simp only [g1, g2, g3]
  exact stepS (st_tape hI _ _ _)
theorem kst_32 {xs : Nat → Int32} {L k : Nat} {u : Mem} (hk : k + 6 ≤ L) (hL : L ≤ 3072) (hI : Inv u) : ∃ u2, f_L_32 xs L (nI k) u = some u2 ∧ Inv u2 := by
  unfold f_L_32
  have g : ∀ (α : Type) (c : Nat) (o : Option α), c < 6 → gin (nI k + nI c) L o = o := fun α c o hc => gk hk hL hc
  have g1 : ∀ {α : Type} (o : Option α), gin (nI k + (1 : Int32)) L o = o := fun o => g _ 1 o (by decide)
  have g2 : ∀ {α : Type} (o : Option α), gin (nI k + (2 : Int32)) L o = o := fun o => g _ 2 o (by decide)
  have g3 : ∀ {α : Type} (o : Option α), gin (nI k + (3 : Int32)) L o = o := fun o => g _ 3 o (by decide)
  have g4 : ∀ {α : Type} (o : Option α), gin (nI k + (4 : Int32)) L o = o := fun o => g _ 4 o (by decide)
  simp only [g1, g2, g3, g4]
  exact stepS (st_item hI _ _ _)
theorem kst_33 {xs : Nat → Int32} {L k : Nat} {u : Mem} (hk : k + 6 ≤ L) (hL : L ≤ 3072) (hI : Inv u) : ∃ u2, f_L_33 xs L (nI k) u = some u2 ∧ Inv u2 := by
  unfold f_L_33
  have g : ∀ (α : Type) (c : Nat) (o : Option α), c < 6 → gin (nI k + nI c) L o = o := fun α c o hc => gk hk hL hc
  have g1 : ∀ {α : Type} (o : Option α), gin (nI k + (1 : Int32)) L o = o := fun o => g _ 1 o (by decide)
  have g2 : ∀ {α : Type} (o : Option α), gin (nI k + (2 : Int32)) L o = o := fun o => g _ 2 o (by decide)
  simp only [g1, g2]
  exact stepl hI (st_read hI _ _)
theorem kst_34 {xs : Nat → Int32} {L k : Nat} {u : Mem} (hk : k + 6 ≤ L) (hL : L ≤ 3072) (hI : Inv u) : ∃ u2, f_L_34 xs L (nI k) u = some u2 ∧ Inv u2 := by
  unfold f_L_34
  have g : ∀ (α : Type) (c : Nat) (o : Option α), c < 6 → gin (nI k + nI c) L o = o := fun α c o hc => gk hk hL hc
  have g1 : ∀ {α : Type} (o : Option α), gin (nI k + (1 : Int32)) L o = o := fun o => g _ 1 o (by decide)
  have g2 : ∀ {α : Type} (o : Option α), gin (nI k + (2 : Int32)) L o = o := fun o => g _ 2 o (by decide)
  have g3 : ∀ {α : Type} (o : Option α), gin (nI k + (3 : Int32)) L o = o := fun o => g _ 3 o (by decide)
  have g4 : ∀ {α : Type} (o : Option α), gin (nI k + (4 : Int32)) L o = o := fun o => g _ 4 o (by decide)
  have g5 : ∀ {α : Type} (o : Option α), gin (nI k + (5 : Int32)) L o = o := fun o => g _ 5 o (by decide)
  simp only [g1, g2, g3, g4, g5]
  exact stepS (st_shift hI _ _ _ _ _)
theorem kst_step {xs : Nat → Int32} {L k : Nat} {u : Mem} (hk : k + 6 ≤ L) (hL : L ≤ 3072) (hI : Inv u) : ∃ u2, f_L_step xs L (nI k) u = some u2 ∧ Inv u2 := by
  unfold f_L_step
  rw [gin_nI (by omega) (by omega)]
  generalize xs (nI k).toNatClampNeg &&& (63 : Int32) = z
  by_cases h0 : z = 0
  · rw [if_pos h0]
    exact kst_0 hk hL hI
  rw [if_neg h0]
  by_cases h1 : z = 1
  · rw [if_pos h1]
    exact kst_1 hk hL hI
  rw [if_neg h1]
  by_cases h2 : z = 2
  · rw [if_pos h2]
    exact kst_2 hk hL hI
  rw [if_neg h2]
  by_cases h3 : z = 3
  · rw [if_pos h3]
    exact kst_3 hk hL hI
  rw [if_neg h3]
  by_cases h4 : z = 4
  · rw [if_pos h4]
    exact kst_4 hk hL hI
  rw [if_neg h4]
  by_cases h5 : z = 5
  · rw [if_pos h5]
    exact kst_5 hk hL hI
  rw [if_neg h5]
  by_cases h6 : z = 6
  · rw [if_pos h6]
    exact kst_6 hk hL hI
  rw [if_neg h6]
  by_cases h7 : z = 7
  · rw [if_pos h7]
    exact kst_7 hk hL hI
  rw [if_neg h7]
  by_cases h8 : z = 8
  · rw [if_pos h8]
    exact kst_8 hk hL hI
  rw [if_neg h8]
  by_cases h9 : z = 9
  · rw [if_pos h9]
    exact kst_9 hk hL hI
  rw [if_neg h9]
  by_cases h10 : z = 10
  · rw [if_pos h10]
    exact kst_10 hk hL hI
  rw [if_neg h10]
  by_cases h11 : z = 11
  · rw [if_pos h11]
    exact kst_11 hk hL hI
  rw [if_neg h11]
  by_cases h12 : z = 12
  · rw [if_pos h12]
    exact kst_12 hk hL hI
  rw [if_neg h12]
  by_cases h13 : z = 13
  · rw [if_pos h13]
    exact kst_13 hk hL hI
  rw [if_neg h13]
  by_cases h14 : z = 14
  · rw [if_pos h14]
    exact kst_14 hk hL hI
  rw [if_neg h14]
  by_cases h15 : z = 15
  · rw [if_pos h15]
    exact kst_15 hk hL hI
  rw [if_neg h15]
  by_cases h16 : z = 16
  · rw [if_pos h16]
    exact kst_16 hk hL hI
  rw [if_neg h16]
  by_cases h17 : z = 17
  · rw [if_pos h17]
    exact kst_17 hk hL hI
  rw [if_neg h17]
  by_cases h18 : z = 18
  · rw [if_pos h18]
    exact kst_18 hk hL hI
  rw [if_neg h18]
  by_cases h19 : z = 19
  · rw [if_pos h19]
    exact kst_19 hk hL hI
  rw [if_neg h19]
  by_cases h20 : z = 20
  · rw [if_pos h20]
    exact kst_20 hk hL hI
  rw [if_neg h20]
  by_cases h21 : z = 21
  · rw [if_pos h21]
    exact kst_21 hk hL hI
  rw [if_neg h21]
  by_cases h22 : z = 22
  · rw [if_pos h22]
    exact kst_22 hk hL hI
  rw [if_neg h22]
  by_cases h23 : z = 23
  · rw [if_pos h23]
    exact kst_23 hk hL hI
  rw [if_neg h23]
  by_cases h24 : z = 24
  · rw [if_pos h24]
    exact kst_24 hk hL hI
  rw [if_neg h24]
  by_cases h25 : z = 25
  · rw [if_pos h25]
    exact kst_25 hk hL hI
  rw [if_neg h25]
  by_cases h26 : z = 26
  · rw [if_pos h26]
    exact kst_26 hk hL hI
  rw [if_neg h26]
  by_cases h27 : z = 27
  · rw [if_pos h27]
    exact kst_27 hk hL hI
  rw [if_neg h27]
  by_cases h28 : z = 28
  · rw [if_pos h28]
    exact kst_28 hk hL hI
  rw [if_neg h28]
  by_cases h29 : z = 29
  · rw [if_pos h29]
    exact kst_29 hk hL hI
  rw [if_neg h29]
  by_cases h30 : z = 30
  · rw [if_pos h30]
    exact kst_30 hk hL hI
  rw [if_neg h30]
  by_cases h31 : z = 31
  · rw [if_pos h31]
    exact kst_31 hk hL hI
  rw [if_neg h31]
  by_cases h32 : z = 32
  · rw [if_pos h32]
    exact kst_32 hk hL hI
  rw [if_neg h32]
  by_cases h33 : z = 33
  · rw [if_pos h33]
    exact kst_33 hk hL hI
  rw [if_neg h33]
  by_cases h34 : z = 34
  · rw [if_pos h34]
    exact kst_34 hk hL hI
  rw [if_neg h34]
  exact ⟨u, rfl, hI⟩
