/-! undo -/
def FU (k : Nat) : Prop := ¬ k ≤ 4 ∧ k ≠ 13 ∧ k ≠ 37 ∧ k ≠ 41 ∧ k ≠ 42
theorem undoM {u : Mem} (h0 : ¬ gI u 82 47 = 0) : ∃ v, f_X8_undo u = some (gI u 82 49, v) ∧ Agr (fun x => ¬ (83 ≤ x ∧ x ≤ 89) ∧ ¬ (103 ≤ x ∧ x ≤ 109) ∧ x ≠ 82) FU u v ∧ gR v = gR u ∧
    (gI v 82 13 = gI u 82 48 ∧ gI v 82 0 = gI u 82 49 ∧ gI v 82 1 = gI u 82 50 ∧ gI v 82 2 = gI u 82 51 ∧ gI v 82 3 = gI u 82 52 ∧ gI v 82 4 = gI u 82 53 ∧ gI v 82 37 = gI u 82 54 ∧ gI v 82 41 = gI u 82 55 ∧ gI v 82 42 = gI u 82 56) ∧
    (∀ i, i < 6 → gA v 83 i = gA u 110 i ∧ gA v 84 i = gA u 111 i ∧ gA v 85 i = gA u 112 i ∧ gA v 86 i = gA u 113 i) ∧ (∀ i, i < 24 → gA v 87 i = gA u 114 i) ∧ (∀ i, i < 5 → gA v 103 i = gA u 117 i ∧ gA v 104 i = gA u 118 i ∧ gA v 105 i = gA u 119 i) ∧ (∀ i, i < 10 → gA v 106 i = gA u 120 i ∧ gA v 107 i = gA u 121 i) ∧ (∀ i, i < 8 → gA v 89 i = gA u 115 i ∧ gA v 88 i = gA u 116 i ∧ gA v 108 i = gA u 122 i ∧ gA v 109 i = gA u 123 i) := by
  unfold f_X8_undo
  rw [if_neg h0]
  simp (disch := decide) only [gI_sI_k]
  obtain ⟨y, hy⟩ : ∃ y, y = sI (sI (sI (sI (sI (sI (sI (sI (sI u 82 13 (gI u 82 48)) 82 0 (gI u 82 49)) 82 1 (gI u 82 50)) 82 2 (gI u 82 51)) 82 3 (gI u 82 52)) 82 4 (gI u 82 53)) 82 37 (gI u 82 54)) 82 41 (gI u 82 55)) 82 42 (gI u 82 56) := ⟨_, rfl⟩
  rw [← hy]
  have hyI : gI y 82 13 = gI u 82 48 ∧ gI y 82 0 = gI u 82 49 ∧ gI y 82 1 = gI u 82 50 ∧ gI y 82 2 = gI u 82 51 ∧ gI y 82 3 = gI u 82 52 ∧ gI y 82 4 = gI u 82 53 ∧ gI y 82 37 = gI u 82 54 ∧ gI y 82 41 = gI u 82 55 ∧ gI y 82 42 = gI u 82 56 := by
    rw [hy]
    simp (disch := decide) only [gI_sI_k, gI_sI_s]
    exact ⟨trivial, trivial, trivial, trivial, trivial, trivial, trivial, trivial, trivial⟩
  have hyg : Agr (fun x => x ≠ 82) FU u y := by
    rw [hy]
    refine (((((((((Agr.rf _ _ _).si ?_ ?_).si ?_ ?_).si ?_ ?_).si ?_ ?_).si ?_ ?_).si ?_ ?_).si ?_ ?_).si ?_ ?_).si ?_ ?_ <;> first | (exact fun q => q rfl) | (right; unfold FU; omega)
  have hyA : gA y = gA u := by rw [hy]; rfl
  have hyR : gR y = gR u := by rw [hy]; rfl
  clear hy
  obtain ⟨v1, e1⟩ : ∃ v, v = cpN [(83, 110), (84, 111), (85, 112), (86, 113)] 6 y := ⟨_, rfl⟩
  obtain ⟨v2, e2⟩ : ∃ v, v = cpN [(87, 114)] 24 v1 := ⟨_, rfl⟩
  obtain ⟨v3, e3⟩ : ∃ v, v = cpN [(103, 117), (104, 118), (105, 119)] 5 v2 := ⟨_, rfl⟩
  obtain ⟨v4, e4⟩ : ∃ v, v = cpN [(106, 120), (107, 121)] 10 v3 := ⟨_, rfl⟩
  obtain ⟨v5, e5⟩ : ∃ v, v = cpN [(89, 115), (88, 116), (108, 122), (109, 123)] 8 v4 := ⟨_, rfl⟩
  have d1 : CPd y v1 _ _ := e1 ▸ cpN_d (ps := [(83, 110), (84, 111), (85, 112), (86, 113)]) (by unfold gdP; decide) y 6
  have d2 : CPd v1 v2 _ _ := e2 ▸ cpN_d (ps := [(87, 114)]) (by unfold gdP; decide) v1 24
  have d3 : CPd v2 v3 _ _ := e3 ▸ cpN_d (ps := [(103, 117), (104, 118), (105, 119)]) (by unfold gdP; decide) v2 5
  have d4 : CPd v3 v4 _ _ := e4 ▸ cpN_d (ps := [(106, 120), (107, 121)]) (by unfold gdP; decide) v3 10
  have d5 : CPd v4 v5 _ _ := e5 ▸ cpN_d (ps := [(89, 115), (88, 116), (108, 122), (109, 123)]) (by unfold gdP; decide) v4 8
  have hI : gI v5 = gI y := by rw [d5.1.1, d4.1.1, d3.1.1, d2.1.1, d1.1.1]
  have r5 : whileO (fun s => f_X8_undo_L259 s.1 s.2) FUEL ((0 : Int32), v4) = some (Sum.inr (Sum.inr (Sum.inr (Sum.inr (gI u 82 49, v5))))) := by
    refine cp_run (ps := [(89, 115), (88, 116), (108, 122), (109, 123)]) (N := 8) (body := f_X8_undo_L259) (fun i v hi => ?_) (by decide) v4 ?_
    · unfold f_X8_undo_L259
      rw [if_neg (by (simp (disch := omega) only [le_I, lt_I, eq_I, nI_toInt, Int32.reduceToInt, ne_eq] <;> omega))]
      simp only [gin_nI hi (show 8 ≤ 2147483648 by decide), nI_clamp (show i < 2 ^ 31 by omega), nI_1]
      rfl
    · rw [← e5]
      unfold f_X8_undo_L259
      rw [if_pos (by decide), hI, hyI.2.1]
  have r4 : whileO (fun s => f_X8_undo_L221 s.1 s.2) FUEL ((0 : Int32), v3) = some (Sum.inr (Sum.inr (Sum.inr (gI u 82 49, v5)))) := by
    refine cp_run (ps := [(106, 120), (107, 121)]) (N := 10) (body := f_X8_undo_L221) (fun i v hi => ?_) (by decide) v3 ?_
    · unfold f_X8_undo_L221
      rw [if_neg (by (simp (disch := omega) only [le_I, lt_I, eq_I, nI_toInt, Int32.reduceToInt, ne_eq] <;> omega))]
      simp only [gin_nI hi (show 10 ≤ 2147483648 by decide), nI_clamp (show i < 2 ^ 31 by omega), nI_1]
      rfl
    · rw [← e4]
      unfold f_X8_undo_L221
      rw [if_pos (by decide)]
      exact r5
  have r3 : whileO (fun s => f_X8_undo_L172 s.1 s.2) FUEL ((0 : Int32), v2) = some (Sum.inr (Sum.inr (gI u 82 49, v5))) := by
    refine cp_run (ps := [(103, 117), (104, 118), (105, 119)]) (N := 5) (body := f_X8_undo_L172) (fun i v hi => ?_) (by decide) v2 ?_
    · unfold f_X8_undo_L172
      rw [if_neg (by (simp (disch := omega) only [le_I, lt_I, eq_I, nI_toInt, Int32.reduceToInt, ne_eq] <;> omega))]
      simp only [gin_nI hi (show 5 ≤ 2147483648 by decide), nI_clamp (show i < 2 ^ 31 by omega), nI_1]
      rfl
    · rw [← e3]
      unfold f_X8_undo_L172
      rw [if_pos (by decide)]
      exact r4
  have r2 : whileO (fun s => f_X8_undo_L146 s.1 s.2) FUEL ((0 : Int32), v1) = some (Sum.inr (gI u 82 49, v5)) := by
    refine cp_run (ps := [(87, 114)]) (N := 24) (body := f_X8_undo_L146) (fun i v hi => ?_) (by decide) v1 ?_
    · unfold f_X8_undo_L146
      rw [if_neg (by (simp (disch := omega) only [le_I, lt_I, eq_I, nI_toInt, Int32.reduceToInt, ne_eq] <;> omega))]
      simp only [gin_nI hi (show 24 ≤ 2147483648 by decide), nI_clamp (show i < 2 ^ 31 by omega), nI_1]
      rfl
    · rw [← e2]
      unfold f_X8_undo_L146
      rw [if_pos (by decide)]
      exact r3
  have r1 : whileO (fun s => f_X8_undo_L84 s.1 s.2) FUEL ((0 : Int32), y) = some ((gI u 82 49, v5)) := by
    refine cp_run (ps := [(83, 110), (84, 111), (85, 112), (86, 113)]) (N := 6) (body := f_X8_undo_L84) (fun i v hi => ?_) (by decide) y ?_
    · unfold f_X8_undo_L84
      rw [if_neg (by (simp (disch := omega) only [le_I, lt_I, eq_I, nI_toInt, Int32.reduceToInt, ne_eq] <;> omega))]
      simp only [gin_nI hi (show 6 ≤ 2147483648 by decide), nI_clamp (show i < 2 ^ 31 by omega), nI_1]
      rfl
    · rw [← e1]
      unfold f_X8_undo_L84
      rw [if_pos (by decide)]
      exact r2
  have hag : Agr (fun x => ¬ (83 ≤ x ∧ x ≤ 89) ∧ ¬ (103 ≤ x ∧ x ≤ 109) ∧ x ≠ 82) FU u v5 := by
    refine (hyg.mono (fun x hx => hx.2.2) (fun _ h => h)).trans ((((((d1.agr.mono ?_ ?_).trans (d2.agr.mono ?_ ?_)).trans (d3.agr.mono ?_ ?_)).trans (d4.agr.mono ?_ ?_)).trans (d5.agr.mono ?_ ?_))) <;> first | (intro x hx p hp; simp only [List.mem_cons, List.not_mem_nil, or_false] at hp; rcases hp with rfl | rfl | rfl | rfl <;> (show x ≠ _; omega)) | (intro x hx p hp; simp only [List.mem_cons, List.not_mem_nil, or_false] at hp; rcases hp with rfl | rfl | rfl <;> (show x ≠ _; omega)) | (intro x hx p hp; simp only [List.mem_cons, List.not_mem_nil, or_false] at hp; rcases hp with rfl | rfl <;> (show x ≠ _; omega)) | (intro x hx p hp; simp only [List.mem_cons, List.not_mem_nil, or_false] at hp; subst hp; show x ≠ _; omega) | (exact fun _ _ => trivial)
  refine ⟨v5, r1, hag, by rw [d5.1.2.1, d4.1.2.1, d3.1.2.1, d2.1.2.1, d1.1.2.1, hyR], by rw [hI]; exact hyI, fun i hi => ⟨?_, ?_, ?_, ?_⟩, fun i hi => ?_, fun i hi => ⟨?_, ?_, ?_⟩, fun i hi => ⟨?_, ?_⟩, fun i hi => ⟨?_, ?_, ?_, ?_⟩⟩
  · rw [d5.2.1 83 (by decide), d4.2.1 83 (by decide), d3.2.1 83 (by decide), d2.2.1 83 (by decide), d1.2.2 (83, 110) (by decide) i hi, hyA]
  · rw [d5.2.1 84 (by decide), d4.2.1 84 (by decide), d3.2.1 84 (by decide), d2.2.1 84 (by decide), d1.2.2 (84, 111) (by decide) i hi, hyA]
  · rw [d5.2.1 85 (by decide), d4.2.1 85 (by decide), d3.2.1 85 (by decide), d2.2.1 85 (by decide), d1.2.2 (85, 112) (by decide) i hi, hyA]
  · rw [d5.2.1 86 (by decide), d4.2.1 86 (by decide), d3.2.1 86 (by decide), d2.2.1 86 (by decide), d1.2.2 (86, 113) (by decide) i hi, hyA]
  · rw [d5.2.1 87 (by decide), d4.2.1 87 (by decide), d3.2.1 87 (by decide), d2.2.2 (87, 114) (by decide) i hi, d1.2.1 114 (by decide), hyA]
  · rw [d5.2.1 103 (by decide), d4.2.1 103 (by decide), d3.2.2 (103, 117) (by decide) i hi, d2.2.1 117 (by decide), d1.2.1 117 (by decide), hyA]
  · rw [d5.2.1 104 (by decide), d4.2.1 104 (by decide), d3.2.2 (104, 118) (by decide) i hi, d2.2.1 118 (by decide), d1.2.1 118 (by decide), hyA]
  · rw [d5.2.1 105 (by decide), d4.2.1 105 (by decide), d3.2.2 (105, 119) (by decide) i hi, d2.2.1 119 (by decide), d1.2.1 119 (by decide), hyA]
  · rw [d5.2.1 106 (by decide), d4.2.2 (106, 120) (by decide) i hi, d3.2.1 120 (by decide), d2.2.1 120 (by decide), d1.2.1 120 (by decide), hyA]
  · rw [d5.2.1 107 (by decide), d4.2.2 (107, 121) (by decide) i hi, d3.2.1 121 (by decide), d2.2.1 121 (by decide), d1.2.1 121 (by decide), hyA]
  · rw [d5.2.2 (89, 115) (by decide) i hi, d4.2.1 115 (by decide), d3.2.1 115 (by decide), d2.2.1 115 (by decide), d1.2.1 115 (by decide), hyA]
  · rw [d5.2.2 (88, 116) (by decide) i hi, d4.2.1 116 (by decide), d3.2.1 116 (by decide), d2.2.1 116 (by decide), d1.2.1 116 (by decide), hyA]
  · rw [d5.2.2 (108, 122) (by decide) i hi, d4.2.1 122 (by decide), d3.2.1 122 (by decide), d2.2.1 122 (by decide), d1.2.1 122 (by decide), hyA]
  · rw [d5.2.2 (109, 123) (by decide) i hi, d4.2.1 123 (by decide), d3.2.1 123 (by decide), d2.2.1 123 (by decide), d1.2.1 123 (by decide), hyA]
def SU (x : Nat) : Prop := x ≠ 1 ∧ ¬ (2 ≤ x ∧ x ≤ 9) ∧ ¬ (38 ≤ x ∧ x ≤ 49) ∧ ¬ (83 ≤ x ∧ x ≤ 89) ∧ ¬ (103 ≤ x ∧ x ≤ 109) ∧ x ≠ 82
theorem st_undo {u : Mem} (hI : Inv u) : okS u (f_X7_undo u) f_X8_undo := by
  have hI0 := hI
  obtain ⟨K0, w0, B, pgs, hA⟩ := hI
  obtain ⟨h1, h2, h3, h4, h5, h6, h7, h8⟩ := hA
  unfold f_X7_undo
  have h8' := h8
  rcases h8 with ⟨i1, i2⟩ | ⟨i1, i2, K, w, g1, g2, g3, g4, g5, g6, n1, n2, n3⟩
  · rw [i1, if_pos rfl]
    refine ⟨_, _, _, rfl, ?_, hI0⟩
    unfold f_X8_undo
    rw [if_pos i2]
  · rw [i1, if_neg (by decide)]
    obtain ⟨p1, p2, p3⟩ := g6.pc h2
    have hT : CT u 25 K w := ⟨⟨g1.1, g1.2.1, g1.2.2.1, g1.2.2.2, p1, p2, p3⟩, g2⟩
    obtain ⟨v1, a1, a2, a3, a4⟩ := becomeT (t := 1) (p := 25) (Or.inl rfl) (Or.inr (Or.inr rfl)) (by decide) (fun i hi => ⟨_, ((g3.2.2.1 i hi).2.2.2).symm⟩) hT
    obtain ⟨v2, b1, b2, b3, b4, b5, b6⟩ := notesT (v := v1) (t := 37) (p := 50) (Or.inr ⟨rfl, rfl⟩)
    have h12 : Agr (fun x => x ≠ 1 ∧ ¬ (2 ≤ x ∧ x ≤ 9) ∧ ¬ (38 ≤ x ∧ x ≤ 49)) TT u v2 := (a3.mono (fun x hx => by unfold Sb; omega) (fun _ h => h)).trans (b5.mono (fun x hx => by omega) (fun _ h => h))
    have hy : ∀ k, gI v2 82 k = gI u 82 k := fun k => h12.2.2 k trivial
    obtain ⟨v, c1, c2, c3, c4, c5, c6, c7, c8, c9⟩ := undoM (u := v2) (by rw [hy, i2]; decide)
    have hx : ∀ a, 50 ≤ a → gA v2 a = gA u a := fun a ha => h12.A (by omega)
    have hall : Agr SU FU u v := (h12.mono (fun x hx => by unfold SU at hx; omega) (fun _ _ => trivial)).trans (c2.mono (fun x hx => by unfold SU at hx; omega) (fun _ h => h))
    have hv1 : ∀ a, 1 ≤ a → a ≤ 9 → gA v a = gA v1 a := fun a h1 h2 => by
      rw [c2.A (by omega), b5.A (by omega)]
    have hi1 : ∀ k, gI v 1 k = gI v1 1 k := fun k => by
      rw [c2.I (by omega), b5.I (by omega)]
    have hn5 : ∀ a, 38 ≤ a → a ≤ 49 → gA v a = gA v2 a := fun a h1 h2 => c2.A (by omega)
    have hn5I : ∀ a k, 38 ≤ a → a ≤ 49 → gI v a k = gI v2 a k := fun a k h1 h2 => c2.I (by omega) k
    have hu1 : ∀ a, 51 ≤ a → a ≤ 62 → gA v1 a = gA u a := fun a h1 h2 => a3.A (by unfold Sb; omega)
    have hu1I : ∀ a k, 38 ≤ a → a ≤ 62 → gI v1 a k = gI u a k := fun a k h1 h2 => a3.I (by unfold Sb; omega) k
    have hR : gR v 1 13 = gR u 25 13 := by
      rw [c3, b6, a4]
    obtain ⟨d13, d0, d1, d2, d3, d4, d37, d41, d42⟩ := c4
    obtain ⟨f1, f2, f3, -⟩ := h5
    have hNOW : NOW v K w := by
      refine ⟨⟨⟨a2.1.1.1, ?_⟩, fun i hi => ?_, fun i hi => ⟨?_, ?_, ?_, ?_⟩, fun i hi => ?_⟩, ⟨?_, ?_, ?_, fun i hi => ?_, fun i hi => ?_⟩, ⟨?_, fun i hi => ?_, fun i hi => ⟨?_, ?_, ?_, ?_⟩, fun i hi => ?_⟩, ⟨?_, ?_, ?_, fun i hi => ?_, fun i hi => ?_⟩, g5⟩
      · rw [hi1]; exact a2.1.1.2
      · rw [hv1 (1 + 1) (by omega) (by omega)]; exact a2.1.2.1 i hi
      · rw [hv1 (1 + 3) (by omega) (by omega)]; exact (a2.1.2.2.1 i hi).1
      · rw [hv1 (1 + 4) (by omega) (by omega)]; exact (a2.1.2.2.1 i hi).2.1
      · rw [hv1 (1 + 5) (by omega) (by omega)]; exact (a2.1.2.2.1 i hi).2.2.1
      · rw [hv1 (1 + 7) (by omega) (by omega)]; exact (a2.1.2.2.1 i hi).2.2.2
      · rw [hv1 (1 + 8) (by omega) (by omega)]; exact a2.1.2.2.2.1 i hi
      · rw [hi1]; exact a2.2.1
      · rw [hi1]; exact a2.2.2.1
      · rw [hi1]; exact a2.2.2.2.1
      · rw [hv1 (1 + 2) (by omega) (by omega)]; exact a2.2.2.2.2.1 i hi
      · rw [hv1 (1 + 6) (by omega) (by omega)]; exact a2.2.2.2.2.2 i hi
      · rw [d0, hy]; exact g3.1
      · rw [(c9 i hi).1, hx 115 (by decide)]; exact g3.2.1 i hi
      · rw [(c5 i hi).1, hx 110 (by decide)]; exact (g3.2.2.1 i hi).1
      · rw [(c5 i hi).2.1, hx 111 (by decide)]; exact (g3.2.2.1 i hi).2.1
      · rw [(c5 i hi).2.2.1, hx 112 (by decide)]; exact (g3.2.2.1 i hi).2.2.1
      · rw [d1, hy]; exact (g3.2.2.1 i hi).2.2.2
      · rw [c6 i hi, hx 114 (by decide)]; exact g3.2.2.2 i hi
      · rw [d2, hy]; exact g4.1
      · rw [d3, hy]; exact g4.2.1
      · rw [d4, hy]; exact g4.2.2.1
      · rw [(c9 i hi).2.1, hx 116 (by decide)]; exact g4.2.2.2.1 i hi
      · rw [(c5 i hi).2.2.2, hx 113 (by decide)]; exact g4.2.2.2.2 i hi
    have hNTS : NTS v (cN K) := by
      refine ⟨?_, ?_, ?_, ?_, ?_, ?_⟩
      · rw [hn5I 38 3 (by decide) (by decide)]; exact (b3.1).trans ((hu1I 38 3 (by decide) (by decide)).trans f1)
      · rw [hn5I 42 3 (by decide) (by decide)]; exact (b3.2.1).trans ((hu1I 42 3 (by decide) (by decide)).trans f2)
      · rw [hn5I 46 3 (by decide) (by decide)]; exact (b3.2.2).trans ((hu1I 46 3 (by decide) (by decide)).trans f3)
      · refine n1.cong ?_ ?_ (fun i hi => ⟨?_, ?_, ?_⟩) (fun i hi => ⟨?_, ?_, ?_⟩)
        · rw [hn5I 38 4 (by decide) (by decide)]; exact b2.1.trans (hu1I 51 4 (by decide) (by decide))
        · rw [d37, hy]
        · rw [hn5 39 (by decide) (by decide)]; exact (b4 i (by omega) 1 (by decide) (by decide) (by decide) (by decide)).trans (congrFun (hu1 52 (by decide) (by decide)) i)
        · rw [hn5 40 (by decide) (by decide)]; exact (b4 i (by omega) 2 (by decide) (by decide) (by decide) (by decide)).trans (congrFun (hu1 53 (by decide) (by decide)) i)
        · rw [hn5 41 (by decide) (by decide)]; exact (b4 i (by omega) 3 (by decide) (by decide) (by decide) (by decide)).trans (congrFun (hu1 54 (by decide) (by decide)) i)
        · rw [(c7 i hi).1, hx 117 (by decide)]
        · rw [(c7 i hi).2.1, hx 118 (by decide)]
        · rw [(c7 i hi).2.2, hx 119 (by decide)]
      · refine n2.cong ?_ ?_ (fun i hi => ⟨?_, ?_, ?_⟩) (fun i hi => ⟨?_, ?_⟩)
        · rw [hn5I 42 4 (by decide) (by decide)]; exact b2.2.1.trans (hu1I 55 4 (by decide) (by decide))
        · rw [d41, hy]
        · rw [hn5 43 (by decide) (by decide)]; exact (b4 i (by omega) 5 (by decide) (by decide) (by decide) (by decide)).trans (congrFun (hu1 56 (by decide) (by decide)) i)
        · rw [hn5 44 (by decide) (by decide)]; exact (b4 i (by omega) 6 (by decide) (by decide) (by decide) (by decide)).trans (congrFun (hu1 57 (by decide) (by decide)) i)
        · rw [hn5 45 (by decide) (by decide)]; exact (b4 i (by omega) 7 (by decide) (by decide) (by decide) (by decide)).trans (congrFun (hu1 58 (by decide) (by decide)) i)
        · rw [(c8 i hi).1, hx 120 (by decide)]
        · rw [(c8 i hi).2, hx 121 (by decide)]
      · refine n3.cong ?_ ?_ (fun i hi => ⟨?_, ?_⟩) (fun i hi => ⟨?_, ?_⟩)
        · rw [hn5I 46 4 (by decide) (by decide)]; exact b2.2.2.trans (hu1I 59 4 (by decide) (by decide))
        · rw [d42, hy]
        · rw [hn5 47 (by decide) (by decide)]; exact (b4 i (by omega) 9 (by decide) (by decide) (by decide) (by decide)).trans (congrFun (hu1 60 (by decide) (by decide)) i)
        · rw [hn5 48 (by decide) (by decide)]; exact (b4 i (by omega) 10 (by decide) (by decide) (by decide) (by decide)).trans (congrFun (hu1 61 (by decide) (by decide)) i)
        · rw [(c9 i hi).2.2.1, hx 122 (by decide)]
        · rw [(c9 i hi).2.2.2, hx 123 (by decide)]
    refine ⟨nI (cN K), v2, v, ?_, ?_, K, w, B, pgs, hNOW, ?_, ?_, ?_, hNTS, ?_, ?_, ?_⟩
    · rw [obind_of a1, obind_of b1, b5.I (by omega), a2.1.1.2]
    · rw [c1, hy]
      congr 2
      exact g3.1
    · exact h2.agr hall (hall.I (by unfold SU; omega) 7) (fun x _ => by unfold SU; omega) (by unfold FU; omega) (hall.R (by unfold SU; omega) 3)
    · rw [d13, hy, hR]; exact g6
    · exact h4.agr hall (by unfold SU; omega) (by unfold FU; omega)
    · exact h6.agr hall (by unfold SU; omega) (by unfold FU; omega)
    · exact h7.agr hall (fun x _ => by unfold SU; omega)
    · exact h8'.agr hall (hall.I (by unfold SU; omega) 5) (fun x _ => by unfold SU; omega) (fun k _ => by unfold FU; omega)
