/-! image, undo: loops that copy arrays -/
def cpL (ps : List (Nat × Nat)) (i : Nat) (v : Mem) : Mem := ps.foldl (fun v p => sA v p.1 i (gA v p.2 i)) v
def cpN (ps : List (Nat × Nat)) (N : Nat) (y : Mem) : Mem := itN (fun i v => cpL ps i v) N y
def gdP (ps : List (Nat × Nat)) : Prop := List.Pairwise (fun p q => p.1 ≠ q.1) ps ∧ ∀ p ∈ ps, ∀ q ∈ ps, p.2 ≠ q.1
theorem cpL_n {i a : Nat} : ∀ {ps : List (Nat × Nat)} {v : Mem}, (∀ p ∈ ps, a ≠ p.1) → gA (cpL ps i v) a = gA v a
  | [], _, _ => rfl
  | p :: ps, v, h => by
    show gA (cpL ps i (sA v p.1 i (gA v p.2 i))) a = _
    rw [cpL_n (fun q hq => h q (List.mem_cons_of_mem _ hq)), gA_sA_n (h p List.mem_cons_self)]
theorem cpL_e {i : Nat} : ∀ {ps : List (Nat × Nat)} {v : Mem}, gI (cpL ps i v) = gI v ∧ gR (cpL ps i v) = gR v ∧ gL (cpL ps i v) = gL v ∧ (cpL ps i v).1 = v.1
  | [], _ => ⟨rfl, rfl, rfl, rfl⟩
  | p :: ps, v => by
    have h := cpL_e (i := i) (ps := ps) (v := sA v p.1 i (gA v p.2 i))
    exact h
theorem cpL_s {i : Nat} : ∀ {ps : List (Nat × Nat)} {v : Mem}, gdP ps → ∀ p ∈ ps, ∀ j, gA (cpL ps i v) p.1 j = if j = i then gA v p.2 i else gA v p.1 j
  | [], _, _, p, hp => absurd hp (List.not_mem_nil)
  | q :: ps, v, h, p, hp => by
    intro j
    show gA (cpL ps i (sA v q.1 i (gA v q.2 i))) p.1 j = _
    have hq := List.pairwise_cons.mp h.1
    rcases List.mem_cons.mp hp with rfl | hp'
    · rw [cpL_n (fun z hz => hq.1 z hz), gA_sA_s, upd_eq]
    · rw [cpL_s ⟨hq.2, fun a ha b hb => h.2 a (List.mem_cons_of_mem _ ha) b (List.mem_cons_of_mem _ hb)⟩ p hp' j, gA_sA_n (h.2 p (List.mem_cons_of_mem _ hp') q List.mem_cons_self), gA_sA_n (fun z => hq.1 p hp' z.symm)]
def CPd (y v : Mem) (ps : List (Nat × Nat)) (N : Nat) : Prop := (gI v = gI y ∧ gR v = gR y ∧ gL v = gL y ∧ v.1 = y.1) ∧ (∀ a, (∀ p ∈ ps, a ≠ p.1) → gA v a = gA y a) ∧ ∀ p ∈ ps, ∀ j, j < N → gA v p.1 j = gA y p.2 j
theorem cpN_d {ps : List (Nat × Nat)} (h : gdP ps) (y : Mem) : ∀ N, CPd y (cpN ps N y) ps N
  | 0 => ⟨⟨rfl, rfl, rfl, rfl⟩, fun _ _ => rfl, fun p _ j hj => absurd hj (Nat.not_lt_zero j)⟩
  | N + 1 => by
    obtain ⟨⟨e1, e2, e3, e4⟩, i2, i3⟩ := cpN_d h y N
    obtain ⟨c1, c2, c3, c4⟩ := cpL_e (i := N) (ps := ps) (v := cpN ps N y)
    have hs : cpN ps (N + 1) y = cpL ps N (cpN ps N y) := rfl
    rw [hs]
    refine ⟨⟨c1.trans e1, c2.trans e2, c3.trans e3, c4.trans e4⟩, fun a ha => (cpL_n ha).trans (i2 a ha), fun p hp j hj => ?_⟩
    rw [cpL_s h p hp j]
    by_cases q : j = N
    · rw [if_pos q, i2 p.2 (fun z hz => h.2 p hp z hz), q]
    · rw [if_neg q]; exact i3 p hp j (by omega)
theorem cp_run {ρ : Type} {ps : List (Nat × Nat)} {N : Nat} {body : Int32 → Mem → Option ((Int32 × Mem) ⊕ ρ)} (hb : ∀ i v, i < N → body (nI i) v = some (.inl (nI (i + 1), cpL ps i v))) (hN : N < 5000) (y : Mem) {r : ρ} (hr : body (nI N) (cpN ps N y) = some (.inr r)) : whileO (fun s => body s.1 s.2) FUEL ((0 : Int32), y) = some r := by
  have key : ∀ (d i n : Nat), i + d = N → d < n → whileO (fun s : Int32 × Mem => body s.1 s.2) n (nI i, cpN ps i y) = some r := by
    intro d
    induction d with
    | zero =>
      intro i n hi hn
      obtain ⟨n, rfl⟩ := Nat.exists_eq_succ_of_ne_zero (by omega : n ≠ 0)
      have : i = N := by omega
      subst this
      exact whileO_inr hr
    | succ d ih =>
      intro i n hi hn
      obtain ⟨n, rfl⟩ := Nat.exists_eq_succ_of_ne_zero (by omega : n ≠ 0)
      exact (whileO_inl (hb i (cpN ps i y) (by omega))).trans (ih (i + 1) n (by omega) (by omega))
  exact key N 0 FUEL (by omega) hN
theorem seenP.cong {N : Nat} {n n' n2 n2' : Int32} {a b c a' b' c' A B C A' B' C' : Nat → Int32} (h : seenP N n n' a b c a' b' c') (h1 : n2 = n) (h2 : n2' = n') (ha : ∀ i, i < 5 → A i = a i ∧ B i = b i ∧ C i = c i) (ha' : ∀ i, i < 5 → A' i = a' i ∧ B' i = b' i ∧ C' i = c' i) : seenP N n2 n2' A B C A' B' C' := by
  obtain ⟨m, hm, e1, e2, h3⟩ := h
  refine ⟨m, hm, h1.trans e1, h2.trans e2, fun i hi => ?_⟩
  obtain ⟨x1, x2, x3⟩ := ha i (by omega)
  obtain ⟨y1, y2, y3⟩ := ha' i (by omega)
  rw [x1, x2, x3, y1, y2, y3]
  exact h3 i hi
theorem planP.cong {N : Nat} {n n' n2 n2' : Int32} {a b c a' b' A B C A' B' : Nat → Int32} (h : planP N n n' a b c a' b') (h1 : n2 = n) (h2 : n2' = n') (ha : ∀ i, i < 10 → A i = a i ∧ B i = b i ∧ C i = c i) (ha' : ∀ i, i < 10 → A' i = a' i ∧ B' i = b' i) : planP N n2 n2' A B C A' B' := by
  obtain ⟨m, hm, e1, e2, h3⟩ := h
  refine ⟨m, hm, h1.trans e1, h2.trans e2, fun i hi => ?_⟩
  obtain ⟨x1, x2, x3⟩ := ha i (by omega)
  obtain ⟨y1, y2⟩ := ha' i (by omega)
  rw [x1, x2, x3, y1, y2]
  exact h3 i hi
theorem bookP.cong {N : Nat} {n n' n2 n2' : Int32} {a b a' b' A B A' B' : Nat → Int32} (h : bookP N n n' a b a' b') (h1 : n2 = n) (h2 : n2' = n') (ha : ∀ i, i < 8 → A i = a i ∧ B i = b i) (ha' : ∀ i, i < 8 → A' i = a' i ∧ B' i = b' i) : bookP N n2 n2' A B A' B' := by
  obtain ⟨m, hm, e1, e2, h3⟩ := h
  refine ⟨m, hm, h1.trans e1, h2.trans e2, fun i hi => ?_⟩
  obtain ⟨x1, x2⟩ := ha i (by omega)
  obtain ⟨y1, y2⟩ := ha' i (by omega)
  rw [x1, x2, y1, y2]
  exact h3 i hi
/-! the class' notes -/
theorem rowsT {v : Mem} {t p : Nat} (h : t + 4 ≤ p ∨ p + 4 ≤ t) (ht : t ≠ 82) : ∃ v', f_X2_becomeLike t p v = some ((), v') ∧ gI v' t 4 = gI v p 4 ∧ gI v' t 3 = gI v t 3 ∧ (∀ i, i < 10 → gA v' (t + 1) i = gA v (p + 1) i ∧ gA v' (t + 2) i = gA v (p + 2) i ∧ gA v' (t + 3) i = gA v (p + 3) i) ∧ Agr (fun x => x ≠ t ∧ ¬ (t + 1 ≤ x ∧ x ≤ t + 3)) TT v v' ∧ gR v' = gR v := by
  unfold f_X2_becomeLike
  have hg : ∀ (k : Option (Unit × Mem)), gcp (0 : Int32) (0 : Int32) (10 : Int32) 10 10 k = k := fun k => if_pos (by decide)
  rw [hg, hg, hg, show (0 : Int32).toNatClampNeg = 0 from rfl, show (10 : Int32).toNatClampNeg = 10 from rfl]
  refine ⟨_, rfl, by rw [gI_sI_s]; rfl, by rw [gI_sI_k (by decide)]; rfl, fun i hi => ⟨?_, ?_, ?_⟩, ⟨rfl, fun x hx => ⟨?_, rfl, ?_, rfl⟩, fun k _ => ?_⟩, rfl⟩
  · rw [gA_sI, sCA_n (by omega), sCA_n (by omega), sCA_s hi]
  · rw [gA_sI, sCA_n (by omega), sCA_s hi, sCA_n (by omega)]
  · rw [gA_sI, sCA_s hi, sCA_n (by omega), sCA_n (by omega)]
  · funext k
    rw [gI_sI_n hx.1]
    rfl
  · rw [gA_sI, sCA_n (by omega), sCA_n (by omega), sCA_n (by omega)]
  · rw [gI_sI_n (fun q => ht q.symm)]
    rfl
theorem notesT {v : Mem} {t p : Nat} (h : (t = 50 ∧ p = 37) ∨ (t = 37 ∧ p = 50)) : ∃ v', f_X1_becomeLike t p v = some ((), v') ∧ (gI v' (t + 1) 4 = gI v (p + 1) 4 ∧ gI v' (t + 5) 4 = gI v (p + 5) 4 ∧ gI v' (t + 9) 4 = gI v (p + 9) 4) ∧ (gI v' (t + 1) 3 = gI v (t + 1) 3 ∧ gI v' (t + 5) 3 = gI v (t + 5) 3 ∧ gI v' (t + 9) 3 = gI v (t + 9) 3) ∧ (∀ i, i < 10 → ∀ j, j < 12 → j ≠ 0 → j ≠ 4 → j ≠ 8 → gA v' (t + 1 + j) i = gA v (p + 1 + j) i) ∧ Agr (fun x => ¬ (t + 1 ≤ x ∧ x ≤ t + 12)) TT v v' ∧ gR v' = gR v := by
  obtain ⟨v1, a1, a2, a3, a4, a5, a6⟩ := rowsT (v := v) (t := t + 1) (p := p + 1) (by omega) (by omega)
  obtain ⟨v2, b1, b2, b3, b4, b5, b6⟩ := rowsT (v := v1) (t := t + 5) (p := p + 5) (by omega) (by omega)
  obtain ⟨v3, c1, c2, c3, c4, c5, c6⟩ := rowsT (v := v2) (t := t + 9) (p := p + 9) (by omega) (by omega)
  refine ⟨v3, ?_, ⟨?_, ?_, ?_⟩, ⟨?_, ?_, ?_⟩, fun i hi j h1 h2 h3 h4 => ?_, ?_, c6.trans (b6.trans a6)⟩
  · unfold f_X1_becomeLike
    rw [obind_of a1, obind_of b1, obind_of c1]
  · rw [c5.I (by omega), b5.I (by omega), a2]
  · rw [c5.I (by omega), b2, a5.I (by omega)]
  · rw [c2, b5.I (by omega), a5.I (by omega)]
  · rw [c5.I (by omega), b5.I (by omega), a3]
  · rw [c5.I (by omega), b3, a5.I (by omega)]
  · rw [c3, b5.I (by omega), a5.I (by omega)]
  · by_cases q : j < 4
    · have hj : j = 1 ∨ j = 2 ∨ j = 3 := by omega
      rw [c5.A (by omega), b5.A (by omega)]
      rcases hj with rfl | rfl | rfl
      · exact (a4 i hi).1
      · exact (a4 i hi).2.1
      · exact (a4 i hi).2.2
    · by_cases q2 : j < 8
      · have hj : j = 5 ∨ j = 6 ∨ j = 7 := by omega
        rw [c5.A (by omega), ← a5.A (x := p + 1 + j) (by omega)]
        rcases hj with rfl | rfl | rfl
        · exact (b4 i hi).1
        · exact (b4 i hi).2.1
        · exact (b4 i hi).2.2
      · have hj : j = 9 ∨ j = 10 ∨ j = 11 := by omega
        rw [← a5.A (x := p + 1 + j) (by omega), ← b5.A (x := p + 1 + j) (by omega)]
        rcases hj with rfl | rfl | rfl
        · exact (c4 i hi).1
        · exact (c4 i hi).2.1
        · exact (c4 i hi).2.2
  · exact ((a5.mono (fun x hx => by omega) (fun _ h => h)).trans (b5.mono (fun x hx => by omega) (fun _ h => h))).trans (c5.mono (fun x hx => by omega) (fun _ h => h))
def SI (x : Nat) : Prop := x ≠ 0 ∧ ¬ (25 ≤ x ∧ x ≤ 33) ∧ ¬ (51 ≤ x ∧ x ≤ 62) ∧ ¬ (110 ≤ x ∧ x ≤ 123) ∧ x ≠ 82
def FI (k : Nat) : Prop := ¬ (47 ≤ k ∧ k ≤ 56)
theorem InvA.img {u v : Mem} {K : gK8} {w : gW5} {B : Nat} {pgs : Nat → gPg} (h : InvA u K w B pgs) (hk : Agr SI FI u v) (h7 : gI v 0 7 = gI u 0 7) (hn : IMG v B pgs) : InvA v K w B pgs := by
  obtain ⟨h1, h2, h3, h4, h5, h6, h7', h8⟩ := h
  refine ⟨h1.agr hk (fun x _ => by unfold SI; omega) (fun k _ => by unfold FI; omega), h2.agr hk h7 (fun x _ => by unfold SI; omega) (by unfold FI; omega) (hk.R (by unfold SI; omega) 3), ?_, h4.agr hk (by unfold SI; omega) (by unfold FI; omega), h5.agr hk (fun x _ => by unfold SI; omega) (by unfold FI; omega), h6.agr hk (by unfold SI; omega) (by unfold FI; omega), h7'.agr hk (fun x _ => by unfold SI; omega), hn⟩
  rw [hk.2.2 13 (by unfold FI; omega), hk.R (by unfold SI; omega) 13]
  exact h3
theorem CPd.agr {y v : Mem} {ps : List (Nat × Nat)} {N : Nat} (h : CPd y v ps N) : Agr (fun x => ∀ p ∈ ps, x ≠ p.1) TT y v :=
  ⟨h.1.2.2.2, fun x hx => ⟨by rw [h.1.1], by rw [h.1.2.1], h.2.1 x hx, by rw [h.1.2.2.1]⟩, fun k _ => by rw [h.1.1]⟩
theorem imageM (u : Mem) : ∃ v, f_X8_image u = some (gI u 82 0, v) ∧ Agr (fun x => ¬ (110 ≤ x ∧ x ≤ 123) ∧ x ≠ 82) FI u v ∧ gR v = gR u ∧
    (gI v 82 47 = 1 ∧ gI v 82 48 = gI u 82 13 ∧ gI v 82 49 = gI u 82 0 ∧ gI v 82 50 = gI u 82 1 ∧ gI v 82 51 = gI u 82 2 ∧ gI v 82 52 = gI u 82 3 ∧ gI v 82 53 = gI u 82 4 ∧ gI v 82 54 = gI u 82 37 ∧ gI v 82 55 = gI u 82 41 ∧ gI v 82 56 = gI u 82 42) ∧
    (∀ i, i < 6 → gA v 110 i = gA u 83 i ∧ gA v 111 i = gA u 84 i ∧ gA v 112 i = gA u 85 i ∧ gA v 113 i = gA u 86 i) ∧ (∀ i, i < 24 → gA v 114 i = gA u 87 i) ∧ (∀ i, i < 5 → gA v 117 i = gA u 103 i ∧ gA v 118 i = gA u 104 i ∧ gA v 119 i = gA u 105 i) ∧ (∀ i, i < 10 → gA v 120 i = gA u 106 i ∧ gA v 121 i = gA u 107 i) ∧ ∀ i, i < 8 → gA v 115 i = gA u 89 i ∧ gA v 116 i = gA u 88 i ∧ gA v 122 i = gA u 108 i ∧ gA v 123 i = gA u 109 i := by
  unfold f_X8_image
  simp (disch := decide) only [gI_sI_k]
  obtain ⟨y, hy⟩ : ∃ y, y = sI (sI (sI (sI (sI (sI (sI (sI (sI (sI u 82 47 (1 : Int32)) 82 48 (gI u 82 13)) 82 49 (gI u 82 0)) 82 50 (gI u 82 1)) 82 51 (gI u 82 2)) 82 52 (gI u 82 3)) 82 53 (gI u 82 4)) 82 54 (gI u 82 37)) 82 55 (gI u 82 41)) 82 56 (gI u 82 42) := ⟨_, rfl⟩
  rw [← hy]
  have hyI : gI y 82 47 = 1 ∧ gI y 82 48 = gI u 82 13 ∧ gI y 82 49 = gI u 82 0 ∧ gI y 82 50 = gI u 82 1 ∧ gI y 82 51 = gI u 82 2 ∧ gI y 82 52 = gI u 82 3 ∧ gI y 82 53 = gI u 82 4 ∧ gI y 82 54 = gI u 82 37 ∧ gI y 82 55 = gI u 82 41 ∧ gI y 82 56 = gI u 82 42 := by
    rw [hy]
    simp (disch := decide) only [gI_sI_k, gI_sI_s]
    exact ⟨trivial, trivial, trivial, trivial, trivial, trivial, trivial, trivial, trivial, trivial⟩
  have hy0 : gI y 82 0 = gI u 82 0 := by
    rw [hy]
    simp (disch := decide) only [gI_sI_k]
  have hyg : Agr (fun x => x ≠ 82) FI u y := by
    rw [hy]
    refine ((((((((((Agr.rf _ _ _).si ?_ ?_).si ?_ ?_).si ?_ ?_).si ?_ ?_).si ?_ ?_).si ?_ ?_).si ?_ ?_).si ?_ ?_).si ?_ ?_).si ?_ ?_ <;> first | (exact fun q => q rfl) | (right; unfold FI; omega)
  have hyA : gA y = gA u := by rw [hy]; rfl
  have hyR : gR y = gR u := by rw [hy]; rfl
  clear hy
  obtain ⟨v1, e1⟩ : ∃ v, v = cpN [(110, 83), (111, 84), (112, 85), (113, 86)] 6 y := ⟨_, rfl⟩
  obtain ⟨v2, e2⟩ : ∃ v, v = cpN [(114, 87)] 24 v1 := ⟨_, rfl⟩
  obtain ⟨v3, e3⟩ : ∃ v, v = cpN [(117, 103), (118, 104), (119, 105)] 5 v2 := ⟨_, rfl⟩
  obtain ⟨v4, e4⟩ : ∃ v, v = cpN [(120, 106), (121, 107)] 10 v3 := ⟨_, rfl⟩
  obtain ⟨v5, e5⟩ : ∃ v, v = cpN [(115, 89), (116, 88), (122, 108), (123, 109)] 8 v4 := ⟨_, rfl⟩
  have d1 : CPd y v1 _ _ := e1 ▸ cpN_d (ps := [(110, 83), (111, 84), (112, 85), (113, 86)]) (by unfold gdP; decide) y 6
  have d2 : CPd v1 v2 _ _ := e2 ▸ cpN_d (ps := [(114, 87)]) (by unfold gdP; decide) v1 24
  have d3 : CPd v2 v3 _ _ := e3 ▸ cpN_d (ps := [(117, 103), (118, 104), (119, 105)]) (by unfold gdP; decide) v2 5
  have d4 : CPd v3 v4 _ _ := e4 ▸ cpN_d (ps := [(120, 106), (121, 107)]) (by unfold gdP; decide) v3 10
  have d5 : CPd v4 v5 _ _ := e5 ▸ cpN_d (ps := [(115, 89), (116, 88), (122, 108), (123, 109)]) (by unfold gdP; decide) v4 8
  have hI : gI v5 = gI y := by rw [d5.1.1, d4.1.1, d3.1.1, d2.1.1, d1.1.1]
  have r5 : whileO (fun s => f_X8_image_L254 s.1 s.2) FUEL ((0 : Int32), v4) = some (Sum.inr (Sum.inr (Sum.inr (Sum.inr (gI u 82 0, v5))))) := by
    refine cp_run (ps := [(115, 89), (116, 88), (122, 108), (123, 109)]) (N := 8) (body := f_X8_image_L254) (fun i v hi => ?_) (by decide) v4 ?_
    · unfold f_X8_image_L254
      rw [if_neg (by (simp (disch := omega) only [le_I, lt_I, eq_I, nI_toInt, Int32.reduceToInt, ne_eq] <;> omega))]
      simp only [gin_nI hi (show 8 ≤ 2147483648 by decide), nI_clamp (show i < 2 ^ 31 by omega), nI_1]
      rfl
    · rw [← e5]
      unfold f_X8_image_L254
      rw [if_pos (by decide), hI, hy0]
  have r4 : whileO (fun s => f_X8_image_L216 s.1 s.2) FUEL ((0 : Int32), v3) = some (Sum.inr (Sum.inr (Sum.inr (gI u 82 0, v5)))) := by
    refine cp_run (ps := [(120, 106), (121, 107)]) (N := 10) (body := f_X8_image_L216) (fun i v hi => ?_) (by decide) v3 ?_
    · unfold f_X8_image_L216
      rw [if_neg (by (simp (disch := omega) only [le_I, lt_I, eq_I, nI_toInt, Int32.reduceToInt, ne_eq] <;> omega))]
      simp only [gin_nI hi (show 10 ≤ 2147483648 by decide), nI_clamp (show i < 2 ^ 31 by omega), nI_1]
      rfl
    · rw [← e4]
      unfold f_X8_image_L216
      rw [if_pos (by decide)]
      exact r5
  have r3 : whileO (fun s => f_X8_image_L167 s.1 s.2) FUEL ((0 : Int32), v2) = some (Sum.inr (Sum.inr (gI u 82 0, v5))) := by
    refine cp_run (ps := [(117, 103), (118, 104), (119, 105)]) (N := 5) (body := f_X8_image_L167) (fun i v hi => ?_) (by decide) v2 ?_
    · unfold f_X8_image_L167
      rw [if_neg (by (simp (disch := omega) only [le_I, lt_I, eq_I, nI_toInt, Int32.reduceToInt, ne_eq] <;> omega))]
      simp only [gin_nI hi (show 5 ≤ 2147483648 by decide), nI_clamp (show i < 2 ^ 31 by omega), nI_1]
      rfl
    · rw [← e3]
      unfold f_X8_image_L167
      rw [if_pos (by decide)]
      exact r4
  have r2 : whileO (fun s => f_X8_image_L141 s.1 s.2) FUEL ((0 : Int32), v1) = some (Sum.inr (gI u 82 0, v5)) := by
    refine cp_run (ps := [(114, 87)]) (N := 24) (body := f_X8_image_L141) (fun i v hi => ?_) (by decide) v1 ?_
    · unfold f_X8_image_L141
      rw [if_neg (by (simp (disch := omega) only [le_I, lt_I, eq_I, nI_toInt, Int32.reduceToInt, ne_eq] <;> omega))]
      simp only [gin_nI hi (show 24 ≤ 2147483648 by decide), nI_clamp (show i < 2 ^ 31 by omega), nI_1]
      rfl
    · rw [← e2]
      unfold f_X8_image_L141
      rw [if_pos (by decide)]
      exact r3
  have r1 : whileO (fun s => f_X8_image_L79 s.1 s.2) FUEL ((0 : Int32), y) = some (gI u 82 0, v5) := by
    refine cp_run (ps := [(110, 83), (111, 84), (112, 85), (113, 86)]) (N := 6) (body := f_X8_image_L79) (fun i v hi => ?_) (by decide) y ?_
    · unfold f_X8_image_L79
      rw [if_neg (by (simp (disch := omega) only [le_I, lt_I, eq_I, nI_toInt, Int32.reduceToInt, ne_eq] <;> omega))]
      simp only [gin_nI hi (show 6 ≤ 2147483648 by decide), nI_clamp (show i < 2 ^ 31 by omega), nI_1]
      rfl
    · rw [← e1]
      unfold f_X8_image_L79
      rw [if_pos (by decide)]
      exact r2
  have hag : Agr (fun x => ¬ (110 ≤ x ∧ x ≤ 123) ∧ x ≠ 82) FI u v5 := by
    refine (hyg.mono (fun x hx => hx.2) (fun _ h => h)).trans ((((((d1.agr.mono ?_ ?_).trans (d2.agr.mono ?_ ?_)).trans (d3.agr.mono ?_ ?_)).trans (d4.agr.mono ?_ ?_)).trans (d5.agr.mono ?_ ?_))) <;> first | (intro x hx p hp; simp only [List.mem_cons, List.not_mem_nil, or_false] at hp; rcases hp with rfl | rfl | rfl | rfl <;> (show x ≠ _; omega)) | (intro x hx p hp; simp only [List.mem_cons, List.not_mem_nil, or_false] at hp; rcases hp with rfl | rfl | rfl <;> (show x ≠ _; omega)) | (intro x hx p hp; simp only [List.mem_cons, List.not_mem_nil, or_false] at hp; rcases hp with rfl | rfl <;> (show x ≠ _; omega)) | (intro x hx p hp; simp only [List.mem_cons, List.not_mem_nil, or_false] at hp; subst hp; show x ≠ _; omega) | (exact fun _ _ => trivial)
  refine ⟨v5, r1, hag, by rw [d5.1.2.1, d4.1.2.1, d3.1.2.1, d2.1.2.1, d1.1.2.1, hyR], by rw [hI]; exact hyI, fun i hi => ⟨?_, ?_, ?_, ?_⟩, fun i hi => ?_, fun i hi => ⟨?_, ?_, ?_⟩, fun i hi => ⟨?_, ?_⟩, fun i hi => ⟨?_, ?_, ?_, ?_⟩⟩
  · rw [d5.2.1 110 (by decide), d4.2.1 110 (by decide), d3.2.1 110 (by decide), d2.2.1 110 (by decide), d1.2.2 (110, 83) (by decide) i hi, hyA]
  · rw [d5.2.1 111 (by decide), d4.2.1 111 (by decide), d3.2.1 111 (by decide), d2.2.1 111 (by decide), d1.2.2 (111, 84) (by decide) i hi, hyA]
  · rw [d5.2.1 112 (by decide), d4.2.1 112 (by decide), d3.2.1 112 (by decide), d2.2.1 112 (by decide), d1.2.2 (112, 85) (by decide) i hi, hyA]
  · rw [d5.2.1 113 (by decide), d4.2.1 113 (by decide), d3.2.1 113 (by decide), d2.2.1 113 (by decide), d1.2.2 (113, 86) (by decide) i hi, hyA]
  · rw [d5.2.1 114 (by decide), d4.2.1 114 (by decide), d3.2.1 114 (by decide), d2.2.2 (114, 87) (by decide) i hi, d1.2.1 87 (by decide), hyA]
  · rw [d5.2.1 117 (by decide), d4.2.1 117 (by decide), d3.2.2 (117, 103) (by decide) i hi, d2.2.1 103 (by decide), d1.2.1 103 (by decide), hyA]
  · rw [d5.2.1 118 (by decide), d4.2.1 118 (by decide), d3.2.2 (118, 104) (by decide) i hi, d2.2.1 104 (by decide), d1.2.1 104 (by decide), hyA]
  · rw [d5.2.1 119 (by decide), d4.2.1 119 (by decide), d3.2.2 (119, 105) (by decide) i hi, d2.2.1 105 (by decide), d1.2.1 105 (by decide), hyA]
  · rw [d5.2.1 120 (by decide), d4.2.2 (120, 106) (by decide) i hi, d3.2.1 106 (by decide), d2.2.1 106 (by decide), d1.2.1 106 (by decide), hyA]
  · rw [d5.2.1 121 (by decide), d4.2.2 (121, 107) (by decide) i hi, d3.2.1 107 (by decide), d2.2.1 107 (by decide), d1.2.1 107 (by decide), hyA]
  · rw [d5.2.2 (115, 89) (by decide) i hi, d4.2.1 89 (by decide), d3.2.1 89 (by decide), d2.2.1 89 (by decide), d1.2.1 89 (by decide), hyA]
  · rw [d5.2.2 (116, 88) (by decide) i hi, d4.2.1 88 (by decide), d3.2.1 88 (by decide), d2.2.1 88 (by decide), d1.2.1 88 (by decide), hyA]
  · rw [d5.2.2 (122, 108) (by decide) i hi, d4.2.1 108 (by decide), d3.2.1 108 (by decide), d2.2.1 108 (by decide), d1.2.1 108 (by decide), hyA]
  · rw [d5.2.2 (123, 109) (by decide) i hi, d4.2.1 109 (by decide), d3.2.1 109 (by decide), d2.2.1 109 (by decide), d1.2.1 109 (by decide), hyA]
theorem st_image {u : Mem} (hI : Inv u) : okS u (f_X7_image u) f_X8_image := by
  obtain ⟨K, w, B, pgs, hA⟩ := hI
  obtain ⟨v1, a1, a2, a3, a4⟩ := becomeT (t := 25) (p := 1) (Or.inr (Or.inr rfl)) (Or.inl rfl) (by decide) (bool_of hA) hA.ct
  obtain ⟨v2, b1, b2, b3, b4, b5, b6⟩ := notesT (v := v1) (t := 50) (p := 37) (Or.inl ⟨rfl, rfl⟩)
  obtain ⟨v, c1, c2, c3, c4, c5, c6, c7, c8, c9⟩ := imageM (sI v2 0 5 (1 : Int32))
  have h12 : Agr (fun x => ¬ (25 ≤ x ∧ x ≤ 33) ∧ ¬ (51 ≤ x ∧ x ≤ 62)) TT u v2 := (a3.mono (fun x hx => by unfold Sb; omega) (fun _ h => h)).trans (b5.mono (fun x hx => by omega) (fun _ h => h))
  have h13 : Agr (fun x => ¬ (25 ≤ x ∧ x ≤ 33) ∧ ¬ (51 ≤ x ∧ x ≤ 62) ∧ x ≠ 0) TT u (sI v2 0 5 (1 : Int32)) := (h12.mono (fun x hx => ⟨hx.1, hx.2.1⟩) (fun _ h => h)).si (by omega) (Or.inl (by decide))
  have hall : Agr SI FI u v := (h13.mono (fun x hx => by unfold SI at hx; omega) (fun _ _ => trivial)).trans (c2.mono (fun x hx => by unfold SI at hx; omega) (fun _ h => h))
  have hN1 : gI (sI v2 0 5 (1 : Int32)) 1 9 = nI (cN K) := (h13.I (by omega) 9).trans hA.1.1.1.2
  have hm1 : gI (sI v2 0 5 (1 : Int32)) 82 0 = nI (cN K) := (h13.2.2 0 trivial).trans hA.1.2.2.1.1
  have h7 : gI v 0 7 = gI u 0 7 := by
    rw [c2.I (by omega), gI_sI_k (by decide), h12.I (by omega)]
  obtain ⟨f1, f2, f3, n1, n2, n3⟩ := hA.2.2.2.2.1
  have hx : ∀ a, 83 ≤ a → gA (sI v2 0 5 (1 : Int32)) a = gA u a := fun a ha => h13.A (by omega)
  have hy : ∀ k, gI (sI v2 0 5 (1 : Int32)) 82 k = gI u 82 k := fun k => h13.2.2 k trivial
  have hv25 : ∀ a, 25 ≤ a → a ≤ 33 → gA v a = gA v1 a := fun a h1 h2 => by
    rw [c2.A (by omega)]
    show gA v2 a = _
    rw [b5.A (by omega)]
  have hi25 : ∀ k, gI v 25 k = gI v1 25 k := fun k => by
    rw [c2.I (by omega), gI_sI_n (by decide), b5.I (by omega)]
  have hn5 : ∀ a, 51 ≤ a → a ≤ 62 → gA v a = gA v2 a := fun a h1 h2 => by
    rw [c2.A (by omega)]
    rfl
  have hn5I : ∀ a, 51 ≤ a → a ≤ 62 → gI v a 4 = gI v2 a 4 := fun a h1 h2 => by
    rw [c2.I (by omega), gI_sI_n (by omega)]
  have hu1 : ∀ a, 38 ≤ a → a ≤ 49 → gA v1 a = gA u a := fun a h1 h2 => a3.A (by unfold Sb; omega)
  have hu1I : ∀ a, 38 ≤ a → a ≤ 49 → gI v1 a 4 = gI u a 4 := fun a h1 h2 => a3.I (by unfold Sb; omega) 4
  have hR : gR v 25 13 = gR u 1 13 := by
    rw [c3]
    show gR v2 25 13 = _
    rw [b6, a4]
  obtain ⟨d1, d2, d3, d4, d5, d6, d7, d8, d9, d10⟩ := c4
  have hIMG : IMG v B pgs := by
    refine Or.inr ⟨?_, d1, K, w, ⟨⟨a2.1.1.1, ?_⟩, fun i hi => ?_, fun i hi => ⟨?_, ?_, ?_, ?_⟩, fun i hi => ?_⟩, ⟨?_, ?_, ?_, fun i hi => ?_, fun i hi => ?_⟩, ⟨?_, fun i hi => ?_, fun i hi => ⟨?_, ?_, ?_, ?_⟩, fun i hi => ?_⟩, ⟨?_, ?_, ?_, fun i hi => ?_, fun i hi => ?_⟩, hA.1.2.2.2.2, ?_, ?_, ?_, ?_⟩
    · rw [c2.I (by omega), gI_sI_s]
    · rw [hi25]; exact a2.1.1.2
    · rw [hv25 (25 + 1) (by omega) (by omega)]; exact a2.1.2.1 i hi
    · rw [hv25 (25 + 3) (by omega) (by omega)]; exact (a2.1.2.2.1 i hi).1
    · rw [hv25 (25 + 4) (by omega) (by omega)]; exact (a2.1.2.2.1 i hi).2.1
    · rw [hv25 (25 + 5) (by omega) (by omega)]; exact (a2.1.2.2.1 i hi).2.2.1
    · rw [hv25 (25 + 7) (by omega) (by omega)]; exact (a2.1.2.2.1 i hi).2.2.2
    · rw [hv25 (25 + 8) (by omega) (by omega)]; exact a2.1.2.2.2.1 i hi
    · rw [hi25]; exact a2.2.1
    · rw [hi25]; exact a2.2.2.1
    · rw [hi25]; exact a2.2.2.2.1
    · rw [hv25 (25 + 2) (by omega) (by omega)]; exact a2.2.2.2.2.1 i hi
    · rw [hv25 (25 + 6) (by omega) (by omega)]; exact a2.2.2.2.2.2 i hi
    · rw [d3, hm1]
    · rw [(c9 i hi).1, hx 89 (by decide)]; exact hA.1.2.2.1.2.1 i hi
    · rw [(c5 i hi).1, hx 83 (by decide)]; exact (hA.1.2.2.1.2.2.1 i hi).1
    · rw [(c5 i hi).2.1, hx 84 (by decide)]; exact (hA.1.2.2.1.2.2.1 i hi).2.1
    · rw [(c5 i hi).2.2.1, hx 85 (by decide)]; exact (hA.1.2.2.1.2.2.1 i hi).2.2.1
    · rw [d4, hy]; exact (hA.1.2.2.1.2.2.1 i hi).2.2.2
    · rw [c6 i hi, hx 87 (by decide)]; exact hA.1.2.2.1.2.2.2 i hi
    · rw [d5, hy]; exact hA.1.2.2.2.1.1
    · rw [d6, hy]; exact hA.1.2.2.2.1.2.1
    · rw [d7, hy]; exact hA.1.2.2.2.1.2.2.1
    · rw [(c9 i hi).2.1, hx 88 (by decide)]; exact hA.1.2.2.2.1.2.2.2.1 i hi
    · rw [(c5 i hi).2.2.2, hx 86 (by decide)]; exact hA.1.2.2.2.1.2.2.2.2 i hi
    · rw [d2, hy, hR]; exact hA.2.2.1
    · refine n1.cong ?_ ?_ (fun i hi => ⟨?_, ?_, ?_⟩) (fun i hi => ⟨?_, ?_, ?_⟩)
      · rw [hn5I 51 (by decide) (by decide)]; exact b2.1.trans (hu1I 38 (by decide) (by decide))
      · rw [d8, hy]
      · rw [hn5 52 (by decide) (by decide)]; exact (b4 i (by omega) 1 (by decide) (by decide) (by decide) (by decide)).trans (congrFun (hu1 39 (by decide) (by decide)) i)
      · rw [hn5 53 (by decide) (by decide)]; exact (b4 i (by omega) 2 (by decide) (by decide) (by decide) (by decide)).trans (congrFun (hu1 40 (by decide) (by decide)) i)
      · rw [hn5 54 (by decide) (by decide)]; exact (b4 i (by omega) 3 (by decide) (by decide) (by decide) (by decide)).trans (congrFun (hu1 41 (by decide) (by decide)) i)
      · rw [(c7 i hi).1, hx 103 (by decide)]
      · rw [(c7 i hi).2.1, hx 104 (by decide)]
      · rw [(c7 i hi).2.2, hx 105 (by decide)]
    · refine n2.cong ?_ ?_ (fun i hi => ⟨?_, ?_, ?_⟩) (fun i hi => ⟨?_, ?_⟩)
      · rw [hn5I 55 (by decide) (by decide)]; exact b2.2.1.trans (hu1I 42 (by decide) (by decide))
      · rw [d9, hy]
      · rw [hn5 56 (by decide) (by decide)]; exact (b4 i (by omega) 5 (by decide) (by decide) (by decide) (by decide)).trans (congrFun (hu1 43 (by decide) (by decide)) i)
      · rw [hn5 57 (by decide) (by decide)]; exact (b4 i (by omega) 6 (by decide) (by decide) (by decide) (by decide)).trans (congrFun (hu1 44 (by decide) (by decide)) i)
      · rw [hn5 58 (by decide) (by decide)]; exact (b4 i (by omega) 7 (by decide) (by decide) (by decide) (by decide)).trans (congrFun (hu1 45 (by decide) (by decide)) i)
      · rw [(c8 i hi).1, hx 106 (by decide)]
      · rw [(c8 i hi).2, hx 107 (by decide)]
    · refine n3.cong ?_ ?_ (fun i hi => ⟨?_, ?_⟩) (fun i hi => ⟨?_, ?_⟩)
      · rw [hn5I 59 (by decide) (by decide)]; exact b2.2.2.trans (hu1I 46 (by decide) (by decide))
      · rw [d10, hy]
      · rw [hn5 60 (by decide) (by decide)]; exact (b4 i (by omega) 9 (by decide) (by decide) (by decide) (by decide)).trans (congrFun (hu1 47 (by decide) (by decide)) i)
      · rw [hn5 61 (by decide) (by decide)]; exact (b4 i (by omega) 10 (by decide) (by decide) (by decide) (by decide)).trans (congrFun (hu1 48 (by decide) (by decide)) i)
      · rw [(c9 i hi).2.2.1, hx 108 (by decide)]
      · rw [(c9 i hi).2.2.2, hx 109 (by decide)]
  refine ⟨nI (cN K), sI v2 0 5 (1 : Int32), v, ?_, ?_, K, w, B, pgs, hA.img hall h7 hIMG⟩
  · unfold f_X7_image
    rw [obind_of a1, obind_of b1, hN1]
  · rw [c1, hm1]
