/-! chains and choices: a part, then parts behind & or | -/
theorem opLoop {T : Nat → Nat} {m n d k s tk : Nat} {p : Int32} (hm : m ≤ 100) (hT : ∀ i, i < m → T i < 128) (hk : k ≤ 1) (hs : s = 38 ∨ s = 124) (Lf : Int32 → Mem → Option ((Int32 × Mem) ⊕ (Int32 × Mem)))
    (hL : ∀ x v, Lf x v = (if (100 : Int32) ≤ x then some (Sum.inr ((1 : Int32), v)) else obind (f_X3_skip (nI s) v) (fun r5 u5 => (if r5 = 0 then some (Sum.inr ((1 : Int32), u5)) else obind (f_X3_rec n (k + 1) (nI d) u5) (fun r7 u7 => (if r7 = 0 then some (Sum.inr ((0 : Int32), u7)) else gob u7.1 (gR u7 63 3) l0 (obind (f_X0_add (gR u7 63 3) p (0 : Int32) (0 : Int32) u7) (fun _ u10 => some (Sum.inl (x + (1 : Int32), u10))))))))))
    (hp : ((p <<< ((16 : Int32) &&& 31)) ||| ((0 : Int32) <<< ((8 : Int32) &&& 31))) ||| (0 : Int32) = nI (iC tk)) (htk : tk = 10001 ∨ tk = 10002)
    (hA : ∀ W X W1 S1, fin k W X W1 S1 → gd k W → stl s W1 S1 = (W, X)) (hB : ∀ W X W1 S1, gd k W → fin (k + 1) (s :: W) X W1 S1 → fin k W (X ++ [tk]) W1 S1) (hG : ∀ W, gd k W → gd (k + 1) (s :: W))
    (hF : ∀ a, a ≤ m → OUT T m n (k + 1) d a) :
    ∀ (r a : Nat), m - a ≤ r → a ≤ m → (k = 0 → nx T m a ≠ 38) → ∃ ok a' more, a ≤ a' ∧ a' ≤ m ∧ (ok = true → a + more.length ≤ a' ∧ nx T m a' ≠ nI s ∧ (k = 0 → nx T m a' ≠ 38) ∧ TGL (18 + k) d more) ∧
      (∀ u b q C v j n0, CU u b → CB u b T m a q C v → C.length ≤ a → j ≤ a → m - a < n0 → (ok = true → ∃ v', whileO (fun s => Lf s.1 s.2) n0 (nI j, v) = some (1, v') ∧ CB u b T m a' q (C ++ more) v') ∧ (ok = false → ∃ v' C', whileO (fun s => Lf s.1 s.2) n0 (nI j, v) = some (0, v') ∧ C'.length ≤ 100 ∧ CB u b T m a' q C' v')) ∧
      (∀ y sb c W X W1 S1 z, c < 60 → MB y T m sb c a W1 S1 z → fin k W X W1 S1 → gd k W → opn W = d → bd sb a W1 S1 → RGo T m c y sb k 0 z a ok a' W (X ++ more)) := by
  intro r
  induction r with
  | zero =>
    intro a hr ha h38
    have hnx : nx T m a ≠ nI s := by
      intro q
      have := nx_nn q (by omega)
      omega
    refine ⟨true, a, [], Nat.le_refl _, ha, fun _ => ⟨Nat.le_refl _, hnx, h38, fun R e he hR => hR⟩, fun u b q C v j n0 hU h hC hj hn => ⟨fun _ => ?_, fun z => (by cases z)⟩, fun y sb c W X W1 S1 z hc h hf hg ho hb => ⟨fun _ => ⟨0, W1, S1, z, Nat.zero_le _, fun _ => rfl, h, by rw [List.append_nil]; exact hf, hb⟩, fun z => (by cases z)⟩⟩
    obtain ⟨n0, rfl⟩ := Nat.exists_eq_succ_of_ne_zero (by omega : n0 ≠ 0)
    refine ⟨v, whileO_inr ?_, by rw [List.append_nil]; exact h⟩
    show Lf (nI j) v = _
    rw [hL]
    by_cases q : (100 : Int32) ≤ nI j
    · rw [if_pos q]
    · rw [if_neg q, skipC h.2.2.1, if_neg hnx, obind_some, if_pos rfl]
  | succ r ih =>
    intro a hr ha h38
    by_cases hnx : nx T m a = nI s
    · have ham := nx_nn hnx (by omega)
      obtain ⟨ok1, a1, t1, p1, p2, p3, p4, p5⟩ := hF (a + 1) ham
      have hj100 : ∀ j, j ≤ a → ¬ (100 : Int32) ≤ nI j := by
        intro j hj
        (simp (disch := omega) only [le_I, lt_I, eq_I, nI_toInt, Int32.reduceToInt, ne_eq] <;> omega)
      have hst : ∀ v j, j ≤ a → TV T m a v → Lf (nI j) v = obind (f_X3_rec n (k + 1) (nI d) (sI v 63 2 (nI (a + 1)))) (fun r7 u7 => (if r7 = 0 then some (Sum.inr ((0 : Int32), u7)) else gob u7.1 (gR u7 63 3) l0 (obind (f_X0_add (gR u7 63 3) p (0 : Int32) (0 : Int32) u7) (fun _ u10 => some (Sum.inl (nI (j + 1), u10)))))) := by
        intro v j hj hv
        rw [hL, if_neg (hj100 j hj), skipC hv, if_pos hnx, obind_some, if_neg (show ¬ (1 : Int32) = 0 by decide), nI_1]
      have hrf : ∀ y sb c W X W1 S1 z, c < 60 → MB y T m sb c a W1 S1 z → fin k W X W1 S1 → gd k W → opn W = d → bd sb a W1 S1 → ∃ z1, Eb c (0, z) = some (.inl (1, z1)) ∧ RGo T m c y sb (k + 1) 1 z1 (a + 1) ok1 a1 (s :: W) (X ++ t1) := by
        intro y sb c W X W1 S1 z hc h hf hg ho hb
        obtain ⟨z1, e1, e2⟩ := stepOp (c := c) hs h hnx (by have := hb.1; omega) (by have := hb.2; omega)
        have hl := stl_len s W1 S1
        rw [hA W X W1 S1 hf hg] at e2 hl
        have hl : W.length + X.length = W1.length + S1.length := hl
        refine ⟨z1, e1, p5 y sb c (s :: W) X z1 hc e2 (hG W hg) ?_ ⟨?_, ?_⟩⟩
        · show (if s = 33 ∨ s = 40 then 1 else 0) + opn W = d
          rw [if_neg (by omega)]
          omega
        · have := hb.1
          rw [List.length_cons]
          omega
        · have := hb.2
          rw [List.length_cons]
          omega
      cases ok1 with
      | false =>
        refine ⟨false, a1, [], by omega, p2, fun z => (by cases z), fun u b q C v j n0 hU h hC hj hn => ⟨fun z => (by cases z), fun _ => ?_⟩, fun y sb c W X W1 S1 z hc h hf hg ho hb => ?_⟩
        · obtain ⟨n0, rfl⟩ := Nat.exists_eq_succ_of_ne_zero (by omega : n0 ≠ 0)
          obtain ⟨v', C', e1, e2, e3⟩ := (p4 u b q C _ hU (h.lv hU (LV.go v (a + 1)) ham) (by omega)).2 rfl
          refine ⟨v', C', whileO_inr ?_, e2, e3⟩
          show Lf (nI j) v = _
          rw [hst v j hj h.2.2.1, obind_of e1]
          rfl
        · obtain ⟨z1, e1, e2⟩ := hrf y sb c W X W1 S1 z hc h hf hg ho hb
          have := e2.2 rfl
          exact RGo.pre (a1 := a + 1) (reach1 e1) (by omega) (by omega) (by omega) ⟨fun z => (by cases z), fun _ => this⟩
      | true =>
        obtain ⟨s1, s2, s3, -, s5⟩ := p3 rfl
        obtain ⟨ok2, a2, more, i1, i2, i3, i4, i5⟩ := ih a1 (by omega) p2 (fun h0 => s3 (by omega))
        refine ⟨ok2, a2, t1 ++ [tk] ++ more, by omega, i2, fun hok => ?_, fun u b q C v j n0 hU h hC hj hn => ?_, fun y sb c W X W1 S1 z hc h hf hg ho hb => ?_⟩
        · obtain ⟨w1, w2, w3, w4⟩ := i3 hok
          refine ⟨by rw [List.length_append, List.length_append]; simp only [List.length_cons, List.length_nil]; omega, w2, w3, fun R e he hR => ?_⟩
          rw [List.append_assoc, List.append_assoc]
          refine s5 ([tk] ++ (more ++ R)) (e + 1) (by omega) ?_
          have hin := w4 R e he hR
          show tkG (tk :: (more ++ R)) (e + 1 + 1) = true
          unfold tkG
          rw [if_neg (by omega), if_pos htk, show e + 1 + 1 - 1 = e + 1 by omega, hin, decide_eq_true (by omega)]
          rfl
        · obtain ⟨n0, rfl⟩ := Nat.exists_eq_succ_of_ne_zero (by omega : n0 ≠ 0)
          obtain ⟨v', e1, e3⟩ := (p4 u b q C _ hU (h.lv hU (LV.go v (a + 1)) ham) (by omega)).1 rfl
          have e : gR v' 63 3 = b := by rw [e3.2.1]; exact hU.1
          obtain ⟨v2, f1, f2⟩ := e3.add hU (by rw [List.length_append]; omega) hp
          have hstep : Lf (nI j) v = some (.inl (nI (j + 1), v2)) := by
            rw [hst v j hj h.2.2.1, obind_of e1, if_neg (show ¬ (1 : Int32) = 0 by decide), e, gob_t (by rw [e3.1.1]; exact hU.2.1), obind_of f1]
          have hlen : (C ++ t1 ++ [tk]).length ≤ a1 := by
            rw [List.length_append, List.length_append]
            simp only [List.length_cons, List.length_nil]
            omega
          obtain ⟨g1, g2⟩ := i4 u b q (C ++ t1 ++ [tk]) v2 (j + 1) n0 hU f2 hlen (by omega) (by omega)
          refine ⟨fun hok => ?_, fun hok => ?_⟩
          · obtain ⟨v3, h1, h2⟩ := g1 hok
            refine ⟨v3, (whileO_inl hstep).trans h1, ?_⟩
            have e4 : C ++ (t1 ++ [tk] ++ more) = C ++ t1 ++ [tk] ++ more := by simp only [List.append_assoc]
            rw [e4]
            exact h2
          · obtain ⟨v3, C', h1, h2⟩ := g2 hok
            exact ⟨v3, C', (whileO_inl hstep).trans h1, h2⟩
        · obtain ⟨z1, e1, e2⟩ := hrf y sb c W X W1 S1 z hc h hf hg ho hb
          obtain ⟨j, W', S', z', f1, f2, f3, f4, f5⟩ := e2.1 rfl
          have hgo := i5 y sb c W (X ++ t1 ++ [tk]) W' S' z' hc f3 (hB W (X ++ t1) W' S' hg f4) hg ho f5
          have e4 : X ++ (t1 ++ [tk] ++ more) = X ++ t1 ++ [tk] ++ more := by simp only [List.append_assoc]
          rw [e4]
          exact RGo.pre (a1 := a + 1) (reach1 e1) (by omega) (by omega) (by omega) (RGo.pre (a1 := a1) f2 f1 (by omega) (by omega) hgo)
    · refine ⟨true, a, [], Nat.le_refl _, ha, fun _ => ⟨Nat.le_refl _, hnx, h38, fun R e he hR => hR⟩, fun u b q C v j n0 hU h hC hj hn => ⟨fun _ => ?_, fun z => (by cases z)⟩, fun y sb c W X W1 S1 z hc h hf hg ho hb => ⟨fun _ => ⟨0, W1, S1, z, Nat.zero_le _, fun _ => rfl, h, by rw [List.append_nil]; exact hf, hb⟩, fun z => (by cases z)⟩⟩
      obtain ⟨n0, rfl⟩ := Nat.exists_eq_succ_of_ne_zero (by omega : n0 ≠ 0)
      refine ⟨v, whileO_inr ?_, by rw [List.append_nil]; exact h⟩
      show Lf (nI j) v = _
      rw [hL]
      by_cases q : (100 : Int32) ≤ nI j
      · rw [if_pos q]
      · rw [if_neg q, skipC h.2.2.1, if_neg hnx, obind_some, if_pos rfl]
theorem opL {T : Nat → Nat} {m n d k s tk : Nat} {p : Int32} {a : Nat} (hm : m ≤ 100) (hT : ∀ i, i < m → T i < 128) (hk : k ≤ 1) (hs : s = 38 ∨ s = 124) (hks : (k = 1 → s = 38) ∧ (k = 0 → s = 124)) (Lf : Int32 → Mem → Option ((Int32 × Mem) ⊕ (Int32 × Mem)))
    (hL : ∀ x v, Lf x v = (if (100 : Int32) ≤ x then some (Sum.inr ((1 : Int32), v)) else obind (f_X3_skip (nI s) v) (fun r5 u5 => (if r5 = 0 then some (Sum.inr ((1 : Int32), u5)) else obind (f_X3_rec n (k + 1) (nI d) u5) (fun r7 u7 => (if r7 = 0 then some (Sum.inr ((0 : Int32), u7)) else gob u7.1 (gR u7 63 3) l0 (obind (f_X0_add (gR u7 63 3) p (0 : Int32) (0 : Int32) u7) (fun _ u10 => some (Sum.inl (x + (1 : Int32), u10))))))))))
    (hp : ((p <<< ((16 : Int32) &&& 31)) ||| ((0 : Int32) <<< ((8 : Int32) &&& 31))) ||| (0 : Int32) = nI (iC tk)) (htk : tk = 10001 ∨ tk = 10002)
    (hA : ∀ W X W1 S1, fin k W X W1 S1 → gd k W → stl s W1 S1 = (W, X)) (hB : ∀ W X W1 S1, gd k W → fin (k + 1) (s :: W) X W1 S1 → fin k W (X ++ [tk]) W1 S1) (hG : ∀ W, gd k W → gd (k + 1) (s :: W)) (hG2 : ∀ W, gd k W → gd (k + 1) W) (hC : ∀ W X W1 S1, gd k W → fin (k + 1) W X W1 S1 → fin k W X W1 S1)
    (hF : ∀ a, a ≤ m → OUT T m n (k + 1) d a) (hS : ∀ v, f_X3_rec (n + 1) k (nI d) v = obind (f_X3_rec n (k + 1) (nI d) v) (fun r1 u1 => (if r1 = 0 then some ((0 : Int32), u1) else whileO (fun s => Lf s.1 s.2) FUEL ((0 : Int32), u1)))) (ha : a ≤ m) : OUT T m (n + 1) k d a := by
  obtain ⟨ok1, a1, t1, p1, p2, p3, p4, p5⟩ := hF a ha
  cases ok1 with
  | false =>
    refine ⟨false, a1, [], p1, p2, fun z => (by cases z), fun u b q C v hU h hCl => ⟨fun z => (by cases z), fun _ => ?_⟩, fun y sb c W S z hc h hg ho hb => ?_⟩
    · obtain ⟨v', C', e1, e2, e3⟩ := (p4 u b q C v hU h hCl).2 rfl
      exact ⟨v', C', by rw [hS, obind_of e1]; rfl, e2, e3⟩
    · have := (p5 y sb c W S z hc h (hG2 W hg) ho hb).2 rfl
      exact ⟨fun z => (by cases z), fun _ => this⟩
  | true =>
    obtain ⟨s1, s2, s3, -, s5⟩ := p3 rfl
    obtain ⟨ok2, a2, more, i1, i2, i3, i4, i5⟩ := opLoop hm hT hk hs Lf hL hp htk hA hB hG hF (m - a1) a1 (Nat.le_refl _) p2 (fun h0 => s3 (by omega))
    refine ⟨ok2, a2, t1 ++ more, by omega, i2, fun hok => ?_, fun u b q C v hU h hCl => ?_, fun y sb c W S z hc h hg ho hb => ?_⟩
    · obtain ⟨w1, w2, w3, w4⟩ := i3 hok
      refine ⟨by rw [List.length_append]; omega, by omega, fun _ => ?_, fun h0 => ?_, fun R e he hR => ?_⟩
      · have hk01 : k = 0 ∨ k = 1 := by omega
        rcases hk01 with h0 | h1
        · exact w3 h0
        · rw [hks.1 h1] at w2
          exact w2
      · rw [hks.2 h0] at w2
        exact w2
      · rw [List.append_assoc]
        exact s5 (more ++ R) e (by omega) (w4 R e he hR)
    · obtain ⟨v', e1, e3⟩ := (p4 u b q C v hU h hCl).1 rfl
      obtain ⟨g1, g2⟩ := i4 u b q (C ++ t1) v' 0 FUEL hU e3 (by rw [List.length_append]; omega) (Nat.zero_le _) (by show _ < 5000; omega)
      refine ⟨fun hok => ?_, fun hok => ?_⟩
      · obtain ⟨v3, h1, h2⟩ := g1 hok
        refine ⟨v3, ?_, by rw [← List.append_assoc]; exact h2⟩
        rw [hS, obind_of e1, if_neg (show ¬ (1 : Int32) = 0 by decide)]
        exact h1
      · obtain ⟨v3, C', h1, h2⟩ := g2 hok
        refine ⟨v3, C', ?_, h2⟩
        rw [hS, obind_of e1, if_neg (show ¬ (1 : Int32) = 0 by decide)]
        exact h1
    · obtain ⟨j, W', S', z', f1, f2, f3, f4, f5⟩ := (p5 y sb c W S z hc h (hG2 W hg) ho hb).1 rfl
      have hgo := i5 y sb c W (S ++ t1) W' S' z' hc f3 (hC W (S ++ t1) W' S' hg f4) hg ho f5
      rw [← List.append_assoc]
      exact RGo.pre (a1 := a1) f2 f1 (by omega) (by omega) hgo
theorem chainL {T : Nat → Nat} {m n d a : Nat} (hm : m ≤ 100) (hT : ∀ i, i < m → T i < 128) (ha : a ≤ m) (hF : ∀ a, a ≤ m → OUT T m n 2 d a) : OUT T m (n + 1) 1 d a := by
  refine opL (s := 38) (tk := 10001) (p := 6) hm hT (by decide) (Or.inl rfl) ⟨fun _ => rfl, fun h => absurd h (by decide)⟩ (fun x v => f_X3_readChain_L12 (f_X3_rec n) (nI d) x v) (fun x v => rfl) (by decide) (Or.inl rfl) ?_ ?_ ?_ ?_ ?_ hF (fun v => rfl) ha
  · intro W X W1 S1 hf hg
    obtain ⟨g1, g2⟩ := hg.1 (by decide)
    rcases fin_1.mp hf with ⟨rfl, rfl⟩ | ⟨rfl, e⟩
    · exact stl_stop g2 (Or.inr rfl)
    · show stl 38 (38 :: W) S1 = _
      unfold stl
      rw [if_pos rfl, e]
      exact stl_stop g2 (Or.inr rfl)
  · intro W X W1 S1 hg hf
    have hf := fin_2.mp hf
    rw [whl_stop (show (38 :: W).headD 0 ≠ 33 from (show 38 ≠ 33 by decide))] at hf
    cases hf
    exact fin_1.mpr (Or.inr ⟨rfl, rfl⟩)
  · intro W hg
    exact ⟨fun h => absurd h (by decide), fun h => absurd h (by decide)⟩
  · intro W hg
    exact ⟨fun h => absurd h (by decide), fun h => absurd h (by decide)⟩
  · intro W X W1 S1 hg hf
    have hf := fin_2.mp hf
    rw [whl_stop (hg.1 (by decide)).1] at hf
    cases hf
    exact fin_1.mpr (Or.inl ⟨rfl, rfl⟩)
theorem choiceL {T : Nat → Nat} {m n d a : Nat} (hm : m ≤ 100) (hT : ∀ i, i < m → T i < 128) (ha : a ≤ m) (hF : ∀ a, a ≤ m → OUT T m n 1 d a) : OUT T m (n + 1) 0 d a := by
  refine opL (s := 124) (tk := 10002) (p := 7) hm hT (by decide) (Or.inr rfl) ⟨fun h => absurd h (by decide), fun _ => rfl⟩ (fun x v => f_X3_readChoice_L12 (f_X3_rec n) (nI d) x v) (fun x v => rfl) (by decide) (Or.inr rfl) ?_ ?_ ?_ ?_ ?_ hF (fun v => rfl) ha
  · intro W X W1 S1 hf hg
    exact fin_0.mp hf
  · intro W X W1 S1 hg hf
    obtain ⟨g1, g2⟩ := hg.1 (by decide)
    have g3 := hg.2 rfl
    have key : stl 124 (124 :: W) X = (W, X ++ [10002]) := by
      unfold stl
      rw [if_neg (by decide), if_pos rfl, if_neg (by decide)]
      exact stl_stop g2 (Or.inl g3)
    rcases fin_1.mp hf with ⟨rfl, rfl⟩ | ⟨rfl, e⟩
    · exact fin_0.mpr key
    · refine fin_0.mpr ?_
      unfold stl
      rw [if_pos rfl, e]
      exact key
  · intro W hg
    exact ⟨fun _ => ⟨show 124 ≠ 33 by decide, show 124 ≠ 38 by decide⟩, fun h => absurd h (by decide)⟩
  · intro W hg
    exact ⟨fun _ => hg.1 (by decide), fun h => absurd h (by decide)⟩
  · intro W X W1 S1 hg hf
    obtain ⟨g1, g2⟩ := hg.1 (by decide)
    have g3 := hg.2 rfl
    rcases fin_1.mp hf with ⟨rfl, rfl⟩ | ⟨rfl, e⟩
    · exact fin_0.mpr (stl_stop g2 (Or.inl g3))
    · refine fin_0.mpr ?_
      unfold stl
      rw [if_pos rfl, e]
      exact stl_stop g2 (Or.inl g3)
theorem PAR {T : Nat → Nat} {m : Nat} (hm : m ≤ 100) (hT : ∀ i, i < m → T i < 128) : ∀ n k d a, k ≤ 2 → d ≤ 4 → 3 * (4 - d) + 3 ≤ n + k → a ≤ m → OUT T m n k d a := by
  intro n
  induction n with
  | zero =>
    intro k d a hk hd hn ha
    omega
  | succ n ih =>
    intro k d a hk hd hn ha
    have hk3 : k = 0 ∨ k = 1 ∨ k = 2 := by omega
    rcases hk3 with rfl | rfl | rfl
    · exact choiceL hm hT ha (fun a ha => ih 1 d a (by decide) hd (by omega) ha)
    · exact chainL hm hT ha (fun a ha => ih 2 d a (by decide) hd (by omega) ha)
    · exact factorL hm hT hd ha (fun h4 a ha => ih 0 (d + 1) a (by decide) (by omega) (by omega) ha) (fun h4 a ha => ih 2 (d + 1) a (by decide) (by omega) (by omega) ha)
