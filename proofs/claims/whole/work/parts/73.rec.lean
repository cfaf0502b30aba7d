/-! ONE E, read by both: the same signs are taken, the same tokens put -/
def gd (k : Nat) (W : List Nat) : Prop := (k ≤ 1 → W.headD 0 ≠ 33 ∧ W.headD 0 ≠ 38) ∧ (k = 0 → W.headD 0 ≠ 124)
def fin (k : Nat) (W X W' S' : List Nat) : Prop := if k = 2 then (W', S') = whl W X else if k = 1 then (W' = W ∧ S' = X) ∨ (W' = 38 :: W ∧ S' ++ [10001] = X) else stl 124 W' S' = (W, X)
def bd (sb a : Nat) (W S : List Nat) : Prop := sb + S.length + W.length ≤ 500 + a ∧ S.length + W.length ≤ a
def CRel (T : Nat → Nat) (m : Nat) (A : Mem → Option (Int32 × Mem)) (a : Nat) (ok : Bool) (a' : Nat) (tks : List Nat) : Prop := ∀ u b s C v, CU u b → CB u b T m a s C v → C.length ≤ a → (ok = true → ∃ v', A v = some (1, v') ∧ CB u b T m a' s (C ++ tks) v') ∧ (ok = false → ∃ v' C', A v = some (0, v') ∧ C'.length ≤ 100 ∧ CB u b T m a' s C' v')
def RGo (T : Nat → Nat) (m c : Nat) (y : Mem) (sb k : Nat) (x : Int32) (z : Mem) (a : Nat) (ok : Bool) (a' : Nat) (W X : List Nat) : Prop :=
  (ok = true → ∃ j W' S' z', j ≤ a' - a ∧ (∀ n0, whileO (Eb c) (n0 + j) (x, z) = whileO (Eb c) n0 (0, z')) ∧ MB y T m sb c a' W' S' z' ∧ fin k W X W' S' ∧ bd sb a' W' S') ∧ (ok = false → ∃ z', (∀ n0, a' - a < n0 → whileO (Eb c) n0 (x, z) = some (0, z')) ∧ MX y T m sb c a' z')
def RRel (T : Nat → Nat) (m k d a : Nat) (ok : Bool) (a' : Nat) (tks : List Nat) : Prop := ∀ y sb c W S z, c < 60 → MB y T m sb c a W S z → gd k W → opn W = d → bd sb a W S → RGo T m c y sb k 1 z a ok a' W (S ++ tks)
def TG (lim d : Nat) (tks : List Nat) : Prop := ∀ R e, e + 2 * (4 - d) ≤ lim → tkG R (e + 1) = true → tkG (tks ++ R) e = true
def TGL (lim d : Nat) (more : List Nat) : Prop := ∀ R e, e + 2 * (4 - d) ≤ lim → tkG R (e + 1) = true → tkG (more ++ R) (e + 1) = true
def OUT (T : Nat → Nat) (m n k d a : Nat) : Prop := ∃ ok a' tks, a ≤ a' ∧ a' ≤ m ∧ (ok = true → a + tks.length ≤ a' ∧ a < a' ∧ (k ≤ 1 → nx T m a' ≠ 38) ∧ (k = 0 → nx T m a' ≠ 124) ∧ TG (18 + k) d tks) ∧ CRel T m (f_X3_rec n k (nI d)) a ok a' tks ∧ RRel T m k d a ok a' tks
theorem RGo.pre {T : Nat → Nat} {m c sb k a a1 a' j : Nat} {y z z1 : Mem} {x x1 : Int32} {ok : Bool} {W X : List Nat} (hr : ∀ n0, whileO (Eb c) (n0 + j) (x, z) = whileO (Eb c) n0 (x1, z1)) (hj : j ≤ a1 - a) (h1 : a ≤ a1) (h2 : a1 ≤ a') (h : RGo T m c y sb k x1 z1 a1 ok a' W X) : RGo T m c y sb k x z a ok a' W X := by
  refine ⟨fun hok => ?_, fun hok => ?_⟩
  · obtain ⟨j1, W', S', z', q1, q2, q3⟩ := h.1 hok
    refine ⟨j1 + j, W', S', z', by omega, fun n0 => ?_, q3⟩
    rw [← Nat.add_assoc, hr, q2]
  · obtain ⟨z', q1, q2⟩ := h.2 hok
    refine ⟨z', fun n0 hn => ?_, q2⟩
    obtain ⟨n1, rfl⟩ : ∃ n1, n0 = n1 + j := ⟨n0 - j, by omega⟩
    rw [hr]
    exact q1 n1 (by omega)
theorem reach1 {c : Nat} {x x1 : Int32} {z z1 : Mem} (h : Eb c (x, z) = some (.inl (x1, z1))) : ∀ n0, whileO (Eb c) (n0 + 1) (x, z) = whileO (Eb c) n0 (x1, z1) := fun _ => whileO_inl h
theorem RGo.fail {T : Nat → Nat} {m c sb k a a' : Nat} {y z z' : Mem} {x : Int32} {W X : List Nat} (h : Eb c (x, z) = some (.inr (0, z'))) (hx : MX y T m sb c a' z') : RGo T m c y sb k x z a false a' W X := by
  refine ⟨fun hok => (by cases hok), fun _ => ⟨z', fun n0 hn => ?_, hx⟩⟩
  obtain ⟨n1, rfl⟩ : ∃ n1, n0 = n1 + 1 := ⟨n0 - 1, by omega⟩
  exact whileO_inr h
theorem stl_stop {s : Nat} {W X : List Nat} (h1 : W.headD 0 ≠ 38) (h2 : W.headD 0 ≠ 124 ∨ s = 38) : stl s W X = (W, X) := by
  cases W with
  | nil => rfl
  | cons x r =>
    have h1 : x ≠ 38 := h1
    unfold stl
    rw [if_neg h1]
    rcases h2 with h2 | h2
    · have h2 : x ≠ 124 := h2
      rw [if_neg h2]
    · by_cases q : x = 124
      · rw [if_pos q, if_pos h2]
      · rw [if_neg q]
theorem whl_stop {W X : List Nat} (h1 : W.headD 0 ≠ 33) : whl W X = (W, X) := by
  cases W with
  | nil => rfl
  | cons x r =>
    have h1 : x ≠ 33 := h1
    unfold whl
    rw [if_neg h1]
theorem fin_2 {W X W' S' : List Nat} : fin 2 W X W' S' ↔ (W', S') = whl W X := Iff.rfl
theorem fin_1 {W X W' S' : List Nat} : fin 1 W X W' S' ↔ ((W' = W ∧ S' = X) ∨ (W' = 38 :: W ∧ S' ++ [10001] = X)) := Iff.rfl
theorem fin_0 {W X W' S' : List Nat} : fin 0 W X W' S' ↔ stl 124 W' S' = (W, X) := Iff.rfl
/-! a factor -/
theorem factorL {T : Nat → Nat} {m n d a : Nat} (hm : m ≤ 100) (hT : ∀ i, i < m → T i < 128) (hd : d ≤ 4) (ha : a ≤ m) (hO : d < 4 → ∀ a, a ≤ m → OUT T m n 0 (d + 1) a) (hN : d < 4 → ∀ a, a ≤ m → OUT T m n 2 (d + 1) a) : OUT T m (n + 1) 2 d a := by
  have hrec : ∀ v, f_X3_rec (n + 1) 2 (nI d) v = f_X3_readFactor_S (f_X3_rec n) (nI d) v := fun _ => rfl
  have htest : (∀ v, TV T m a v → f_X3_rec (n + 1) 2 (nI d) v = obind (f_X3_readTest v) (fun r2 u2 => gbo r2 (some (r2, u2)))) → ((nx T m a = 33 ∨ nx T m a = 40) → d = 4) → OUT T m (n + 1) 2 d a := by
    intro hv h4
    rcases testL hm hT a ha with ⟨k, a', q1, q2, q3, q4, q5, q6, q7, q8⟩ | ⟨a', q1, q2, q3, q4, q5⟩
    · refine ⟨true, a', [k], by omega, q2, fun _ => ⟨by simp only [List.length_cons, List.length_nil]; omega, by omega, fun h => absurd h (by decide), fun h => absurd h (by decide), fun R e he hR => ?_⟩, fun u b s C v hU h hC => ⟨fun _ => ?_, fun z => (by cases z)⟩, fun y sb c W S z hc h hg ho hb => ⟨fun _ => ?_, fun z => (by cases z)⟩⟩
      · show tkG (k :: R) e = true
        unfold tkG
        rw [if_neg (by omega), if_neg (by omega), hR, decide_eq_true q3, decide_eq_true q4, decide_eq_true (show e < 24 by omega)]
        rfl
      · obtain ⟨v', e1, e2⟩ := q7 u b s C v hU h (by omega)
        exact ⟨v', by rw [hv v h.2.2.1, obind_of e1]; exact gbo_1, e2⟩
      · obtain ⟨z', e1, e2⟩ := q8 y sb c W S z h (by have := hb.1; omega) (by have := hb.2; omega)
        have hst := stepTest (b := true) h q5 q6 e1
        rw [if_pos rfl] at hst
        have hl := whl_len W (S ++ [k])
        rw [List.length_append] at hl
        simp only [List.length_cons, List.length_nil] at hl
        exact ⟨1, _, _, z', by omega, reach1 hst, e2, rfl, ⟨by have := hb.1; omega, by have := hb.2; omega⟩⟩
    · refine ⟨false, a', [], q1, q2, fun z => (by cases z), fun u b s C v hU h hC => ⟨fun z => (by cases z), fun _ => ?_⟩, fun y sb c W S z hc h hg ho hb => ?_⟩
      · obtain ⟨v', e1, e2⟩ := q4 u b s C v hU h
        exact ⟨v', C, by rw [hv v h.2.2.1, obind_of e1]; exact gbo_0, by omega, e2⟩
      · by_cases hx : nx T m a = 33 ∨ nx T m a = 40
        · rw [q3 hx]
          exact RGo.fail (stepOpenF h hx (by rw [ho]; exact h4 hx)) h.1
        · obtain ⟨z', e1, e2⟩ := q5 y sb c W S z h
          have hst := stepTest (b := false) h (fun q => hx (Or.inl q)) (fun q => hx (Or.inr q)) e1
          rw [if_neg (by decide)] at hst
          exact RGo.fail hst e2.1
  by_cases hd4 : d = 4
  · refine htest (fun v hv => ?_) (fun _ => hd4)
    rw [hrec]
    unfold f_X3_readFactor_S
    rw [if_pos (by (simp (disch := omega) only [le_I, lt_I, eq_I, nI_toInt, Int32.reduceToInt, ne_eq] <;> omega))]
  · have hd3 : d < 4 := by omega
    have hnd : ¬ (4 : Int32) ≤ nI d := by (simp (disch := omega) only [le_I, lt_I, eq_I, nI_toInt, Int32.reduceToInt, ne_eq] <;> omega)
    by_cases h40 : nx T m a = 40
    · have ham := nx_nn (c := 40) h40 (by decide)
      obtain ⟨ok1, a1, t1, p1, p2, p3, p4, p5⟩ := hO hd3 (a + 1) ham
      have hcl : ∀ v, TV T m a v → f_X3_rec (n + 1) 2 (nI d) v = obind (f_X3_rec n 0 (nI (d + 1)) (sI v 63 2 (nI (a + 1)))) (fun r14 u14 => (if r14 = 0 then some ((0 : Int32), u14) else obind (f_X3_skip (41 : Int32) u14) (fun r16 u16 => (if r16 = 0 then some ((0 : Int32), u16) else some ((1 : Int32), u16))))) := by
        intro v hv
        rw [hrec]
        unfold f_X3_readFactor_S
        rw [if_neg hnd, skipC hv, if_pos h40, obind_some, if_neg (show ¬ (1 : Int32) = 0 by decide), nI_1]
      have hrf : ∀ y sb c W S z, c < 60 → MB y T m sb c a W S z → opn W = d → bd sb a W S → ∃ z1, Eb c (1, z) = some (.inl (1, z1)) ∧ RGo T m c y sb 0 1 z1 (a + 1) ok1 a1 (40 :: W) (S ++ t1) := by
        intro y sb c W S z hc h ho hb
        obtain ⟨z1, e1, e2⟩ := stepOpen (c := c) (s := 40) (Or.inr rfl) h h40 (by omega) (by have := hb.2; omega)
        refine ⟨z1, e1, p5 y sb c (40 :: W) S z1 hc e2 ⟨fun _ => ⟨show 40 ≠ 33 by decide, show 40 ≠ 38 by decide⟩, fun _ => show 40 ≠ 124 by decide⟩ ?_ ⟨?_, ?_⟩⟩
        · show 1 + opn W = d + 1
          omega
        · have := hb.1
          rw [List.length_cons]
          omega
        · have := hb.2
          rw [List.length_cons]
          omega
      cases ok1 with
      | false =>
        refine ⟨false, a1, [], by omega, p2, fun z => (by cases z), fun u b s C v hU h hC => ⟨fun z => (by cases z), fun _ => ?_⟩, fun y sb c W S z hc h hg ho hb => ?_⟩
        · obtain ⟨v', C', e1, e2, e3⟩ := (p4 u b s C _ hU (h.lv hU (LV.go v (a + 1)) ham) (by omega)).2 rfl
          refine ⟨v', C', ?_, e2, e3⟩
          rw [hcl v h.2.2.1, obind_of e1]
          rfl
        · obtain ⟨z1, e1, e2⟩ := hrf y sb c W S z hc h ho hb
          have := e2.2 rfl
          exact RGo.pre (a1 := a + 1) (reach1 e1) (by omega) (by omega) (by omega) ⟨fun z => (by cases z), fun _ => this⟩
      | true =>
        obtain ⟨s1, s2, s3, s4, s5⟩ := p3 rfl
        by_cases h41 : nx T m a1 = 41
        · have ha1 := nx_nn (c := 41) h41 (by decide)
          refine ⟨true, a1 + 1, t1, by omega, ha1, fun _ => ⟨by omega, by omega, fun h => absurd h (by decide), fun h => absurd h (by decide), fun R e he hR => s5 R e (by omega) hR⟩, fun u b s C v hU h hC => ⟨fun _ => ?_, fun z => (by cases z)⟩, fun y sb c W S z hc h hg ho hb => ?_⟩
          · obtain ⟨v', e1, e2⟩ := (p4 u b s C _ hU (h.lv hU (LV.go v (a + 1)) ham) (by omega)).1 rfl
            refine ⟨sI v' 63 2 (nI (a1 + 1)), ?_, e2.lv hU (LV.go v' (a1 + 1)) ha1⟩
            rw [hcl v h.2.2.1, obind_of e1, if_neg (show ¬ (1 : Int32) = 0 by decide), skipC e2.2.2.1, if_pos h41, obind_some, if_neg (show ¬ (1 : Int32) = 0 by decide)]
          · obtain ⟨z1, e1, e2⟩ := hrf y sb c W S z hc h ho hb
            obtain ⟨j, W', S', z', f1, f2, f3, f4, f5⟩ := e2.1 rfl
            obtain ⟨z2, g1, g2, g3, g4, g5⟩ := stepEnd hc f3 (s3 (by decide)) (s4 rfl) (fin_0.mp f4) (by have := f5.1; omega) (by have := f5.2; omega)
            obtain ⟨z3, g6, g7⟩ := g5 W rfl h41
            have hl := whl_len W (S ++ t1)
            have hl2 := stl_len 124 W' S'
            rw [fin_0.mp f4] at hl2
            have hl2 : (W.length + 1) + (S ++ t1).length = W'.length + S'.length := hl2
            refine RGo.pre (a1 := a + 1) (reach1 e1) (by omega) (by omega) (by omega) (RGo.pre (a1 := a1) f2 f1 (by omega) (by omega) ⟨fun _ => ⟨1, _, _, z3, by omega, reach1 g6, g7, rfl, ?_, ?_⟩, fun z => (by cases z)⟩)
            · have := f5.1
              omega
            · have := f5.2
              omega
        · refine ⟨false, a1, [], by omega, p2, fun z => (by cases z), fun u b s C v hU h hC => ⟨fun z => (by cases z), fun _ => ?_⟩, fun y sb c W S z hc h hg ho hb => ?_⟩
          · obtain ⟨v', e1, e2⟩ := (p4 u b s C _ hU (h.lv hU (LV.go v (a + 1)) ham) (by omega)).1 rfl
            refine ⟨v', C ++ t1, ?_, ?_, e2⟩
            · rw [hcl v h.2.2.1, obind_of e1, if_neg (show ¬ (1 : Int32) = 0 by decide), skipC e2.2.2.1, if_neg h41, obind_some, if_pos rfl]
            · rw [List.length_append]
              omega
          · obtain ⟨z1, e1, e2⟩ := hrf y sb c W S z hc h ho hb
            obtain ⟨j, W', S', z', f1, f2, f3, f4, f5⟩ := e2.1 rfl
            obtain ⟨z2, g1, g2, g3, g4, g5⟩ := stepEnd hc f3 (s3 (by decide)) (s4 rfl) (fin_0.mp f4) (by have := f5.1; omega) (by have := f5.2; omega)
            exact RGo.pre (a1 := a + 1) (reach1 e1) (by omega) (by omega) (by omega) (RGo.pre (a1 := a1) f2 f1 (by omega) (by omega) (RGo.fail (g4 (by simp) h41) g1.1))
    · by_cases h33 : nx T m a = 33
      · have ham := nx_nn (c := 33) h33 (by decide)
        obtain ⟨ok1, a1, t1, p1, p2, p3, p4, p5⟩ := hN hd3 (a + 1) ham
        have hcl : ∀ v, TV T m a v → f_X3_rec (n + 1) 2 (nI d) v = obind (f_X3_rec n 2 (nI (d + 1)) (sI v 63 2 (nI (a + 1)))) (fun r10 u10 => gob u10.1 (gR u10 63 3) l0 (obind (f_X0_add (gR u10 63 3) (8 : Int32) (0 : Int32) (0 : Int32) u10) (fun _ u12 => gbo r10 (some (r10, u12))))) := by
          intro v hv
          rw [hrec]
          unfold f_X3_readFactor_S
          rw [if_neg hnd, skipC hv, if_neg h40, obind_some, if_pos (show (0 : Int32) = 0 from rfl), skipC hv, if_pos h33, obind_some, if_neg (show ¬ (1 : Int32) = 0 by decide), nI_1]
        have hrf : ∀ y sb c W S z, c < 60 → MB y T m sb c a W S z → opn W = d → bd sb a W S → ∃ z1, Eb c (1, z) = some (.inl (1, z1)) ∧ RGo T m c y sb 2 1 z1 (a + 1) ok1 a1 (33 :: W) (S ++ t1) := by
          intro y sb c W S z hc h ho hb
          obtain ⟨z1, e1, e2⟩ := stepOpen (c := c) (s := 33) (Or.inl rfl) h h33 (by omega) (by have := hb.2; omega)
          refine ⟨z1, e1, p5 y sb c (33 :: W) S z1 hc e2 ⟨fun h => absurd h (by decide), fun h => absurd h (by decide)⟩ ?_ ⟨?_, ?_⟩⟩
          · show 1 + opn W = d + 1
            omega
          · have := hb.1
            rw [List.length_cons]
            omega
          · have := hb.2
            rw [List.length_cons]
            omega
        cases ok1 with
        | false =>
          refine ⟨false, a1, [], by omega, p2, fun z => (by cases z), fun u b s C v hU h hC => ⟨fun z => (by cases z), fun _ => ?_⟩, fun y sb c W S z hc h hg ho hb => ?_⟩
          · obtain ⟨v', C', e1, e2, e3⟩ := (p4 u b s C _ hU (h.lv hU (LV.go v (a + 1)) ham) (by omega)).2 rfl
            have e : gR v' 63 3 = b := by rw [e3.2.1]; exact hU.1
            have hgo : ∀ v2, f_X0_add b (8 : Int32) (0 : Int32) (0 : Int32) v' = some ((), v2) → f_X3_rec (n + 1) 2 (nI d) v = some (0, v2) := by
              intro v2 h2
              rw [hcl v h.2.2.1, obind_of e1, e, gob_t (by rw [e3.1.1]; exact hU.2.1), obind_of h2]
              exact gbo_0
            by_cases h100 : C'.length < 100
            · obtain ⟨v2, f1, f2⟩ := e3.add hU h100 (p1 := 8) (p2 := 0) (p3 := 0) (k := 10003) (by decide)
              exact ⟨v2, C' ++ [10003], hgo v2 f1, by rw [List.length_append]; simp only [List.length_cons, List.length_nil]; omega, f2⟩
            · refine ⟨v', C', hgo v' ?_, e2, e3⟩
              unfold f_X0_add
              rw [e3.2.2.2.1, if_pos (by (simp (disch := omega) only [le_I, lt_I, eq_I, nI_toInt, Int32.reduceToInt, ne_eq] <;> omega))]
          · obtain ⟨z1, e1, e2⟩ := hrf y sb c W S z hc h ho hb
            have := e2.2 rfl
            exact RGo.pre (a1 := a + 1) (reach1 e1) (by omega) (by omega) (by omega) ⟨fun z => (by cases z), fun _ => this⟩
        | true =>
          obtain ⟨s1, s2, s3, s4, s5⟩ := p3 rfl
          refine ⟨true, a1, t1 ++ [10003], by omega, p2, fun _ => ⟨by rw [List.length_append]; simp only [List.length_cons, List.length_nil]; omega, by omega, fun h => absurd h (by decide), fun h => absurd h (by decide), fun R e he hR => ?_⟩, fun u b s C v hU h hC => ⟨fun _ => ?_, fun z => (by cases z)⟩, fun y sb c W S z hc h hg ho hb => ?_⟩
          · rw [List.append_assoc]
            refine s5 ([10003] ++ R) e (by omega) ?_
            show tkG (10003 :: R) (e + 1) = true
            unfold tkG
            rw [if_pos rfl, hR, decide_eq_true (by omega)]
            rfl
          · obtain ⟨v', e1, e3⟩ := (p4 u b s C _ hU (h.lv hU (LV.go v (a + 1)) ham) (by omega)).1 rfl
            have e : gR v' 63 3 = b := by rw [e3.2.1]; exact hU.1
            obtain ⟨v2, f1, f2⟩ := e3.add hU (by rw [List.length_append]; omega) (p1 := 8) (p2 := 0) (p3 := 0) (k := 10003) (by decide)
            refine ⟨v2, ?_, by rw [← List.append_assoc]; exact f2⟩
            rw [hcl v h.2.2.1, obind_of e1, e, gob_t (by rw [e3.1.1]; exact hU.2.1), obind_of f1]
            exact gbo_1
          · obtain ⟨z1, e1, e2⟩ := hrf y sb c W S z hc h ho hb
            obtain ⟨j, W', S', z', f1, f2, f3, f4, f5⟩ := e2.1 rfl
            refine RGo.pre (a1 := a + 1) (reach1 e1) (by omega) (by omega) (by omega) ⟨fun _ => ⟨j, W', S', z', f1, f2, f3, ?_, f5⟩, fun z => (by cases z)⟩
            rw [← List.append_assoc]
            exact f4
      · refine htest (fun v hv => ?_) (fun h => ?_)
        · rw [hrec]
          unfold f_X3_readFactor_S
          rw [if_neg hnd, skipC hv, if_neg h40, obind_some, if_pos (show (0 : Int32) = 0 from rfl), skipC hv, if_neg h33, obind_some, if_pos (show (0 : Int32) = 0 from rfl)]
        · rcases h with h | h
          · exact absurd h h33
          · exact absurd h h40
