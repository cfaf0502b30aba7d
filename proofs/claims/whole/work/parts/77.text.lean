/-! THE TEXT, clause by clause -/
def CLn (z : Mem) (x lim : Nat) (c : Nat × Nat × List Nat) : Prop := gA z 92 x = nI c.1 ∧ gA z 93 x = nI c.2.1 ∧ (c.1 ≠ 2 → ∃ p, p + c.2.2.length ≤ lim ∧ gA z 94 x = nI p ∧ gA z 95 x = nI (p + c.2.2.length) ∧ ∀ j, j < c.2.2.length → gA z 96 (p + j) = sg (c.2.2.getD j 0))
def RF (T : Nat → Nat) (m : Nat) (y : Mem) (B a : Nat) (z : Mem) : Prop := Agr (fun x => x ≠ 82 ∧ ¬ (91 ≤ x ∧ x ≤ 97)) FE y z ∧ TZ T m a z ∧ (∀ x, x ≠ B → gA z 91 x = gA y 91 x) ∧ (∀ x, x < 10 * B → gA z 92 x = gA y 92 x ∧ gA z 93 x = gA y 93 x ∧ gA z 94 x = gA y 94 x ∧ gA z 95 x = gA y 95 x) ∧ ∀ i, i < 100 * B → gA z 96 i = gA y 96 i
def RT (T : Nat → Nat) (m : Nat) (y : Mem) (B a : Nat) (pg : gPg) (z : Mem) : Prop := RF T m y B a z ∧ ∃ n0, n0 ≤ a ∧ gI z 82 25 = nI (100 * B + n0) ∧ ∀ c, c < pg.length → CLn z (10 * B + c) (100 * B + n0) (pg.getD c (2, 5, []))
theorem RF.kf {T : Nat → Nat} {m : Nat} {y z z' : Mem} {B a a' sb c : Nat} (h : RF T m y B a z) (hk : KF T m sb c a' z z') (hs : 100 * B ≤ sb) (hc : 10 * B ≤ c) : RF T m y B a' z' := by
  obtain ⟨h1, h2, h3, h4, h5⟩ := h
  obtain ⟨k1, k2, k3, k4⟩ := hk
  refine ⟨h1.trans (k1.mono (fun x hx => by omega) (fun _ h => h)), k2, fun x hx => ?_, fun x hx => ?_, fun i hi => ?_⟩
  · rw [k1.A (x := 91) (by decide)]; exact h3 x hx
  · obtain ⟨q1, q2, q3, q4⟩ := k3 x (by omega)
    rw [q1, q2, q3, q4]
    exact h4 x hx
  · rw [k4 i (by omega)]; exact h5 i hi
theorem getD_appP {L : gPg} {b d : Nat × Nat × List Nat} {j : Nat} (hj : j < L.length + 1) : (L ++ [b]).getD j d = if j < L.length then L.getD j d else b := by
  simp only [List.getD_eq_getElem?_getD]
  by_cases h : j < L.length
  · rw [if_pos h, List.getElem?_append_left h]
  · have : j = L.length := by omega
    rw [if_neg h, List.getElem?_append_right (by omega), this]
    simp
theorem iS_app (pg : gPg) (cl : Nat × Nat × List Nat) : iS (pg ++ [cl]) = iS pg ++ st1 cl := by
  unfold iS st1
  rw [List.flatMap_append]
  congr 1
  simp only [List.flatMap_cons, List.flatMap_nil, List.append_nil]
theorem pgS_app (pg : gPg) (cl : Nat × Nat × List Nat) : pgS (pg ++ [cl]) = sl1 cl (pgS pg) := by
  unfold pgS sl1
  rw [List.foldl_append]
  rfl
theorem textStep {T : Nat → Nat} {m : Nat} (hm : m ≤ 100) (hT : ∀ i, i < m → T i < 128) (a : Nat) (pg : gPg) (hl : pg.length ≤ 9) (ha : a ≤ m) (hpg : pgOK pg) : ∃ (w a' : Nat) (pg' : gPg), a ≤ a' ∧ a' ≤ m ∧ (w = 2 → pg.length < 9) ∧ (w ≠ 0 → pgOK pg' ∧ pg'.length = pg.length + 1 ∧ ((iS pg).length ≤ a → (iS pg').length ≤ a')) ∧
    (∀ u b v, CU u b → CB u b T m a (pgS pg) (iS pg) v → (iS pg).length ≤ a → ∃ v' s' C', f_X3_readText_L14 (nI (pg.length + 1)) v = some (if w = 2 then .inl (nI (pg.length + 2), v') else .inr ((if w = 1 then 1 else 0), v')) ∧ CB u b T m a' s' C' v' ∧ (w ≠ 0 → s' = pgS pg' ∧ C' = iS pg')) ∧
    (∀ y B z, B < 6 → (∀ i, i < 14 → gA y 98 i = letM i) → RT T m y B a pg z → ∃ z', f_X8_goesText_L15 (nI B) (nI pg.length) z = some (if w = 2 then .inl (nI (pg.length + 1), z') else .inr ((if w = 1 then 1 else 0), z')) ∧ RF T m y B a' z' ∧ (w ≠ 0 → RT T m y B a' pg' z' ∧ gA z' 91 B = nI pg'.length)) := by
  obtain ⟨ok1, a1, cl, p1, p2, p3, p4, p5⟩ := clauseL hm hT ha
  have hci : ∀ B, B < 6 → (10 : Int32) * nI B + nI pg.length = nI (10 * B + pg.length) := fun B hB => by rw [show (10 : Int32) = nI 10 from rfl, nI_mul, nI_add]
  have h10 : ¬ (10 : Int32) < nI (pg.length + 1) := by (simp (disch := omega) only [le_I, lt_I, eq_I, nI_toInt, Int32.reduceToInt, ne_eq] <;> omega)
  cases ok1 with
  | false =>
    refine ⟨0, a1, [], p1, p2, fun h => absurd h (by decide), fun h => absurd rfl h, fun u b v hU h hC => ?_, fun y B z hB h98 h => ?_⟩
    · obtain ⟨v', s', C', e1, e2, e3⟩ := (p4 u b _ _ v hU h hC).2 rfl
      refine ⟨v', s', C', ?_, e3, fun h => absurd rfl h⟩
      unfold f_X3_readText_L14
      rw [if_neg h10, obind_of e1]
      rfl
    · obtain ⟨hF, n0, q1, q2, q3⟩ := h
      obtain ⟨z', e1, e2⟩ := (p5 z (100 * B + n0) (10 * B + pg.length) (by omega) (fun i hi => by rw [hF.1.A (x := 98) (by decide)]; exact h98 i hi) hF.2.1 q2 (by omega)).2 rfl
      refine ⟨z', ?_, hF.kf e2 (by omega) (by omega), fun h => absurd rfl h⟩
      unfold f_X8_goesText_L15
      rw [hci B hB, obind_of e1]
      rfl
  | true =>
    obtain ⟨s1, s2, s3, s4, s5, s6⟩ := p3 rfl
    have hpg1 : pgOK (pg ++ [cl]) := by
      intro c hc
      rcases List.mem_append.mp hc with h | h
      · exact hpg c h
      · rw [List.mem_singleton] at h
        subst h
        exact ⟨s4, s5, s6⟩
    have hl1 : (pg ++ [cl]).length = pg.length + 1 := by simp
    have hiS : (iS pg).length ≤ a → (iS (pg ++ [cl])).length ≤ a1 := fun h => by
      rw [iS_app, List.length_append]
      omega
    have hCc : ∀ u b v, CU u b → CB u b T m a (pgS pg) (iS pg) v → (iS pg).length ≤ a → ∃ v', f_X3_readClause v = some (1, v') ∧ CB u b T m a1 (pgS (pg ++ [cl])) (iS (pg ++ [cl])) v' := by
      intro u b v hU h hC
      obtain ⟨v', e1, e2⟩ := (p4 u b _ _ v hU h hC).1 rfl
      refine ⟨v', e1, ?_⟩
      rw [iS_app, pgS_app]
      exact e2
    have hMc : ∀ y B z, B < 6 → (∀ i, i < 14 → gA y 98 i = letM i) → RT T m y B a pg z → ∃ z', f_X8_takesClause (nI (10 * B + pg.length)) z = some (1, z') ∧ RT T m y B a1 (pg ++ [cl]) (sA z' 91 B (nI (pg.length + 1))) ∧ gA (sA z' 91 B (nI (pg.length + 1))) 91 B = nI (pg ++ [cl]).length := by
      intro y B z hB h98 h
      obtain ⟨hF, n0, q1, q2, q3⟩ := h
      obtain ⟨z', e1, e2, e3, e4, e5, e6⟩ := (p5 z (100 * B + n0) (10 * B + pg.length) (by omega) (fun i hi => by rw [hF.1.A (x := 98) (by decide)]; exact h98 i hi) hF.2.1 q2 (by omega)).1 rfl
      obtain ⟨g1, g2, g3, g4, g5⟩ := hF.kf e2 (by omega) (by omega)
      refine ⟨z', e1, ⟨⟨g1.sa (by omega), g2, fun x hx => ?_, fun x hx => ?_, fun i hi => ?_⟩, n0 + kl1 cl, by omega, e3.trans (by rw [Nat.add_assoc]), fun c hc => ?_⟩, by rw [gA_sA_s, upd_s, hl1]⟩
      · rw [gA_sA_s, upd_n hx]; exact g3 x hx
      · rw [gA_sA_n (by decide), gA_sA_n (by decide), gA_sA_n (by decide), gA_sA_n (by decide)]; exact g4 x hx
      · rw [gA_sA_n (by decide)]; exact g5 i hi
      · rw [hl1] at hc
        rw [getD_appP hc]
        unfold CLn
        rw [gA_sA_n (show 92 ≠ 91 by decide), gA_sA_n (show 93 ≠ 91 by decide), gA_sA_n (show 94 ≠ 91 by decide), gA_sA_n (show 95 ≠ 91 by decide), gA_sA_n (show 96 ≠ 91 by decide)]
        by_cases hcl : c < pg.length
        · rw [if_pos hcl]
          obtain ⟨w1, w2, w3⟩ := q3 c hcl
          obtain ⟨f1, f2, f3, f4⟩ := e2.2.2.1 (10 * B + c) (by omega)
          refine ⟨f1.trans w1, f2.trans w2, fun h2 => ?_⟩
          obtain ⟨p, x1, x2, x3, x4⟩ := w3 h2
          exact ⟨p, by omega, f3.trans x2, f4.trans x3, fun j hj => (e2.2.2.2 (p + j) (by omega)).trans (x4 j hj)⟩
        · have : c = pg.length := by omega
          subst this
          rw [if_neg hcl]
          refine ⟨e4, e5, fun h2 => ?_⟩
          obtain ⟨x1, x2, x3⟩ := e6 h2
          have hk : kl1 cl = cl.2.2.length := if_neg h2
          exact ⟨100 * B + n0, by omega, x1, x2, x3⟩
    by_cases ham : a1 = m
    · refine ⟨1, a1, pg ++ [cl], by omega, p2, fun h => absurd h (by decide), fun _ => ⟨hpg1, hl1, hiS⟩, fun u b v hU h hC => ?_, fun y B z hB h98 h => ?_⟩
      · obtain ⟨v', e1, e2⟩ := hCc u b v hU h hC
        refine ⟨v', _, _, ?_, e2, fun _ => ⟨rfl, rfl⟩⟩
        unfold f_X3_readText_L14
        rw [if_neg h10, obind_of e1, if_neg (show ¬ (1 : Int32) = 0 by decide), e2.2.2.1.2.2.1, e2.2.2.1.2.1, if_pos (by rw [ham])]
        rfl
      · obtain ⟨z', e1, e2, e3⟩ := hMc y B z hB h98 h
        refine ⟨_, ?_, e2.1, fun _ => ⟨e2, e3⟩⟩
        unfold f_X8_goesText_L15
        rw [hci B hB, obind_of e1, if_neg (show ¬ (1 : Int32) = 0 by decide), gin_nI hB (by decide), nI_clamp (by omega), nI_1, e2.1.2.1.2.2.1, e2.1.2.1.2.1, if_pos (by rw [ham])]
        rfl
    · have hne : ¬ nI a1 = nI m := fun q => ham ((nI_eq (by omega) (by omega)).mp q)
      by_cases h9 : pg.length = 9
      · refine ⟨0, a1, [], by omega, p2, fun h => absurd h (by decide), fun h => absurd rfl h, fun u b v hU h hC => ?_, fun y B z hB h98 h => ?_⟩
        · obtain ⟨v', e1, e2⟩ := hCc u b v hU h hC
          refine ⟨v', _, _, ?_, e2, fun h => absurd rfl h⟩
          unfold f_X3_readText_L14
          rw [if_neg h10, obind_of e1, if_neg (show ¬ (1 : Int32) = 0 by decide), e2.2.2.1.2.2.1, e2.2.2.1.2.1, if_neg hne, if_pos (by rw [h9]; rfl)]
          rfl
        · obtain ⟨z', e1, e2, e3⟩ := hMc y B z hB h98 h
          refine ⟨_, ?_, e2.1, fun h => absurd rfl h⟩
          unfold f_X8_goesText_L15
          rw [hci B hB, obind_of e1, if_neg (show ¬ (1 : Int32) = 0 by decide), gin_nI hB (by decide), nI_clamp (by omega), nI_1, e2.1.2.1.2.2.1, e2.1.2.1.2.1, if_neg hne, if_pos (by rw [h9]; rfl)]
          rfl
      · by_cases h59 : nx T m a1 = 59
        · have ha1 := nx_nn (c := 59) h59 (by decide)
          refine ⟨2, a1 + 1, pg ++ [cl], by omega, ha1, fun _ => by omega, fun _ => ⟨hpg1, hl1, fun h => by have := hiS h; omega⟩, fun u b v hU h hC => ?_, fun y B z hB h98 h => ?_⟩
          · obtain ⟨v', e1, e2⟩ := hCc u b v hU h hC
            refine ⟨sI v' 63 2 (nI (a1 + 1)), _, _, ?_, e2.lv hU (LV.go v' (a1 + 1)) ha1, fun _ => ⟨rfl, rfl⟩⟩
            unfold f_X3_readText_L14
            rw [if_neg h10, obind_of e1, if_neg (show ¬ (1 : Int32) = 0 by decide), e2.2.2.1.2.2.1, e2.2.2.1.2.1, if_neg hne, if_neg (by (simp (disch := omega) only [le_I, lt_I, eq_I, nI_toInt, Int32.reduceToInt, ne_eq] <;> omega)), skipC e2.2.2.1, if_pos h59, obind_some, if_neg (show ¬ (1 : Int32) = 0 by decide), nI_1]
            rfl
          · obtain ⟨z', e1, e2, e3⟩ := hMc y B z hB h98 h
            have hgo := LX.go (sA z' 91 B (nI (pg.length + 1))) (a1 + 1)
            have hRF : RF T m y B (a1 + 1) (sI (sA z' 91 B (nI (pg.length + 1))) 82 15 (nI (a1 + 1))) := by
              obtain ⟨⟨g1, g2, g3, g4, g5⟩, -⟩ := e2
              exact ⟨g1.trans (hgo.1.mono (fun x hx => hx.1) (fun k hk => ⟨hk.1, hk.2.1⟩)), g2.lx hgo ha1, g3, g4, g5⟩
            refine ⟨_, ?_, hRF, fun _ => ⟨⟨hRF, ?_⟩, e3⟩⟩
            · unfold f_X8_goesText_L15
              rw [hci B hB, obind_of e1, if_neg (show ¬ (1 : Int32) = 0 by decide), gin_nI hB (by decide), nI_clamp (by omega), nI_1, e2.1.2.1.2.2.1, e2.1.2.1.2.1, if_neg hne, if_neg (by (simp (disch := omega) only [le_I, lt_I, eq_I, nI_toInt, Int32.reduceToInt, ne_eq] <;> omega)), takesM e2.1.2.1, if_pos h59, obind_some, if_neg (show ¬ (1 : Int32) = 0 by decide)]
              rfl
            · obtain ⟨-, n0, q1, q2, q3⟩ := e2
              exact ⟨n0, by omega, (hgo.1.2.2 25 (by decide)).trans q2, q3⟩
        · refine ⟨0, a1, [], by omega, p2, fun h => absurd h (by decide), fun h => absurd rfl h, fun u b v hU h hC => ?_, fun y B z hB h98 h => ?_⟩
          · obtain ⟨v', e1, e2⟩ := hCc u b v hU h hC
            refine ⟨v', _, _, ?_, e2, fun h => absurd rfl h⟩
            unfold f_X3_readText_L14
            rw [if_neg h10, obind_of e1, if_neg (show ¬ (1 : Int32) = 0 by decide), e2.2.2.1.2.2.1, e2.2.2.1.2.1, if_neg hne, if_neg (by (simp (disch := omega) only [le_I, lt_I, eq_I, nI_toInt, Int32.reduceToInt, ne_eq] <;> omega)), skipC e2.2.2.1, if_neg h59, obind_some, if_pos rfl]
            rfl
          · obtain ⟨z', e1, e2, e3⟩ := hMc y B z hB h98 h
            refine ⟨_, ?_, e2.1, fun h => absurd rfl h⟩
            unfold f_X8_goesText_L15
            rw [hci B hB, obind_of e1, if_neg (show ¬ (1 : Int32) = 0 by decide), gin_nI hB (by decide), nI_clamp (by omega), nI_1, e2.1.2.1.2.2.1, e2.1.2.1.2.1, if_neg hne, if_neg (by (simp (disch := omega) only [le_I, lt_I, eq_I, nI_toInt, Int32.reduceToInt, ne_eq] <;> omega)), takesM e2.1.2.1, if_neg h59, obind_some, if_pos rfl]
            rfl
theorem textLoop {T : Nat → Nat} {m : Nat} (hm : m ≤ 100) (hT : ∀ i, i < m → T i < 128) : ∀ (r a : Nat) (pg : gPg), pg.length + r = 9 → a ≤ m → pgOK pg → ∃ (ok : Bool) (a' : Nat) (pg' : gPg), a ≤ a' ∧ a' ≤ m ∧ (ok = true → pgOK pg' ∧ pg'.length ≤ 10 ∧ ((iS pg).length ≤ a → (iS pg').length ≤ 100)) ∧
    (∀ u b v n0, CU u b → CB u b T m a (pgS pg) (iS pg) v → (iS pg).length ≤ a → r < n0 → ∃ v' s' C', whileO (fun s => f_X3_readText_L14 s.1 s.2) n0 (nI (pg.length + 1), v) = some (bI ok, v') ∧ CB u b T m a' s' C' v' ∧ (ok = true → s' = pgS pg' ∧ C' = iS pg')) ∧
    (∀ y B z n0, B < 6 → (∀ i, i < 14 → gA y 98 i = letM i) → RT T m y B a pg z → r < n0 → ∃ z', whileO (fun s => f_X8_goesText_L15 (nI B) s.1 s.2) n0 (nI pg.length, z) = some (bI ok, z') ∧ RF T m y B a' z' ∧ (ok = true → RT T m y B a' pg' z' ∧ gA z' 91 B = nI pg'.length)) := by
  intro r
  induction r with
  | zero =>
    intro a pg hr ha hpg
    obtain ⟨w, a', pg', p1, p2, p3, p4, p5, p6⟩ := textStep hm hT a pg (by omega) ha hpg
    have hw : w ≠ 2 := fun h => by have := p3 h; omega
    have hbi : (if w = 1 then (1 : Int32) else 0) = bI (decide (w = 1)) := by
      by_cases q : w = 1 <;> simp [q, bI]
    refine ⟨decide (w = 1), a', pg', p1, p2, fun h => ?_, fun u b v n0 hU h hC hn => ?_, fun y B z n0 hB h98 h hn => ?_⟩
    · have hw1 := of_decide_eq_true h
      obtain ⟨q1, q2, q3⟩ := p4 (by omega)
      exact ⟨q1, by omega, fun z => by have := q3 z; omega⟩
    · obtain ⟨v', s', C', e1, e2, e3⟩ := p5 u b v hU h hC
      obtain ⟨n0, rfl⟩ := Nat.exists_eq_succ_of_ne_zero (by omega : n0 ≠ 0)
      rw [if_neg hw, hbi] at e1
      exact ⟨v', s', C', whileO_inr e1, e2, fun h => e3 (by have := of_decide_eq_true h; omega)⟩
    · obtain ⟨z', e1, e2, e3⟩ := p6 y B z hB h98 h
      obtain ⟨n0, rfl⟩ := Nat.exists_eq_succ_of_ne_zero (by omega : n0 ≠ 0)
      rw [if_neg hw, hbi] at e1
      exact ⟨z', whileO_inr e1, e2, fun h => e3 (by have := of_decide_eq_true h; omega)⟩
  | succ r ih =>
    intro a pg hr ha hpg
    obtain ⟨w, a', pg', p1, p2, p3, p4, p5, p6⟩ := textStep hm hT a pg (by omega) ha hpg
    by_cases hw : w = 2
    · subst hw
      obtain ⟨q1, q2, q3⟩ := p4 (by decide)
      obtain ⟨ok, a2, pg2, i1, i2, i3, i4, i5⟩ := ih a' pg' (by omega) p2 q1
      by_cases hiS : (iS pg).length ≤ a
      · refine ⟨ok, a2, pg2, by omega, i2, fun h => ?_, fun u b v n0 hU h hC hn => ?_, fun y B z n0 hB h98 h hn => ?_⟩
        · obtain ⟨x1, x2, x3⟩ := i3 h
          exact ⟨x1, x2, fun z => x3 (q3 z)⟩
        · obtain ⟨v', s', C', e1, e2, e3⟩ := p5 u b v hU h hC
          obtain ⟨rfl, rfl⟩ := e3 (by decide)
          rw [if_pos rfl] at e1
          obtain ⟨n0, rfl⟩ := Nat.exists_eq_succ_of_ne_zero (by omega : n0 ≠ 0)
          obtain ⟨v2, s2, C2, f1, f2, f3⟩ := i4 u b v' n0 hU e2 (q3 hC) (by omega)
          rw [q2] at f1
          exact ⟨v2, s2, C2, (whileO_inl e1).trans f1, f2, f3⟩
        · obtain ⟨z', e1, e2, e3⟩ := p6 y B z hB h98 h
          obtain ⟨e4, e5⟩ := e3 (by decide)
          rw [if_pos rfl] at e1
          obtain ⟨n0, rfl⟩ := Nat.exists_eq_succ_of_ne_zero (by omega : n0 ≠ 0)
          obtain ⟨z2, f1, f2, f3⟩ := i5 y B z' n0 hB h98 e4 (by omega)
          rw [q2] at f1
          exact ⟨z2, (whileO_inl e1).trans f1, f2, f3⟩
      · refine ⟨ok, a2, pg2, by omega, i2, fun h => ⟨(i3 h).1, (i3 h).2.1, fun z => absurd z hiS⟩, fun u b v n0 hU h hC hn => absurd hC hiS, fun y B z n0 hB h98 h hn => ?_⟩
        obtain ⟨z', e1, e2, e3⟩ := p6 y B z hB h98 h
        obtain ⟨e4, e5⟩ := e3 (by decide)
        rw [if_pos rfl] at e1
        obtain ⟨n0, rfl⟩ := Nat.exists_eq_succ_of_ne_zero (by omega : n0 ≠ 0)
        obtain ⟨z2, f1, f2, f3⟩ := i5 y B z' n0 hB h98 e4 (by omega)
        rw [q2] at f1
        exact ⟨z2, (whileO_inl e1).trans f1, f2, f3⟩
    · have hbi : (if w = 1 then (1 : Int32) else 0) = bI (decide (w = 1)) := by
        by_cases q : w = 1 <;> simp [q, bI]
      refine ⟨decide (w = 1), a', pg', p1, p2, fun h => ?_, fun u b v n0 hU h hC hn => ?_, fun y B z n0 hB h98 h hn => ?_⟩
      · have hw1 := of_decide_eq_true h
        obtain ⟨q1, q2, q3⟩ := p4 (by omega)
        exact ⟨q1, by omega, fun z => by have := q3 z; omega⟩
      · obtain ⟨v', s', C', e1, e2, e3⟩ := p5 u b v hU h hC
        obtain ⟨n0, rfl⟩ := Nat.exists_eq_succ_of_ne_zero (by omega : n0 ≠ 0)
        rw [if_neg hw, hbi] at e1
        exact ⟨v', s', C', whileO_inr e1, e2, fun h => e3 (by have := of_decide_eq_true h; omega)⟩
      · obtain ⟨z', e1, e2, e3⟩ := p6 y B z hB h98 h
        obtain ⟨n0, rfl⟩ := Nat.exists_eq_succ_of_ne_zero (by omega : n0 ≠ 0)
        rw [if_neg hw, hbi] at e1
        exact ⟨z', whileO_inr e1, e2, fun h => e3 (by have := of_decide_eq_true h; omega)⟩
