def st1 (cl : Nat × Nat × List Nat) : List Nat := if cl.1 = 2 then [] else cl.2.2 ++ [20000 + 100 * cl.1 + cl.2.1]
def sl1 (cl : Nat × Nat × List Nat) (s : Nat) : Nat := if cl.1 = 2 then cl.2.1 else s
def kl1 (cl : Nat × Nat × List Nat) : Nat := if cl.1 = 2 then 0 else cl.2.2.length
def KF (T : Nat → Nat) (m sb c a' : Nat) (z z' : Mem) : Prop := Agr (fun x => x ≠ 82 ∧ ¬ (92 ≤ x ∧ x ≤ 97)) FE z z' ∧ TZ T m a' z' ∧ (∀ x, x ≠ c → gA z' 92 x = gA z 92 x ∧ gA z' 93 x = gA z 93 x ∧ gA z' 94 x = gA z 94 x ∧ gA z' 95 x = gA z 95 x) ∧ ∀ i, i < sb → gA z' 96 i = gA z 96 i
theorem end_dec : ∀ w, w < 2 → ∀ n, n < 100 → ((nI (9 + w) <<< ((16 : Int32) &&& 31)) ||| ((0 : Int32) <<< ((8 : Int32) &&& 31))) ||| nI n = nI ((9 + w) * 65536 + n) := by decide +kernel
theorem iC_end {w n : Nat} (hw : w < 2) (hn : n < 100) : iC (20000 + 100 * w + n) = (9 + w) * 65536 + n := by
  unfold iC
  rw [if_pos (by omega)]
  have e1 : (20000 + 100 * w + n - 20000) / 100 = w := by omega
  have e2 : (20000 + 100 * w + n) % 100 = n := by omega
  rw [e1, e2]
theorem hd_le (T : Nat → Nat) (m a : Nat) : hd T m a ≤ 2 := by
  unfold hd
  split
  · decide
  · split <;> decide
theorem CB.slope {u v : Mem} {b : Nat} {T : Nat → Nat} {m a s : Nat} {C : List Nat} (hU : CU u b) (h : CB u b T m a s C v) (n : Nat) : CB u b T m a n C (sI v b 2 (nI n)) := by
  obtain ⟨h1, h3, ⟨t1, t2, t3, t4⟩, h5, h6, h7⟩ := h
  have hb := hU.2.2
  refine ⟨h1.si (fun q => q.2.1 rfl) (Or.inl (by omega)), h3, ⟨t1, ?_, ?_, t4⟩, ?_, gI_sI_s _ _ _ _, h7⟩
  · rw [gI_sI_n (by omega)]; exact t2
  · rw [gI_sI_n (by omega)]; exact t3
  · rw [gI_sI_k (by decide)]; exact h5
theorem clauseL {T : Nat → Nat} {m a : Nat} (hm : m ≤ 100) (hT : ∀ i, i < m → T i < 128) (ha : a ≤ m) : ∃ ok a' cl, a ≤ a' ∧ a' ≤ m ∧ (ok = true → a + (st1 cl).length ≤ a' ∧ a + kl1 cl ≤ a' ∧ a < a' ∧ cl.1 ≤ 2 ∧ cl.2.1 < 100 ∧ (cl.1 ≠ 2 → tkG cl.2.2 0 = true)) ∧
    (∀ u b s C v, CU u b → CB u b T m a s C v → C.length ≤ a → (ok = true → ∃ v', f_X3_readClause v = some (1, v') ∧ CB u b T m a' (sl1 cl s) (C ++ st1 cl) v') ∧ (ok = false → ∃ v' s' C', f_X3_readClause v = some (0, v') ∧ C'.length ≤ 100 ∧ CB u b T m a' s' C' v')) ∧
    (∀ z sb c, c < 60 → (∀ i, i < 14 → gA z 98 i = letM i) → TZ T m a z → gI z 82 25 = nI sb → sb ≤ 500 + a → (ok = true → ∃ z', f_X8_takesClause (nI c) z = some (1, z') ∧ KF T m sb c a' z z' ∧ gI z' 82 25 = nI (sb + kl1 cl) ∧ gA z' 92 c = nI cl.1 ∧ gA z' 93 c = nI cl.2.1 ∧ (cl.1 ≠ 2 → gA z' 94 c = nI sb ∧ gA z' 95 c = nI (sb + cl.2.2.length) ∧ ∀ i, i < cl.2.2.length → gA z' 96 (sb + i) = sg (cl.2.2.getD i 0))) ∧ (ok = false → ∃ z', f_X8_takesClause (nI c) z = some (0, z') ∧ KF T m sb c a' z z')) := by
  have hw2 := hd_le T m a
  obtain ⟨b1, b2, b3⟩ := mt_le (T := T) (m := m) (wl (hd T m a)) a (wl_lt _) ha
  have hlen : 5 ≤ (wl (hd T m a)).length := by
    unfold wl
    split
    · decide
    · split <;> decide
  have hCh := fun v hv => headC (T := T) (m := m) (a := a) (v := v) hv
  have hMh := fun c z hc h98 hz => headM (T := T) (m := m) (a := a) (c := c) (z := z) hc h98 hz
  generalize hd T m a = w at *
  generalize mt T m (wl w) a = a0 at *
  -- behind the head
  have hz0 : ∀ c z z0, LX (sA z 92 c (nI w)) z0 a0 → Agr (fun x => x ≠ 82 ∧ x ≠ 92) FE z z0 ∧ (∀ x, gA z0 92 x = if x = c then nI w else gA z 92 x) ∧ gI z0 82 25 = gI z 82 25 := by
    intro c z z0 h
    refine ⟨((Agr.rf _ _ z).sa (by omega)).trans (h.1.mono (fun x hx => hx.1) (fun k hk => ⟨hk.1, hk.2.1⟩)), fun x => ?_, h.1.2.2 25 (by decide)⟩
    rw [h.1.A (by decide), gA_sA_s]
    rfl
  cases hb : mtOk T m (wl w) a
  · refine ⟨false, a0, (0, 0, []), b1, b2, fun z => (by cases z), fun u b s C v hU h hC => ⟨fun z => (by cases z), fun _ => ?_⟩, fun z sb c hc h98 hz h25 hsb => ⟨fun z => (by cases z), fun _ => ?_⟩⟩
    · obtain ⟨v0, e1, e2⟩ := hCh v h.2.2.1
      rw [hb, if_neg (show ¬ false = true by decide)] at e2
      exact ⟨v0, s, C, e2, by omega, h.lv hU e1 b2⟩
    · obtain ⟨z0, e1, e2⟩ := hMh c z hc h98 hz
      rw [hb] at e1
      obtain ⟨g1, g2, g3⟩ := hz0 c z z0 e2
      refine ⟨z0, ?_, g1.mono (fun x hx => by omega) (fun _ h => h), (show TZ T m a (sA z 92 c (nI w)) from hz).lx e2 b2, fun x hx => ⟨by rw [g2, if_neg hx], ?_, ?_, ?_⟩, fun i hi => ?_⟩
      · unfold f_X8_takesClause
        rw [obind_of e1, if_pos bf]
      · rw [g1.A (x := 93) (by decide)]
      · rw [g1.A (x := 94) (by decide)]
      · rw [g1.A (x := 95) (by decide)]
      · rw [g1.A (x := 96) (by decide)]
  · have ha0 := b3 hb
    have hCh2 : ∀ v, TV T m a v → ∃ v0, LV v v0 a0 ∧ f_X3_readClause v = (if w = 2 then obind (f_X3_readSlope v0) (fun r13 u13 => (if r13 = 0 then some ((0 : Int32), u13) else some ((1 : Int32), u13))) else obind (f_X3_readWarmth (nI (9 + w)) v0) (fun r17 u17 => (if r17 = 0 then some ((0 : Int32), u17) else some ((1 : Int32), u17)))) := by
      intro v hv
      obtain ⟨v0, e1, e2⟩ := hCh v hv
      rw [hb, if_pos rfl] at e2
      exact ⟨v0, e1, e2⟩
    obtain ⟨r, a1, n1, n2, n3, n4, n5, n6⟩ := number (T := T) hm a0
    have n2 := n2 b2
    have hM1 : ∀ (z : Mem) (sb c : Nat), c < 60 → (∀ i, i < 14 → gA z 98 i = letM i) → TZ T m a z → ∃ z1, TZ T m a1 z1 ∧ Agr (fun x => x ≠ 82 ∧ x ≠ 92) FE z z1 ∧ (∀ x, gA z1 92 x = if x = c then nI w else gA z 92 x) ∧ gI z1 82 25 = gI z 82 25 ∧ (r = none → f_X8_takesClause (nI c) z = some (0, z1)) ∧
        (∀ n, r = some n → f_X8_takesClause (nI c) z = if nI w = (2 : Int32) then some ((1 : Int32), sA z1 93 c (nI n)) else obind (f_X8_takes (32 : Int32) (sA z1 93 c (nI n))) (fun r8 u8 => (if r8 = 0 then some ((0 : Int32), u8) else obind (f_X8_takesE (nI c) u8) (fun r10 u10 => (if r10 = 0 then some ((0 : Int32), u10) else some ((1 : Int32), u10)))))) := by
      intro z sb c hc h98 hz
      obtain ⟨z0, e1, e2⟩ := hMh c z hc h98 hz
      rw [hb] at e1
      obtain ⟨g1, g2, g3⟩ := hz0 c z z0 e2
      have hzz0 := (show TZ T m a (sA z 92 c (nI w)) from hz).lx e2 b2
      obtain ⟨z1, f1, f2, f3⟩ := n6 z0 hzz0
      have g92 : ∀ x, gA z1 92 x = if x = c then nI w else gA z 92 x := fun x => by rw [f2.1.A (by decide)]; exact g2 x
      refine ⟨z1, hzz0.lx f2 n2, g1.trans (f2.1.mono (fun x hx => hx.1) (fun k hk => ⟨hk.1, hk.2.1⟩)), g92, (f2.1.2.2 25 (by decide)).trans g3, fun hr => ?_, fun n hr => ?_⟩
      · subst hr
        unfold f_X8_takesClause
        rw [obind_of e1, if_neg bt, obind_of f1]
        exact if_pos rfl
      · have h16 := f3 n hr
        subst hr
        unfold f_X8_takesClause
        rw [obind_of e1, if_neg bt, obind_of f1]
        show (if (1 : Int32) = 0 then _ else _) = _
        rw [if_neg (by decide), gin_nI hc (by decide), gin_nI hc (by decide), nI_clamp (by omega), gA_sA_n (by decide), g92, if_pos rfl, h16]
    have hKF1 : ∀ (z : Mem) (sb c : Nat) (z1 : Mem), TZ T m a1 z1 → Agr (fun x => x ≠ 82 ∧ x ≠ 92) FE z z1 → (∀ x, gA z1 92 x = if x = c then nI w else gA z 92 x) → KF T m sb c a1 z z1 ∧ ∀ n, KF T m sb c a1 z (sA z1 93 c (nI n)) := by
      intro z sb c z1 hz1 g1 g2
      refine ⟨⟨g1.mono (fun x hx => by omega) (fun _ h => h), hz1, fun x hx => ⟨by rw [g2, if_neg hx], by rw [g1.A (x := 93) (by decide)], by rw [g1.A (x := 94) (by decide)], by rw [g1.A (x := 95) (by decide)]⟩, fun i hi => by rw [g1.A (x := 96) (by decide)]⟩, fun n => ⟨(g1.mono (fun x hx => by omega) (fun _ h => h)).sa (by omega), hz1, fun x hx => ⟨?_, ?_, ?_, ?_⟩, fun i hi => ?_⟩⟩
      · rw [gA_sA_n (by decide), g2, if_neg hx]
      · rw [gA_sA_s, upd_n hx, g1.A (x := 93) (by decide)]
      · rw [gA_sA_n (by decide), g1.A (x := 94) (by decide)]
      · rw [gA_sA_n (by decide), g1.A (x := 95) (by decide)]
      · rw [gA_sA_n (by decide), g1.A (x := 96) (by decide)]
    cases r with
    | none =>
      refine ⟨false, a1, (0, 0, []), by omega, n2, fun z => (by cases z), fun u b s C v hU h hC => ⟨fun z => (by cases z), fun _ => ?_⟩, fun z sb c hc h98 hz h25 hsb => ⟨fun z => (by cases z), fun _ => ?_⟩⟩
      · obtain ⟨v0, e1, e2⟩ := hCh2 v h.2.2.1
        have h0 := h.lv hU e1 b2
        obtain ⟨v1, f1, f2⟩ := n5 v0 h0.2.2.1
        have f1 : f_X3_readNumber v0 = some (-1, v1) := f1
        refine ⟨v1, s, C, ?_, by omega, h0.lv hU f2 n2⟩
        rw [e2]
        by_cases q : w = 2
        · rw [if_pos q]
          unfold f_X3_readSlope
          rw [obind_of f1, if_neg (by decide)]
          rfl
        · rw [if_neg q]
          unfold f_X3_readWarmth
          rw [obind_of f1, if_pos (by decide)]
          rfl
      · obtain ⟨z1, q1, q2, q3, q4, q5, q6⟩ := hM1 z sb c hc h98 hz
        exact ⟨z1, q5 rfl, (hKF1 z sb c z1 q1 q2 q3).1⟩
    | some n =>
      obtain ⟨hn, hna⟩ := n3 n rfl
      by_cases hw : w = 2
      · subst hw
        refine ⟨true, a1, (2, n, []), by omega, n2, fun _ => ⟨by show a + 0 ≤ a1; omega, by show a + 0 ≤ a1; omega, by omega, Nat.le_refl _, hn, fun h => absurd rfl h⟩, fun u b s C v hU h hC => ⟨fun _ => ?_, fun z => (by cases z)⟩, fun z sb c hc h98 hz h25 hsb => ⟨fun _ => ?_, fun z => (by cases z)⟩⟩
        · obtain ⟨v0, e1, e2⟩ := hCh2 v h.2.2.1
          have h0 := h.lv hU e1 b2
          obtain ⟨v1, f1, f2⟩ := n5 v0 h0.2.2.1
          have f1 : f_X3_readNumber v0 = some (nI n, v1) := f1
          have h1 := h0.lv hU f2 n2
          have e : gR v1 63 3 = b := by rw [h1.2.1]; exact hU.1
          refine ⟨sI v1 b 2 (nI n), ?_, ?_⟩
          · rw [e2, if_pos rfl]
            unfold f_X3_readSlope
            rw [obind_of f1, if_pos (by (simp (disch := omega) only [le_I, lt_I, eq_I, nI_toInt, Int32.reduceToInt, ne_eq] <;> omega)), e, gob_t (by rw [h1.1.1]; exact hU.2.1), obind_some, if_neg (by decide)]
          · show CB u b T m a1 n (C ++ []) _
            rw [List.append_nil]
            exact h1.slope hU n
        · obtain ⟨z1, q1, q2, q3, q4, q5, q6⟩ := hM1 z sb c hc h98 hz
          refine ⟨sA z1 93 c (nI n), ?_, (hKF1 z sb c z1 q1 q2 q3).2 n, q4.trans h25, ?_, ?_, fun h => absurd rfl h⟩
          · rw [q6 n rfl, if_pos (show nI 2 = 2 from rfl)]
          · rw [gA_sA_n (by decide), q3, if_pos rfl]
          · rw [gA_sA_s, upd_s]
      · have hw2 : w < 2 := by omega
        have hnw : ¬ nI w = (2 : Int32) := by (simp (disch := omega) only [le_I, lt_I, eq_I, nI_toInt, Int32.reduceToInt, ne_eq] <;> omega)
        have hCW : ∀ u b s C v, CU u b → CB u b T m a s C v → ∃ v1, CB u b T m a1 s C v1 ∧ f_X3_readClause v = obind (obind (f_X3_skip (32 : Int32) v1) (fun r3 u3 => (if r3 = 0 then some ((0 : Int32), u3) else obind (f_X3_readChoice (0 : Int32) u3) (fun r5 u5 => (if r5 = 0 then some ((0 : Int32), u5) else gob u5.1 (gR u5 63 3) l0 (obind (f_X0_add (gR u5 63 3) (nI (9 + w)) (0 : Int32) (nI n) u5) (fun _ u8 => some ((1 : Int32), u8)))))))) (fun r17 u17 => (if r17 = 0 then some ((0 : Int32), u17) else some ((1 : Int32), u17))) := by
          intro u b s C v hU h
          obtain ⟨v0, e1, e2⟩ := hCh2 v h.2.2.1
          have h0 := h.lv hU e1 b2
          obtain ⟨v1, f1, f2⟩ := n5 v0 h0.2.2.1
          have f1 : f_X3_readNumber v0 = some (nI n, v1) := f1
          refine ⟨v1, h0.lv hU f2 n2, ?_⟩
          rw [e2, if_neg hw]
          unfold f_X3_readWarmth
          rw [obind_of f1, if_neg (by (simp (disch := omega) only [le_I, lt_I, eq_I, nI_toInt, Int32.reduceToInt, ne_eq] <;> omega))]
        by_cases h32 : nx T m a1 = 32
        · have ha1 := nx_nn (c := 32) h32 (by decide)
          obtain ⟨ok2, a2, tks, p1, p2, p3, p4, p5⟩ := eL hm hT ha1
          have hMW : ∀ (z : Mem) (sb c : Nat), c < 60 → (∀ i, i < 14 → gA z 98 i = letM i) → TZ T m a z → gI z 82 25 = nI sb → ∃ z3, TZ T m (a1 + 1) z3 ∧ KF T m sb c (a1 + 1) z z3 ∧ gI z3 82 25 = nI sb ∧ gA z3 92 c = nI w ∧ gA z3 93 c = nI n ∧ f_X8_takesClause (nI c) z = obind (f_X8_takesE (nI c) z3) (fun r10 u10 => (if r10 = 0 then some ((0 : Int32), u10) else some ((1 : Int32), u10))) := by
            intro z sb c hc h98 hz h25
            obtain ⟨z1, q1, q2, q3, q4, q5, q6⟩ := hM1 z sb c hc h98 hz
            obtain ⟨k1, k2, k3, k4⟩ := (hKF1 z sb c z1 q1 q2 q3).2 n
            have hgo := LX.go (sA z1 93 c (nI n)) (a1 + 1)
            have k22 := k2.lx hgo ha1
            refine ⟨sI (sA z1 93 c (nI n)) 82 15 (nI (a1 + 1)), k22, ⟨k1.trans (hgo.1.mono (fun x hx => hx.1) (fun k hk => ⟨hk.1, hk.2.1⟩)), k22, k3, k4⟩, (hgo.1.2.2 25 (by decide)).trans (q4.trans h25), ?_, ?_, ?_⟩
            · rw [gA_sI, gA_sA_n (by decide), q3, if_pos rfl]
            · rw [gA_sI, gA_sA_s, upd_s]
            · rw [q6 n rfl, if_neg hnw, takesM k2, if_pos h32, obind_some, if_neg (show ¬ (1 : Int32) = 0 by decide)]
          have hKF2 : ∀ (z : Mem) (sb c : Nat) (z3 z4 : Mem), KF T m sb c (a1 + 1) z z3 → EF T m sb c a2 z3 z4 → KF T m sb c a2 z z4 ∧ gA z4 92 = gA z3 92 ∧ gA z4 93 = gA z3 93 := by
            rintro z sb c z3 z4 ⟨k1, k2, k3, k4⟩ ⟨f1, f2, f3, f4⟩
            have e92 : gA z4 92 = gA z3 92 := f1.A (x := 92) (by decide)
            have e93 : gA z4 93 = gA z3 93 := f1.A (x := 93) (by decide)
            refine ⟨⟨k1.trans (f1.mono (fun x hx => by omega) (fun _ h => h)), f2, fun x hx => ⟨?_, ?_, ?_, ?_⟩, fun i hi => (f4 i hi).trans (k4 i hi)⟩, e92, e93⟩
            · rw [e92]; exact (k3 x hx).1
            · rw [e93]; exact (k3 x hx).2.1
            · rw [(f3 x hx).1]; exact (k3 x hx).2.2.1
            · rw [(f3 x hx).2]; exact (k3 x hx).2.2.2
          cases ok2 with
          | false =>
            refine ⟨false, a2, (0, 0, []), by omega, p2, fun z => (by cases z), fun u b s C v hU h hC => ⟨fun z => (by cases z), fun _ => ?_⟩, fun z sb c hc h98 hz h25 hsb => ⟨fun z => (by cases z), fun _ => ?_⟩⟩
            · obtain ⟨v1, e1, e2⟩ := hCW u b s C v hU h
              obtain ⟨v2, C', g1, g2, g3⟩ := (p4 u b s C _ hU (e1.lv hU (LV.go v1 (a1 + 1)) ha1) (by omega)).2 rfl
              refine ⟨v2, s, C', ?_, g2, g3⟩
              rw [e2, skipC e1.2.2.1, if_pos h32, obind_some, if_neg (show ¬ (1 : Int32) = 0 by decide), obind_of g1]
              rfl
            · obtain ⟨z3, q1, q2, q3, q4, q5, q6⟩ := hMW z sb c hc h98 hz h25
              obtain ⟨z4, g1, g2⟩ := (p5 z3 sb c hc q1 q3 (by omega)).2 rfl
              refine ⟨z4, ?_, (hKF2 z sb c z3 z4 q2 g2).1⟩
              rw [q6, obind_of g1]
              rfl
          | true =>
            obtain ⟨s1, s2⟩ := p3 rfl
            have hst : st1 (w, n, tks) = tks ++ [20000 + 100 * w + n] := if_neg hw
            have hsl : ∀ s, sl1 (w, n, tks) s = s := fun s => if_neg hw
            have hkl : kl1 (w, n, tks) = tks.length := if_neg hw
            refine ⟨true, a2, (w, n, tks), by omega, p2, fun _ => ⟨by rw [hst, List.length_append]; simp only [List.length_cons, List.length_nil]; omega, by rw [hkl]; omega, by omega, by show w ≤ 2; omega, hn, fun _ => s2⟩, fun u b s C v hU h hC => ⟨fun _ => ?_, fun z => (by cases z)⟩, fun z sb c hc h98 hz h25 hsb => ⟨fun _ => ?_, fun z => (by cases z)⟩⟩
            · obtain ⟨v1, e1, e2⟩ := hCW u b s C v hU h
              obtain ⟨v2, g1, g2⟩ := (p4 u b s C _ hU (e1.lv hU (LV.go v1 (a1 + 1)) ha1) (by omega)).1 rfl
              have e : gR v2 63 3 = b := by rw [g2.2.1]; exact hU.1
              obtain ⟨v3, f1, f2⟩ := g2.add hU (by rw [List.length_append]; omega) (p1 := nI (9 + w)) (p2 := 0) (p3 := nI n) (k := 20000 + 100 * w + n) (by rw [iC_end hw2 hn]; exact end_dec w hw2 n hn)
              refine ⟨v3, ?_, by rw [hsl, hst, ← List.append_assoc]; exact f2⟩
              rw [e2, skipC e1.2.2.1, if_pos h32, obind_some, if_neg (show ¬ (1 : Int32) = 0 by decide), obind_of g1, if_neg (show ¬ (1 : Int32) = 0 by decide), e, gob_t (by rw [g2.1.1]; exact hU.2.1), obind_of f1]
              rfl
            · obtain ⟨z3, q1, q2, q3, q4, q5, q6⟩ := hMW z sb c hc h98 hz h25
              obtain ⟨z4, g1, g2, g3, g4, g5, g6⟩ := (p5 z3 sb c hc q1 q3 (by omega)).1 rfl
              obtain ⟨k1, k2, k3⟩ := hKF2 z sb c z3 z4 q2 g2
              refine ⟨z4, ?_, k1, by rw [hkl]; exact g3, by rw [k2]; exact q4, by rw [k3]; exact q5, fun _ => ⟨g4, g5, g6⟩⟩
              rw [q6, obind_of g1]
              rfl
        · refine ⟨false, a1, (0, 0, []), by omega, n2, fun z => (by cases z), fun u b s C v hU h hC => ⟨fun z => (by cases z), fun _ => ?_⟩, fun z sb c hc h98 hz h25 hsb => ⟨fun z => (by cases z), fun _ => ?_⟩⟩
          · obtain ⟨v1, e1, e2⟩ := hCW u b s C v hU h
            refine ⟨v1, s, C, ?_, by omega, e1⟩
            rw [e2, skipC e1.2.2.1, if_neg h32]
            rfl
          · obtain ⟨z1, q1, q2, q3, q4, q5, q6⟩ := hM1 z sb c hc h98 hz
            have hk := (hKF1 z sb c z1 q1 q2 q3).2 n
            refine ⟨sA z1 93 c (nI n), ?_, hk⟩
            rw [q6 n rfl, if_neg hnw, takesM hk.2.1, if_neg h32]
            rfl
