/-! branch -/
theorem bid_lt {k B : Nat} (h : k < B) : bid k + 1 < bid B := by
  unfold bid
  split
  · rw [if_neg (by omega)]; omega
  · rw [if_neg (by omega)]; omega
def RES (u z : Mem) (B : Nat) : Prop := (∀ x, x < B → gA z 91 x = gA u 91 x) ∧ (∀ x, x < 10 * B → gA z 92 x = gA u 92 x ∧ gA z 93 x = gA u 93 x ∧ gA z 94 x = gA u 94 x ∧ gA z 95 x = gA u 95 x) ∧ ∀ i, i < 100 * B → gA z 96 i = gA u 96 i
theorem PM.res {u z : Mem} {B k : Nat} {pg : gPg} (h : RES u z B) (hk : k < B) (hp : PM u k pg) : PM z k pg := by
  obtain ⟨r1, r2, r3⟩ := h
  obtain ⟨p1, p2, p3⟩ := hp
  refine ⟨(r1 k hk).trans p1, p2, fun c hc => ?_⟩
  obtain ⟨q1, q2, q3⟩ := p3 c hc
  obtain ⟨s1, s2, s3, s4⟩ := r2 (10 * k + c) (by omega)
  refine ⟨s1.trans q1, s2.trans q2, fun h2 => ?_⟩
  obtain ⟨a, x1, x2, x3, x4⟩ := q3 h2
  exact ⟨a, x1, s3.trans x2, s4.trans x3, fun j hj => (r3 _ (by omega)).trans (x4 j hj)⟩
def S4 (b n p : Nat) : Prop := p ≠ 0 ∧ p ≠ 63 ∧ p ≠ b ∧ p ≠ b + 1 ∧ p ≠ n ∧ p ≠ n + 1 ∧ p ≠ 82 ∧ ¬ (91 ≤ p ∧ p ≤ 97)
def F4 (k : Nat) : Prop := ¬ (12 ≤ k ∧ k ≤ 16) ∧ ¬ (25 ≤ k ∧ k ≤ 27)
theorem HELDg.mono {the : Int32} {b B B' : Nat} {pgs pgs' : Nat → gPg} {pg : gPg} (hB : B ≤ B') (hp : ∀ k, k < B → pgs' k = pgs k) (h : HELDg the b B pgs pg) : HELDg the b B' pgs' pg := by
  rcases h with h | ⟨k, hk, h1, h2, h3⟩
  · exact Or.inl h
  · exact Or.inr ⟨k, by omega, h1, h2, by rw [hp k hk]; exact h3⟩
/-- what of the rest stands, of any memory that agrees so -/
theorem rest_br {u z : Mem} {K : gK8} {w : gW5} {B B' : Nat} {pgs pgs' : Nat → gPg} (hA : InvA u K w B pgs) (hB : B ≤ B') (hp : ∀ k, k < B → pgs' k = pgs k) (hR : ∀ k, gR z 25 k = gR u 25 k) (h05 : gI z 0 5 = gI u 0 5) (h : Agr (S4 (bid B) u.1) F4 u (u.1, z.2.1, u.2.2.1, z.2.2.2)) (ht1 : gI z 63 1 = 0) (ht2 : gI z 82 14 = 0) :
    NOW z K w ∧ TXT z ∧ NTS z (cN K) ∧ STG z ∧ TAP z ∧ IMG z B' pgs' := by
  obtain ⟨h1, ⟨p1, p2, p3, p4, -⟩, h3, h4, h5, h6, h7, h8⟩ := hA
  have hb := bid_at B
  have hs : ∀ x, ¬ x = 0 → x ≠ 63 → x ≠ 65 → x ≠ 66 → x < 129 → x ≠ 82 → ¬ (91 ≤ x ∧ x ≤ 97) → S4 (bid B) u.1 x := by
    intro x a1 a2 a3 a4 a5 a6 a7
    unfold S4
    omega
  have e1 : NOW (u.1, z.2.1, u.2.2.1, z.2.2.2) K w := h1.agr h (fun x hx => hs x (by omega) (by omega) (by omega) (by omega) (by omega) (by omega) (by omega)) (fun k hk => by unfold F4; omega)
  have e5 : NTS (u.1, z.2.1, u.2.2.1, z.2.2.2) (cN K) := h5.agr h (fun x hx => hs x (by omega) (by omega) (by omega) (by omega) (by omega) (by omega) (by omega)) (by unfold F4; omega)
  have e6 : STG (u.1, z.2.1, u.2.2.1, z.2.2.2) := h6.agr h ⟨hs _ (by decide) (by decide) (by decide) (by decide) (by decide) (by decide) (by decide), hs _ (by decide) (by decide) (by decide) (by decide) (by decide) (by decide) (by decide), hs _ (by decide) (by decide) (by decide) (by decide) (by decide) (by decide) (by decide)⟩ (by unfold F4; omega)
  have e7 : TAP (u.1, z.2.1, u.2.2.1, z.2.2.2) := h7.agr h (fun x hx => hs x (by omega) (by omega) (by omega) (by omega) (by omega) (by omega) (by omega))
  have e8 : IMG (u.1, z.2.1, u.2.2.1, z.2.2.2) B pgs := h8.agr h h05 (fun x hx => hs x (by omega) (by omega) (by omega) (by omega) (by omega) (by omega) (by omega)) (fun k hk => by unfold F4; omega)
  refine ⟨e1, ⟨0, by decide, ht1, ht2, fun i hi => absurd hi (Nat.not_lt_zero i)⟩, e5, e6, e7, ?_⟩
  rcases e8 with e8 | ⟨i1, i2, K2, w2, g1, g2, g3, g4, g5, g6, n1, n2, n3⟩
  · exact Or.inl e8
  · refine Or.inr ⟨i1, i2, K2, w2, g1, g2, g3, g4, g5, ?_, n1, n2, n3⟩
    rw [hR]
    exact g6.mono hB hp
theorem gok_bid : ∀ B, B < 7 → gokb (129 + 2 * B) (bid B) l0 = true := by decide +kernel
theorem kd_new : ∀ B, B < 6 → kd (129 + 2 * B) = (0, 0) ∧ kd (129 + 2 * B + 1) = (1, 100) := by decide +kernel
theorem sNB_I (x : Mem) (p k : Nat) : gI (sNB x) p k = if p = x.1 then (if k = 2 then 5 else 0) else gI x p k := by
  show up1 x.2.1 x.1 (fun k => if k = 2 then 5 else 0) p k = _
  unfold up1
  by_cases h : p = x.1
  · rw [if_pos h, if_pos h]
  · rw [if_neg h, if_neg h]; rfl
theorem sNB_A (x : Mem) (p : Nat) : gA (sNB x) p = if p = x.1 + 1 then (fun _ => 0) else gA x p := rfl
theorem st_branch {u : Mem} (hI : Inv u) : okS u (f_X7_branch u) f_X8_branch := by
  have hI0 := hI
  obtain ⟨K, w, B, pgs, hA⟩ := hI
  obtain ⟨hB6, g07, g12, hn, hdraft, hPC0, hpgs, h98⟩ := hA.2.1
  obtain ⟨m, hm, t1, t2, t3⟩ := hA.2.2.2.1
  have hHELD := hA.2.2.1
  unfold f_X7_branch
  rw [g07]
  by_cases h6 : B = 6
  · rw [if_neg (by (simp (disch := omega) only [le_I, lt_I, eq_I, nI_toInt, Int32.reduceToInt, ne_eq] <;> omega))]
    refine ⟨_, _, _, rfl, ?_, hI0⟩
    unfold f_X8_branch
    rw [g12, if_pos (by rw [h6]; rfl)]
  · rw [if_pos (by (simp (disch := omega) only [le_I, lt_I, eq_I, nI_toInt, Int32.reduceToInt, ne_eq] <;> omega))]
    have hB : B < 6 := by omega
    obtain ⟨T, hTe⟩ : ∃ T : Nat → Nat, T = fun i => (gA u 64 i).toNatClampNeg := ⟨_, rfl⟩
    have hTT : ∀ i, i < m → T i < 128 ∧ gA u 64 i = nI (T i) ∧ gA u 90 i = nI (T i) := by
      intro i hi
      obtain ⟨c, hc, e1, e2⟩ := t3 i hi
      have : T i = c := by rw [hTe]; show (gA u 64 i).toNatClampNeg = c; rw [e1, nI_clamp (by omega)]
      rw [this]
      exact ⟨hc, e1, e2⟩
    have hT : ∀ i, i < m → T i < 128 := fun i hi => (hTT i hi).1
    clear hTe
    have hb := bid_at B
    have hbn : bid B + 1 < 129 + 2 * B := by
      unfold bid
      split <;> omega
    have hU : CU u (bid B) := ⟨hdraft, by rw [hn]; exact gok_bid B (by omega), hb.2⟩
    obtain ⟨ok, a', pg', q1, q2, q3, q4, q5⟩ := textLoop hm hT 9 0 [] rfl (Nat.zero_le _) (fun c hc => absurd hc (List.not_mem_nil))
    have hCB : CB u (bid B) T m 0 (pgS []) (iS []) (sI (sI (sI u 63 2 (0 : Int32)) (bid B) 1 (0 : Int32)) (bid B) 2 (5 : Int32)) := by
      refine ⟨(((Agr.rf _ _ _).si (fun q => q.1 rfl) (Or.inl (by decide))).si (fun q => q.2.1 rfl) (Or.inl (by omega))).si (fun q => q.2.1 rfl) (Or.inl (by omega)), rfl, ⟨fun i hi => (hTT i hi).2.1, ?_, ?_, Nat.zero_le _, hm, hT⟩, ?_, gI_sI_s _ _ _ _, fun i hi => absurd hi (Nat.not_lt_zero i)⟩
      · rw [gI_sI_n (by omega), gI_sI_n (by omega), gI_sI_k (by decide)]; exact t1
      · rw [gI_sI_n (by omega), gI_sI_n (by omega), gI_sI_s]; rfl
      · rw [gI_sI_k (by decide), gI_sI_s]; rfl
    obtain ⟨v', s', C', e1, e2, e3⟩ := q4 u (bid B) _ FUEL hU hCB (Nat.zero_le _) (by show 9 < 5000; decide)
    have hread : f_X3_readText u = some (bI ok, v') := by
      have eb : gR (sI u 63 2 (0 : Int32)) 63 3 = bid B := hdraft
      unfold f_X3_readText
      rw [eb, gob_t (show gokb (sI u 63 2 (0 : Int32)).1 (bid B) l0 = true from hU.2.1)]
      exact e1
    obtain ⟨c1, c2, c3, c4, c5, c6⟩ := e2
    rw [obind_of hread]
    -- the reference from a memory that has the text and the programs as u has them
    have href : ∀ x : Mem, (∀ p, p = 82 ∨ p = 90 ∨ p = 98 → gI x p = gI u p ∧ gA x p = gA u p) → ∃ z', f_X8_goesText (nI B) x = some (bI ok, z') ∧ RF T m (sI (sI x 82 15 (0 : Int32)) 82 25 (nI (100 * B))) B a' z' ∧ (ok = true → RT T m (sI (sI x 82 15 (0 : Int32)) 82 25 (nI (100 * B))) B a' pg' z' ∧ gA z' 91 B = nI pg'.length) := by
      intro x hx
      have h82 := (hx 82 (Or.inl rfl)).1
      have h90 := (hx 90 (Or.inr (Or.inl rfl))).2
      have hx98 := (hx 98 (Or.inr (Or.inr rfl))).2
      have hTZ : TZ T m 0 (sI (sI x 82 15 (0 : Int32)) 82 25 (nI (100 * B))) := by
        refine ⟨fun i hi => ?_, ?_, ?_, Nat.zero_le _, hm, hT⟩
        · show gA x 90 i = _
          rw [h90]; exact (hTT i hi).2.2
        · rw [gI_sI_k (by decide), gI_sI_k (by decide), h82]; exact t2
        · rw [gI_sI_k (by decide), gI_sI_s]; rfl
      obtain ⟨z', f1, f2, f3⟩ := q5 _ B _ FUEL hB (fun i hi => by show gA x 98 i = _; rw [hx98]; exact h98 i hi) ⟨⟨Agr.rf _ _ _, hTZ, fun _ _ => rfl, fun _ _ => ⟨rfl, rfl, rfl, rfl⟩, fun _ _ => rfl⟩, 0, Nat.le_refl _, gI_sI_s _ _ _ _, fun c hc => absurd hc (Nat.not_lt_zero c)⟩ (by show 9 < 5000; decide)
      refine ⟨z', ?_, f2, f3⟩
      unfold f_X8_goesText
      rw [show (100 : Int32) = nI 100 from rfl, nI_mul]
      exact f1
    have hPMr : ∀ z : Mem, RES u z B → ∀ k, k < B → PM z k (pgs k) := fun z hz k hk => (hpgs k hk).2.2.res hz hk
    have hS4 : ∀ k, k < B → S4 (bid B) u.1 (bid k) ∧ S4 (bid B) u.1 (bid k + 1) := by
      intro k hk
      have h1 := bid_lt hk
      have h2 := bid_at k
      unfold S4
      omega
    cases ok with
    | false =>
      rw [if_pos bf]
      have hx82 : ∀ p, p = 82 ∨ p = 90 ∨ p = 98 → gI (sI v' 63 1 (0 : Int32)) p = gI u p ∧ gA (sI v' 63 1 (0 : Int32)) p = gA u p := by
        intro p hp
        have hS : SCb (bid B) p := by unfold SCb; omega
        refine ⟨?_, c1.A hS⟩
        funext k
        rw [gI_sI_n (by omega), c1.I hS]
      obtain ⟨z', f1, ⟨r1, r2, r3, r4, r5⟩, -⟩ := href (sI v' 63 1 (0 : Int32)) hx82
      have h15 : gI (sI z' 82 14 (0 : Int32)) 82 15 = nI a' := (gI_sI_k (by decide) 82).trans r2.2.2.1
      have h63 : gI (sI v' 63 1 (0 : Int32)) 63 2 = nI a' := (gI_sI_k (by decide) 63).trans c3.2.2.1
      have h12x : gI (sI v' 63 1 (0 : Int32)) 82 12 = nI B := by rw [(hx82 82 (Or.inl rfl)).1]; exact g12
      refine ⟨_, _, sI z' 82 14 (0 : Int32), rfl, ?_, ?_⟩
      · unfold f_X8_branch
        rw [h12x, if_neg (by (simp (disch := omega) only [le_I, lt_I, eq_I, nI_toInt, Int32.reduceToInt, ne_eq] <;> omega)), obind_of f1, if_pos bf, h15, h63]
      · -- all of u to the end
        have hag1 : Agr (SCb (bid B)) TT u (sI (sI (sI v' 63 1 (0 : Int32)) 82 15 (0 : Int32)) 82 25 (nI (100 * B))) ∨ True := Or.inr trivial
        have hX : Agr (fun p => SCb (bid B) p ∧ p ≠ 82) (fun k => k ≠ 15 ∧ k ≠ 25) u (sI (sI (sI v' 63 1 (0 : Int32)) 82 15 (0 : Int32)) 82 25 (nI (100 * B))) :=
          (((c1.mono (fun p hp => hp.1) (fun _ _ => trivial)).si (fun q => q.1.1 rfl) (Or.inl (by decide))).si (fun q => q.2 rfl) (Or.inr (by omega))).si (fun q => q.2 rfl) (Or.inr (by omega))
        have hZ : Agr (fun p => p ≠ 63 ∧ p ≠ bid B ∧ p ≠ bid B + 1 ∧ p ≠ 82 ∧ ¬ (91 ≤ p ∧ p ≤ 97)) (fun k => ¬ (14 ≤ k ∧ k ≤ 16) ∧ ¬ (25 ≤ k ∧ k ≤ 27)) u (sI z' 82 14 (0 : Int32)) :=
          ((hX.mono (fun p hp => ⟨⟨hp.1, hp.2.1, hp.2.2.1⟩, hp.2.2.2.1⟩) (fun k hk => by omega)).trans (r1.mono (fun p hp => ⟨hp.2.2.2.1, hp.2.2.2.2⟩) (fun k hk => by unfold FE; omega))).si (fun q => q.2.2.2.1 rfl) (Or.inr (by omega))
        have hR : gR (sI z' 82 14 (0 : Int32)) 63 = gR u 63 ∧ gI (sI z' 82 14 (0 : Int32)) 63 1 = 0 := by
          have e := r1.2.1 63 (by decide)
          refine ⟨?_, ?_⟩
          · show gR z' 63 = _
            rw [e.2.1]
            show gR v' 63 = _
            rw [c2]
          · rw [gI_sI_n (by decide), e.1, gI_sI_n (by decide), gI_sI_n (by decide), gI_sI_s]
        have hRES : RES u (sI z' 82 14 (0 : Int32)) B := by
          have hu : ∀ p, 91 ≤ p → p ≤ 96 → gA (sI (sI (sI v' 63 1 (0 : Int32)) 82 15 (0 : Int32)) 82 25 (nI (100 * B))) p = gA u p := fun p h1 h2 => c1.A (x := p) (by unfold SCb; omega)
          refine ⟨fun x hx => (r3 x (by omega)).trans (by rw [hu 91 (by decide) (by decide)]), fun x hx => ?_, fun i hi => (r5 i hi).trans (by rw [hu 96 (by decide) (by decide)])⟩
          obtain ⟨y1, y2, y3, y4⟩ := r4 x hx
          rw [hu 92 (by decide) (by decide)] at y1
          rw [hu 93 (by decide) (by decide)] at y2
          rw [hu 94 (by decide) (by decide)] at y3
          rw [hu 95 (by decide) (by decide)] at y4
          exact ⟨y1, y2, y3, y4⟩
        have hz1 : (sI z' 82 14 (0 : Int32)).1 = u.1 := hZ.1
        have hmid : Agr (S4 (bid B) u.1) F4 u (u.1, (sI z' 82 14 (0 : Int32)).2.1, u.2.2.1, (sI z' 82 14 (0 : Int32)).2.2.2) := by
          have h := hZ.mono (S' := S4 (bid B) u.1) (F' := F4) (fun p hp => by unfold S4 at hp; omega) (fun k hk => by unfold F4 at hk; omega)
          exact ⟨rfl, fun p hp => ⟨(h.2.1 p hp).1, rfl, (h.2.1 p hp).2.2.1, (h.2.1 p hp).2.2.2⟩, h.2.2⟩
        obtain ⟨i1, i2, i3, i4, i5, i6⟩ := rest_br (B' := B) (pgs' := pgs) hA (Nat.le_refl _) (fun _ _ => rfl) (fun k => hZ.R (x := 25) (by omega) k) (hZ.I (x := 0) (by omega) 5) hmid hR.2 (gI_sI_s _ _ _ _)
        refine ⟨K, w, B, pgs, i1, ⟨hB6, (hZ.I (x := 0) (by omega) 7).trans g07, (hZ.2.2 12 (by decide)).trans g12, hz1.trans hn, ?_, hPC0.of (hZ.I (x := 11) (by omega) 1) (hZ.I (x := 11) (by omega) 2) (hZ.A (x := 12) (by omega)), fun k hk => ?_, fun i hi => ?_⟩, ?_, i2, i3, i4, i5, i6⟩
        · rw [hR.1]; exact hdraft
        · have hk2 := bid_lt hk
          have hk3 := bid_at k
          exact ⟨(hpgs k hk).1, (hpgs k hk).2.1.of (hZ.I (x := bid k) (by omega) 1) (hZ.I (x := bid k) (by omega) 2) (hZ.A (x := bid k + 1) (by omega)), hPMr _ hRES k hk⟩
        · rw [hZ.A (x := 98) (by omega)]; exact h98 i hi
        · rw [hZ.2.2 13 (by decide), hZ.R (x := 1) (by omega)]
          exact hHELD
    | true =>
      rw [if_neg bt]
      obtain ⟨q31, q32, q33⟩ := q3 rfl
      obtain ⟨hs', hC'⟩ := e3 rfl
      subst hs' hC'
      obtain ⟨k1, k2⟩ := kd_new B hB
      obtain ⟨x, hx⟩ : ∃ x, x = sI v' 63 1 (0 : Int32) := ⟨_, rfl⟩
      have xn : x.1 = u.1 := by rw [hx]; exact c1.1
      have xR : gR x = gR u := by rw [hx]; exact c2
      have xI : ∀ p, p ≠ 63 → gI x p = gI v' p := fun p hp => by rw [hx]; funext k; rw [gI_sI_n hp]
      have xA : gA x = gA v' := by rw [hx]; rfl
      have xL : gL x = gL v' := by rw [hx]; rfl
      have x631 : gI x 63 1 = 0 := by rw [hx, gI_sI_s]
      rw [← hx]
      clear hx
      have hho : f_X3_handOver x = some (bid B, sR (sNB x) 63 3 x.1) := by
        unfold f_X3_handOver gNB
        rw [if_pos (by rw [xn, hn]; exact ⟨k1, k2⟩), xR, hdraft]
      obtain ⟨y, hy⟩ : ∃ y, y = sI (sR (sR (sNB x) 63 3 x.1) 1 13 (bid B)) 0 7 (nI (B + 1)) := ⟨_, rfl⟩
      have x07 : gI x 0 7 = nI B := by rw [xI 0 (by decide), c1.I (x := 0) (by unfold SCb; omega)]; exact g07
      have hCend : obind (f_X3_handOver x) (fun r4 u4 => some ((gI (sI (sR u4 1 13 r4) 0 7 ((gI (sR u4 1 13 r4) 0 7) + (1 : Int32))) 0 7) - (1 : Int32), sI (sR u4 1 13 r4) 0 7 ((gI (sR u4 1 13 r4) 0 7) + (1 : Int32)))) = some (nI B, y) := by
        rw [obind_of hho]
        have e07 : gI (sR (sR (sNB x) 63 3 x.1) 1 13 (bid B)) 0 7 = nI B := by
          rw [gI_sR, gI_sR, sNB_I, if_neg (by omega), x07]
        rw [e07, nI_1, gI_sI_s, nI_pred, hy]
      have yI : ∀ p k, gI y p k = if p = 0 ∧ k = 7 then nI (B + 1) else if p = u.1 then (if k = 2 then 5 else 0) else gI x p k := by
        intro p k
        rw [hy, gI_sI, gI_sR, gI_sR, sNB_I, xn]
      have yA : ∀ p, gA y p = if p = u.1 + 1 then (fun _ => 0) else gA v' p := by
        intro p
        rw [hy, gA_sI, gA_sR, gA_sR, sNB_A, xn, xA]
      have yR : ∀ p k, gR y p k = if p = 1 ∧ k = 13 then bid B else if p = 63 ∧ k = 3 then u.1 else gR u p k := by
        intro p k
        rw [hy, gR_sI, gR_sR, gR_sR, xn, ← xR]
        rfl
      have yL : gL y = gL v' := by rw [hy, ← xL]; rfl
      have yn : y.1 = u.1 + 2 := by
        rw [hy]
        show x.1 + 2 = _
        rw [xn]
      clear hy
      have hx82 : ∀ p, p = 82 ∨ p = 90 ∨ p = 98 → gI y p = gI u p ∧ gA y p = gA u p := by
        intro p hp
        have hS : SCb (bid B) p := by unfold SCb; omega
        refine ⟨?_, ?_⟩
        · funext k
          rw [yI, if_neg (by omega), if_neg (by omega), xI p (by omega), c1.I hS]
        · rw [yA, if_neg (by omega)]; exact c1.A hS
      obtain ⟨z', f1, ⟨r1, r2, r3, r4, r5⟩, f3⟩ := href y hx82
      obtain ⟨⟨-, n0, m1, m2, m3⟩, m4⟩ := f3 rfl
      have h12y : gI y 82 12 = nI B := by rw [(hx82 82 (Or.inl rfl)).1]; exact g12
      have z12 : gI z' 82 12 = nI B := by
        rw [r1.2.2 12 (by unfold FE; omega), gI_sI_k (by decide), gI_sI_k (by decide)]; exact h12y
      refine ⟨_, _, sI (sI (sI z' 82 14 (0 : Int32)) 82 13 (nI B)) 82 12 (nI (B + 1)), hCend, ?_, ?_⟩
      · unfold f_X8_branch
        rw [h12y, if_neg (by (simp (disch := omega) only [le_I, lt_I, eq_I, nI_toInt, Int32.reduceToInt, ne_eq] <;> omega)), obind_of f1, if_neg bt]
        simp (disch := decide) only [gI_sI_k, gI_sI_s]
        rw [z12, nI_1]
      · obtain ⟨Z, hZe⟩ : ∃ Z, Z = sI (sI (sI z' 82 14 (0 : Int32)) 82 13 (nI B)) 82 12 (nI (B + 1)) := ⟨_, rfl⟩
        have Zr : ∀ p, p ≠ 82 → ¬ (91 ≤ p ∧ p ≤ 97) → gI Z p = gI y p ∧ gR Z p = gR y p ∧ gA Z p = gA y p ∧ gL Z p = gL y p := by
          intro p h1 h2
          obtain ⟨a1, a2, a3, a4⟩ := r1.2.1 p ⟨h1, h2⟩
          rw [hZe]
          refine ⟨?_, a2, a3, a4⟩
          funext k
          rw [gI_sI_n h1, gI_sI_n h1, gI_sI_n h1, a1, gI_sI_n h1, gI_sI_n h1]
        have ZA : gA Z = gA z' := by rw [hZe]; rfl
        have Z82 : ∀ k, F4 k → gI Z 82 k = gI u 82 k := by
          intro k hk
          unfold F4 at hk
          rw [hZe, gI_sI_k (by omega), gI_sI_k (by omega), gI_sI_k (by omega), r1.2.2 k (by unfold FE; omega), gI_sI_k (by omega), gI_sI_k (by omega), (hx82 82 (Or.inl rfl)).1]
        have Z12 : gI Z 82 12 = nI (B + 1) := by rw [hZe, gI_sI_s]
        have Z13 : gI Z 82 13 = nI B := by rw [hZe, gI_sI_k (by decide), gI_sI_s]
        have Z14 : gI Z 82 14 = 0 := by rw [hZe, gI_sI_k (by decide), gI_sI_k (by decide), gI_sI_s]
        have Zn : Z.1 = u.1 + 2 := by
          rw [hZe]
          show z'.1 = _
          rw [r1.1]
          exact yn
        rw [← hZe]
        clear hZe
        have ZP : ∀ p, S4 (bid B) u.1 p → gI Z p = gI u p ∧ gA Z p = gA u p ∧ gL Z p = gL u p := by
          intro p hp
          unfold S4 at hp
          have hS : SCb (bid B) p := by unfold SCb; omega
          obtain ⟨a1, a2, a3, a4⟩ := Zr p (by omega) (by omega)
          refine ⟨?_, ?_, ?_⟩
          · rw [a1]
            funext k
            rw [yI, if_neg (by omega), if_neg (by omega), xI p (by omega), c1.I hS]
          · rw [a3, yA, if_neg (by omega)]; exact c1.A hS
          · rw [a4, yL]; exact c1.L hS
        have ZR : ∀ p k, p ≠ 82 → ¬ (91 ≤ p ∧ p ≤ 97) → gR Z p k = if p = 1 ∧ k = 13 then bid B else if p = 63 ∧ k = 3 then u.1 else gR u p k := by
          intro p k h1 h2
          rw [(Zr p h1 h2).2.1, yR]
        have hmid : Agr (S4 (bid B) u.1) F4 u (u.1, Z.2.1, u.2.2.1, Z.2.2.2) := ⟨rfl, fun p hp => ⟨(ZP p hp).1, rfl, (ZP p hp).2.1, (ZP p hp).2.2⟩, Z82⟩
        have hRES : RES u Z B := by
          have hu : ∀ p, 91 ≤ p → p ≤ 96 → gA (sI (sI y 82 15 (0 : Int32)) 82 25 (nI (100 * B))) p = gA u p := fun p h1 h2 => by
            show gA y p = _
            rw [yA, if_neg (by omega)]
            exact c1.A (x := p) (by unfold SCb; omega)
          unfold RES
          rw [ZA]
          refine ⟨fun x hx => (r3 x (by omega)).trans (by rw [hu 91 (by decide) (by decide)]), fun x hx => ?_, fun i hi => (r5 i hi).trans (by rw [hu 96 (by decide) (by decide)])⟩
          obtain ⟨y1, y2, y3, y4⟩ := r4 x hx
          rw [hu 92 (by decide) (by decide)] at y1
          rw [hu 93 (by decide) (by decide)] at y2
          rw [hu 94 (by decide) (by decide)] at y3
          rw [hu 95 (by decide) (by decide)] at y4
          exact ⟨y1, y2, y3, y4⟩
        have Z05 : gI Z 0 5 = gI u 0 5 := by
          rw [(Zr 0 (by decide) (by decide)).1, yI, if_neg (by omega), if_neg (by omega), xI 0 (by decide), c1.I (x := 0) (by unfold SCb; omega)]
        have Z631 : gI Z 63 1 = 0 := by
          rw [(Zr 63 (by decide) (by decide)).1, yI, if_neg (by omega), if_neg (by omega), x631]
        obtain ⟨i1, i2, i3, i4, i5, i6⟩ := rest_br (z := Z) (B' := B + 1) (pgs' := fun k => if k = B then pg' else pgs k) hA (by omega) (fun k hk => if_neg (by omega)) (fun k => by rw [ZR 25 k (by decide) (by decide), if_neg (by omega), if_neg (by omega)]) Z05 hmid Z631 Z14
        have hbid1 : bid (B + 1) = u.1 := by
          rw [hn]
          unfold bid
          rw [if_neg (by omega)]
          omega
        have hS1 : ∀ p, p = 11 ∨ p = 12 ∨ p = 98 → S4 (bid B) u.1 p := fun p hp => by unfold S4; omega
        refine ⟨(cN K, cH K, cK K, cV K, cC K, cO K, cR K, pg'), w, B + 1, fun k => if k = B then pg' else pgs k, i1, ⟨by omega, ?_, Z12, by rw [Zn, hn]; omega, ?_, ?_, fun k hk => ?_, fun i hi => ?_⟩, ?_, i2, i3, i4, i5, i6⟩
        · rw [(Zr 0 (by decide) (by decide)).1, yI, if_pos ⟨rfl, rfl⟩]
        · rw [ZR 63 3 (by decide) (by decide), if_neg (by omega), if_pos ⟨rfl, rfl⟩, hbid1]
        · exact hPC0.of (by rw [(ZP 11 (hS1 11 (Or.inl rfl))).1]) (by rw [(ZP 11 (hS1 11 (Or.inl rfl))).1]) (by rw [(ZP 12 (hS1 12 (Or.inr (Or.inl rfl)))).2.1])
        · show pgOK (if k = B then pg' else pgs k) ∧ PC Z (bid k) (if k = B then pg' else pgs k) ∧ PM Z k (if k = B then pg' else pgs k)
          by_cases hkB : k = B
          · subst hkB
            rw [if_pos rfl]
            have hbb : bid k ≠ 82 ∧ ¬ (91 ≤ bid k ∧ bid k ≤ 97) ∧ bid k + 1 ≠ 82 ∧ ¬ (91 ≤ bid k + 1 ∧ bid k + 1 ≤ 97) := by omega
            have hI1 : ∀ j, gI Z (bid k) j = gI v' (bid k) j := fun j => by
              rw [(Zr _ hbb.1 hbb.2.1).1, yI, if_neg (by omega), if_neg (by omega), xI _ (by omega)]
            refine ⟨q31, ⟨q33 (Nat.zero_le _), (hI1 1).trans c4, (hI1 2).trans c5, fun i hi => ?_⟩, ?_, q32, fun c hc => ?_⟩
            · rw [(Zr _ hbb.2.2.1 hbb.2.2.2).2.2.1, yA, if_neg (by omega)]
              exact c6 i hi
            · rw [ZA]; exact m4
            · obtain ⟨w1, w2, w3⟩ := m3 c hc
              unfold CL
              rw [ZA]
              refine ⟨w1, w2, fun h2 => ?_⟩
              obtain ⟨p, y1, y2, y3, y4⟩ := w3 h2
              exact ⟨p, by omega, y2, y3, y4⟩
          · have hk' : k < B := by omega
            rw [if_neg hkB]
            obtain ⟨s1, s2⟩ := hS4 k hk'
            exact ⟨(hpgs k hk').1, (hpgs k hk').2.1.of (by rw [(ZP _ s1).1]) (by rw [(ZP _ s1).1]) (by rw [(ZP _ s2).2.1]), hPMr Z hRES k hk'⟩
        · rw [(ZP 98 (hS1 98 (Or.inr (Or.inr rfl)))).2.1]; exact h98 i hi
        · refine Or.inr ⟨B, by omega, Z13, ?_, ?_⟩
          · rw [ZR 1 13 (by decide) (by decide), if_pos ⟨rfl, rfl⟩]
          · show pg' = if B = B then pg' else pgs B
            rw [if_pos rfl]
