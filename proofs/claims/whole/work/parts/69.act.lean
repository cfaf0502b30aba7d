/-! act -/
def CS (u : Mem) (L : List Int32) (v : Mem) : Prop := ∃ f, v = sAr (sI u 67 1 (nI L.length)) 68 f ∧ ∀ j, j < L.length → j < 20 → f j = L.getD j 0
def RS (y : Mem) (L : List Int32) (z : Mem) : Prop := ∃ f, z = sAr (sI y 82 71 (nI L.length)) 124 f ∧ ∀ j, j < L.length → j < 20 → f j = L.getD j 0
def PRL (u y : Mem) (A B : Mem → Option (Int32 × Mem)) (c : Nat) : Prop := ∀ L v z, CS u L v → RS y L z → L.length + c ≤ 900 → ∃ r L' v' z', A v = some (r, v') ∧ B z = some (r, z') ∧ CS u L' v' ∧ RS y L' z' ∧ L'.length ≤ L.length + c
theorem PRL.cong {u y : Mem} {A B A' B' : Mem → Option (Int32 × Mem)} {c c' : Nat} (h : PRL u y A B c) (hA : ∀ L v, CS u L v → A' v = A v) (hB : ∀ L z, RS y L z → B' z = B z) (hc : c ≤ c') : PRL u y A' B' c' := by
  intro L v z hv hz hl
  obtain ⟨r, L', v', z', h1, h2, h3, h4, h5⟩ := h L v z hv hz (by omega)
  exact ⟨r, L', v', z', (hA L v hv).trans h1, (hB L z hz).trans h2, h3, h4, by omega⟩
theorem PRL.ret {u y : Mem} {A B : Mem → Option (Int32 × Mem)} (r : Int32) (hA : ∀ L v, CS u L v → A v = some (r, v)) (hB : ∀ L z, RS y L z → B z = some (r, z)) : PRL u y A B 0 :=
  fun L v z hv hz _ => ⟨r, L, v, z, hA L v hv, hB L z hz, hv, hz, Nat.le_refl _⟩
theorem PRL.seq {u y : Mem} {A1 B1 : Mem → Option (Int32 × Mem)} {A2 B2 : Int32 → Mem → Option (Int32 × Mem)} {c1 c2 : Nat} (h1 : PRL u y A1 B1 c1) (h2 : ∀ r, PRL u y (A2 r) (B2 r) c2) : PRL u y (fun v => obind (A1 v) A2) (fun z => obind (B1 z) B2) (c1 + c2) := by
  intro L v z hv hz hl
  obtain ⟨r, L', v', z', a1, a2, a3, a4, a5⟩ := h1 L v z hv hz (by omega)
  obtain ⟨r2, L2, v2, z2, b1, b2, b3, b4, b5⟩ := h2 r L' v' z' a3 a4 (by omega)
  exact ⟨r2, L2, v2, z2, (obind_of a1).trans b1, (obind_of a2).trans b2, b3, b4, by omega⟩
theorem getD_app {L : List Int32} {b : Int32} {j : Nat} : (L ++ [b]).getD j 0 = if j < L.length then L.getD j 0 else if j = L.length then b else 0 := by
  simp only [List.getD_eq_getElem?_getD]
  by_cases h : j < L.length
  · rw [if_pos h, List.getElem?_append_left h]
  · rw [if_neg h, List.getElem?_append_right (by omega)]
    by_cases q : j = L.length
    · rw [if_pos q, q]
      simp
    · rw [if_neg q]
      obtain ⟨k, hk⟩ : ∃ k, j - L.length = k + 1 := ⟨j - L.length - 1, by omega⟩
      rw [hk]
      rfl
theorem sI_sAr' (u : Mem) (a : Nat) (f : Nat → Int32) (t k : Nat) (x : Int32) : sI (sAr u a f) t k x = sAr (sI u t k x) a f := rfl
theorem CS.push {u v : Mem} {L : List Int32} (h : CS u L v) (b : Int32) : (20 ≤ L.length → CS u (L ++ [b]) (sI v 67 1 (nI (L.length + 1)))) ∧ (L.length < 20 → CS u (L ++ [b]) (sI (sA v 68 L.length b) 67 1 (nI (L.length + 1)))) := by
  obtain ⟨f, rfl, hf⟩ := h
  have hl : (L ++ [b]).length = L.length + 1 := by simp
  refine ⟨fun h20 => ⟨f, ?_, fun j h1 h2 => ?_⟩, fun h20 => ⟨upd f L.length b, ?_, fun j h1 h2 => ?_⟩⟩
  · rw [hl, sI_sAr', sI_sI]
  · rw [getD_app, if_pos (by omega)]
    exact hf j (by omega) h2
  · rw [hl, sA_sAr, sI_sAr', sI_sI]
  · rw [hl] at h1
    rw [getD_app, upd_eq]
    by_cases q : j = L.length
    · rw [if_pos q, if_neg (by omega), if_pos q]
    · rw [if_neg q, if_pos (by omega)]
      exact hf j (by omega) h2
theorem RS.push {y z : Mem} {L : List Int32} (h : RS y L z) (b : Int32) (hl : L.length ≤ 900) : ∃ z', f_X8_body b z = some ((), z') ∧ RS y (L ++ [b]) z' := by
  obtain ⟨f, rfl, hf⟩ := h
  have hL : (L ++ [b]).length = L.length + 1 := by simp
  have hg : ∀ g, gI (sAr (sI y 82 71 (nI L.length)) 124 g) 82 71 = nI L.length := fun g => by rw [gI_sAr, gI_sI_s]
  unfold f_X8_body
  rw [hg]
  by_cases h20 : 20 ≤ L.length
  · rw [if_pos (by (simp (disch := omega) only [le_I, lt_I, eq_I, nI_toInt, Int32.reduceToInt, ne_eq] <;> omega))]
    refine ⟨_, rfl, f, ?_, fun j h1 h2 => ?_⟩
    · rw [hL, nI_1, sI_sAr', sI_sI]
    · rw [getD_app, if_pos (by omega)]
      exact hf j (by omega) h2
  · rw [if_neg (by (simp (disch := omega) only [le_I, lt_I, eq_I, nI_toInt, Int32.reduceToInt, ne_eq] <;> omega)), gin_nI (by omega) (by decide), nI_clamp (by omega), sA_sAr, hg]
    refine ⟨_, rfl, upd f L.length b, ?_, fun j h1 h2 => ?_⟩
    · rw [hL, nI_1, sI_sAr', sI_sI]
    · rw [hL] at h1
      rw [getD_app, upd_eq]
      by_cases q : j = L.length
      · rw [if_pos q, if_neg (by omega), if_pos q]
      · rw [if_neg q, if_pos (by omega)]
        exact hf j (by omega) h2
def ownT : List Nat := [0, 0, 0, 0, 1, 0, 2, 0, 0, 0, 0, 3, 4, 4, 0, 2, 0, 5, 6, 6, 3]
theorem own_dec : ∀ k, k < 7 → ∀ a, a < 3 → whileO (fun s : Int32 × Int32 => f_X4_ownerOf_L4 (nI a) s.1 s.2) 12 (nI k, (0 : Int32)) = some (nI (ownT.getD (k * 3 + a) 0)) := by decide +kernel
theorem own_eq {k a : Nat} {v : Mem} (hk : k < 7) (ha : a < 3) : f_X4_ownerOf (nI k) (nI a) v = some (nI (ownT.getD (k * 3 + a) 0)) := by
  have h := own_dec k hk a ha
  exact (whileO_same (n := 12) (b := fun s : Int32 × Int32 => f_X4_ownerOf_L4 (nI a) s.1 s.2) (s := (nI k, (0 : Int32))) (by decide) (by rw [h]; rfl)).trans h
theorem ownT_lt : ∀ k, k < 7 → ∀ a, a < 3 → ownT.getD (k * 3 + a) 0 < 7 := by decide
theorem obind_id {x : Option (Int32 × Mem)} : obind x (fun r u => some (r, u)) = x := by
  cases x with
  | none => rfl
  | some p => rfl
/-- a body begins in both -/
theorem PRL.play {u y : Mem} {n d k a o c : Nat} {x ab b : Int32} {B : Mem → Option (Int32 × Mem)} (hk : k < 7) (ha : a < 3) (hd : d ≤ 20) (ho : ownT.getD (k * 3 + a) 0 = o) (hb : tBO.getD (o * 3 + a) 0 = b) (hab : tKA.getD o 0 = ab) (h : PRL u y (fun v => f_X4_rec n 1 b ab x (nI (d + 1)) v) B c) :
    PRL u y (fun v => f_X4_rec (n + 1) 0 (nI k) (nI a) x (nI d) v) (fun z => obind (f_X8_body b z) (fun _ z1 => B z1)) (c + 1) := by
  intro L v z hv hz hl
  obtain ⟨z1, p1, p2⟩ := hz.push b (by omega)
  obtain ⟨q1, q2⟩ := hv.push b
  have hL : (L ++ [b]).length = L.length + 1 := by simp
  have ho7 : o < 7 := by rw [← ho]; exact ownT_lt k hk a ha
  have hg : gI v 67 1 = nI L.length := by
    obtain ⟨f, rfl, -⟩ := hv
    rw [gI_sAr, gI_sI_s]
  have e3 : nI o * (3 : Int32) + nI a = nI (o * 3 + a) := by rw [show (3 : Int32) = nI 3 from rfl, nI_mul, nI_add]
  have key : ∃ v1, CS u (L ++ [b]) v1 ∧ f_X4_rec (n + 1) 0 (nI k) (nI a) x (nI d) v = f_X4_rec n 1 b ab x (nI (d + 1)) v1 := by
    by_cases h20 : 20 ≤ L.length
    · refine ⟨_, q1 h20, ?_⟩
      show f_X4_play_S (f_X4_rec n) (nI k) (nI a) x (nI d) v = _
      unfold f_X4_play_S
      rw [pbind_of (own_eq hk ha), ho, if_neg (by (simp (disch := omega) only [le_I, lt_I, eq_I, nI_toInt, Int32.reduceToInt, ne_eq] <;> omega)), if_pos (by (simp (disch := omega) only [le_I, lt_I, eq_I, nI_toInt, Int32.reduceToInt, ne_eq] <;> omega)), e3, gin_nI (by omega) (by decide), hg, if_pos (by (simp (disch := omega) only [le_I, lt_I, eq_I, nI_toInt, Int32.reduceToInt, ne_eq] <;> omega)), gin_nI ho7 (by decide), nI_clamp (by omega), nI_clamp (by omega), hb, hab, obind_id, nI_1, nI_1]
    · refine ⟨_, q2 (by omega), ?_⟩
      show f_X4_play_S (f_X4_rec n) (nI k) (nI a) x (nI d) v = _
      unfold f_X4_play_S
      rw [pbind_of (own_eq hk ha), ho, if_neg (by (simp (disch := omega) only [le_I, lt_I, eq_I, nI_toInt, Int32.reduceToInt, ne_eq] <;> omega)), if_pos (by (simp (disch := omega) only [le_I, lt_I, eq_I, nI_toInt, Int32.reduceToInt, ne_eq] <;> omega)), e3, gin_nI (show o * 3 + a < 21 by omega) (by decide), gI_sA, hg, if_neg (by (simp (disch := omega) only [le_I, lt_I, eq_I, nI_toInt, Int32.reduceToInt, ne_eq] <;> omega)), gin_nI (show L.length < 20 by omega) (by decide), gin_nI ho7 (by decide), nI_clamp (by omega), nI_clamp (by omega), nI_clamp (by omega), hb, hab, obind_id, nI_1, nI_1]
  obtain ⟨v1, k1, k2⟩ := key
  obtain ⟨r, L', v', z', r1, r2, r3, r4, r5⟩ := h (L ++ [b]) v1 z1 k1 p2 (by omega)
  exact ⟨r, L', v', z', k2.trans r1, (obind_of p1).trans r2, r3, r4, by omega⟩
/-- who acts -/
def ACT (u y : Mem) (i K : Nat) (w : Int32) : Prop := i < 6 ∧ K < 7 ∧ gI u 67 2 = nI i ∧ gI u 67 3 = nI K ∧ gI u 67 4 = w ∧ gA y 83 i = nI K ∧ gA y 84 i = w
theorem CS.f {u v : Mem} {L : List Int32} (h : CS u L v) {k : Nat} (hk : k ≠ 1) : gI v 67 k = gI u 67 k := by
  obtain ⟨f, rfl, -⟩ := h
  rw [gI_sAr, gI_sI_k hk]
theorem RS.a {y z : Mem} {L : List Int32} (h : RS y L z) {a : Nat} (ha : a ≠ 124) : gA z a = gA y a := by
  obtain ⟨f, rfl, -⟩ := h
  exact gA_sAr_n ha
theorem act_run {n : Nat} {b ab x p : Int32} {v : Mem} : f_X4_rec (n + 1) 1 b ab x p v = f_X4_run_S (f_X4_rec n) b ab x p v := rfl
theorem hums1 {u y : Mem} {i K : Nat} {w : Int32} (hA : ACT u y i K w) (n d k : Nat) (x : Int32) (hk : k < 7) (hd : d ≤ 20) (ho : ownT.getD (k * 3 + 0) 0 = 0) : PRL u y (fun v => f_X4_rec (n + 2) 0 (nI k) (nI 0) x (nI d) v) (f_X8_oneHums (nI i) x) 1 := by
  refine (PRL.play (n := n + 1) (o := 0) (ab := -1) (b := 10) hk (by decide) hd ho rfl rfl (B := fun z => some (x + nI i, z)) (c := 0) ?_).cong (fun _ _ _ => rfl) (fun _ _ _ => rfl) (Nat.le_refl _)
  refine PRL.ret (x + nI i) (fun L v hv => ?_) (fun L z hz => rfl)
  rw [act_run]
  unfold f_X4_run_S
  rw [if_pos rfl, hv.f (by decide), hA.2.2.1]
theorem humsA {u y : Mem} {i K : Nat} {w : Int32} (hA : ACT u y i K w) (n d : Nat) (x : Int32) (hd : d ≤ 18) : PRL u y (fun v => f_X4_rec (n + 4) 0 (nI K) (nI 0) x (nI d) v) (f_X8_humsAct (nI i) x) 2 := by
  obtain ⟨hi, hK, a1, a2, a3, a4, a5⟩ := id hA
  have hB : ∀ L z, RS y L z → f_X8_humsAct (nI i) x z = (if nI K = (2 : Int32) then obind (f_X8_body (30 : Int32) z) (fun _ u3 => obind (f_X8_oneHums (nI i) (x * (3 : Int32)) u3) (fun r4 u4 => some (r4, u4))) else (if nI K = (4 : Int32) then obind (f_X8_body (50 : Int32) z) (fun _ u6 => obind (f_X8_oneHums (nI i) x u6) (fun r7 u7 => some (-r7, u7))) else (if nI K = (5 : Int32) then obind (f_X8_body (30 : Int32) z) (fun _ u9 => obind (f_X8_oneHums (nI i) (x * (3 : Int32)) u9) (fun r10 u10 => some (r10, u10))) else (if nI K = (6 : Int32) then obind (f_X8_body (71 : Int32) z) (fun _ u12 => obind (f_X8_oneHums (nI i) x u12) (fun r13 u13 => gin (nI i) 6 (some (r13 ^^^ (gA u13 84 i), u13)))) else obind (f_X8_oneHums (nI i) x z) (fun r15 u15 => some (r15, u15)))))) := by
    intro L z hz
    unfold f_X8_humsAct
    rw [gin_nI hi (by decide), nI_clamp (by omega), hz.a (by decide), a4]
  have hh : K = 0 ∨ K = 1 ∨ K = 2 ∨ K = 3 ∨ K = 4 ∨ K = 5 ∨ K = 6 := by omega
  have hone : ∀ k, k < 7 → ownT.getD (k * 3 + 0) 0 = 0 → PRL u y (fun v => f_X4_rec (n + 2) 0 (nI k) (nI 0) x (nI (d + 1)) v) (f_X8_oneHums (nI i) x) 1 := fun k hk ho => hums1 hA n (d + 1) k x hk (by omega) ho
  have hone3 : PRL u y (fun v => f_X4_rec (n + 2) 0 (nI 0) (nI 0) (x * (3 : Int32)) (nI (d + 1)) v) (f_X8_oneHums (nI i) (x * (3 : Int32))) 1 := hums1 hA n (d + 1) 0 _ (by decide) (by omega) rfl
  rcases hh with rfl | rfl | rfl | rfl | rfl | rfl | rfl
  · refine (hums1 hA (n + 2) d 0 x (by decide) (by omega) rfl).cong (fun _ _ _ => rfl) (fun L z hz => ?_) (by decide)
    rw [hB L z hz, if_neg (by decide), if_neg (by decide), if_neg (by decide), if_neg (by decide), obind_id]
  · refine (hums1 hA (n + 2) d 1 x (by decide) (by omega) rfl).cong (fun _ _ _ => rfl) (fun L z hz => ?_) (by decide)
    rw [hB L z hz, if_neg (by decide), if_neg (by decide), if_neg (by decide), if_neg (by decide), obind_id]
  · refine (PRL.play (n := n + 3) (k := 2) (a := 0) (o := 2) (ab := 0) (b := 30) (d := d) (x := x) (by decide) (by decide) (by omega) rfl rfl rfl (B := f_X8_oneHums (nI i) (x * (3 : Int32))) (c := 1) ?_).cong (fun _ _ _ => rfl) (fun L z hz => ?_) (by decide)
    · refine hone3.cong (fun L v hv => ?_) (fun _ _ _ => rfl) (Nat.le_refl _)
      rw [act_run]
      unfold f_X4_run_S
      rw [if_neg (by decide), if_neg (by decide), if_neg (by decide), if_neg (by decide), if_pos rfl, obind_id]
      rfl
    · rw [hB L z hz, if_pos (show nI 2 = 2 from rfl)]
      simp only [obind_id]
  · refine (hums1 hA (n + 2) d 3 x (by decide) (by omega) rfl).cong (fun _ _ _ => rfl) (fun L z hz => ?_) (by decide)
    rw [hB L z hz, if_neg (by decide), if_neg (by decide), if_neg (by decide), if_neg (by decide), obind_id]
  · refine (PRL.play (n := n + 3) (k := 4) (a := 0) (o := 4) (ab := 1) (b := 50) (d := d) (x := x) (by decide) (by decide) (by omega) rfl rfl rfl (B := fun u6 => obind (f_X8_oneHums (nI i) x u6) (fun r7 u7 => some (-r7, u7))) (c := 1 + 0) ?_).cong (fun _ _ _ => rfl) (fun L z hz => ?_) (by decide)
    · refine ((hone 1 (by decide) rfl).seq (A2 := fun r u => some (-r, u)) (B2 := fun r u => some (-r, u)) (fun r => PRL.ret (-r) (fun _ _ _ => rfl) (fun _ _ _ => rfl))).cong (fun L v hv => ?_) (fun _ _ _ => rfl) (Nat.le_refl _)
      rw [act_run]
      unfold f_X4_run_S
      rw [if_neg (by decide), if_neg (by decide), if_neg (by decide), if_neg (by decide), if_neg (by decide), if_neg (by decide), if_pos rfl]
      rfl
    · rw [hB L z hz, if_neg (by decide), if_pos (show nI 4 = 4 from rfl)]
  · refine (PRL.play (n := n + 3) (k := 5) (a := 0) (o := 2) (ab := 0) (b := 30) (d := d) (x := x) (by decide) (by decide) (by omega) rfl rfl rfl (B := f_X8_oneHums (nI i) (x * (3 : Int32))) (c := 1) ?_).cong (fun _ _ _ => rfl) (fun L z hz => ?_) (by decide)
    · refine hone3.cong (fun L v hv => ?_) (fun _ _ _ => rfl) (Nat.le_refl _)
      rw [act_run]
      unfold f_X4_run_S
      rw [if_neg (by decide), if_neg (by decide), if_neg (by decide), if_neg (by decide), if_pos rfl, obind_id]
      rfl
    · rw [hB L z hz, if_neg (by decide), if_neg (by decide), if_pos (show nI 5 = 5 from rfl)]
      simp only [obind_id]
  · refine (PRL.play (n := n + 3) (k := 6) (a := 0) (o := 6) (ab := 3) (b := 71) (d := d) (x := x) (by decide) (by decide) (by omega) rfl rfl rfl (B := fun u12 => obind (f_X8_oneHums (nI i) x u12) (fun r13 u13 => gin (nI i) 6 (some (r13 ^^^ (gA u13 84 i), u13)))) (c := 1 + 0) ?_).cong (fun _ _ _ => rfl) (fun L z hz => ?_) (by decide)
    · refine ((hone 3 (by decide) rfl).seq (A2 := fun r u => some (r ^^^ gI u 67 4, u)) (B2 := fun r13 u13 => gin (nI i) 6 (some (r13 ^^^ (gA u13 84 i), u13))) (fun r => PRL.ret (r ^^^ w) (fun L v hv => ?_) (fun L z hz => ?_))).cong (fun L v hv => ?_) (fun _ _ _ => rfl) (Nat.le_refl _)
      · rw [hv.f (by decide), a3]
      · rw [gin_nI hi (by decide), hz.a (by decide), a5]
      · rw [act_run]
        unfold f_X4_run_S
        rw [if_neg (by decide), if_neg (by decide), if_neg (by decide), if_neg (by decide), if_neg (by decide), if_neg (by decide), if_neg (by decide), if_neg (by decide), if_neg (by decide), if_neg (by decide), if_pos rfl]
        rfl
    · rw [hB L z hz, if_neg (by decide), if_neg (by decide), if_neg (by decide), if_pos (show nI 6 = 6 from rfl)]
theorem leans1 {u y : Mem} {i K : Nat} {w : Int32} (hA : ACT u y i K w) (n d k : Nat) (x : Int32) (hk : k < 7) (hd : d ≤ 17) (ho : ownT.getD (k * 3 + 1) 0 = 0) : PRL u y (fun v => f_X4_rec (n + 6) 0 (nI k) (nI 1) x (nI d) v) (f_X8_oneLeans (nI i) x) 3 := by
  obtain ⟨hi, hK, a1, a2, a3, a4, a5⟩ := id hA
  refine (PRL.play (n := n + 5) (k := k) (a := 1) (o := 0) (ab := -1) (b := 11) (d := d) (x := x) hk (by decide) (by omega) ho rfl rfl (B := fun u1 => obind (f_X8_humsAct (nI i) x u1) (fun r2 u2 => gin (nI i) 6 (some (r2 - (gA u2 84 i), u2)))) (c := 2 + 0) ?_).cong (fun _ _ _ => rfl) (fun L z hz => ?_) (by decide)
  · refine ((humsA hA n (d + 1) x (by omega)).seq (A2 := fun r u => some (r - gI u 67 4, u)) (B2 := fun r2 u2 => gin (nI i) 6 (some (r2 - (gA u2 84 i), u2))) (fun r => PRL.ret (r - w) (fun L v hv => ?_) (fun L z hz => ?_))).cong (fun L v hv => ?_) (fun _ _ _ => rfl) (Nat.le_refl _)
    · rw [hv.f (by decide), a3]
    · rw [gin_nI hi (by decide), hz.a (by decide), a5]
    · rw [act_run]
      unfold f_X4_run_S
      rw [if_neg (by decide), if_pos rfl, hv.f (by decide), a2]
      rfl
  · unfold f_X8_oneLeans
    rw [nI_clamp (by omega)]
theorem girl1 {u y : Mem} {i K : Nat} {w : Int32} (hA : ACT u y i K w) (n d : Nat) (x : Int32) (hd : d ≤ 16) : PRL u y (fun v => f_X4_rec (n + 8) 0 (nI 1) (nI 1) x (nI d) v) (f_X8_girlLeans (nI i) x) 4 := by
  refine (PRL.play (n := n + 7) (k := 1) (a := 1) (o := 1) (ab := 0) (b := 20) (d := d) (x := x) (by decide) (by decide) (by omega) rfl rfl rfl (B := fun u1 => obind (f_X8_oneLeans (nI i) x u1) (fun r2 u2 => some (r2 ^^^ (6 : Int32), u2))) (c := 3 + 0) ?_).cong (fun _ _ _ => rfl) (fun L z hz => rfl) (by decide)
  refine ((leans1 hA n (d + 1) 0 x (by decide) (by omega) rfl).seq (A2 := fun r u => some (r ^^^ (6 : Int32), u)) (B2 := fun r u => some (r ^^^ (6 : Int32), u)) (fun r => PRL.ret (r ^^^ 6) (fun _ _ _ => rfl) (fun _ _ _ => rfl))).cong (fun L v hv => ?_) (fun _ _ _ => rfl) (Nat.le_refl _)
  rw [act_run]
  unfold f_X4_run_S
  rw [if_neg (by decide), if_neg (by decide), if_neg (by decide), if_pos rfl]
  rfl
theorem leansA {u y : Mem} {i K : Nat} {w : Int32} (hA : ACT u y i K w) (n d : Nat) (x : Int32) (hd : d ≤ 15) : PRL u y (fun v => f_X4_rec (n + 10) 0 (nI K) (nI 1) x (nI d) v) (f_X8_leansAct (nI i) x) 5 := by
  obtain ⟨hi, hK, a1, a2, a3, a4, a5⟩ := id hA
  have hB : ∀ L z, RS y L z → f_X8_leansAct (nI i) x z = (if nI K = (1 : Int32) then obind (f_X8_girlLeans (nI i) x z) (fun r3 u3 => some (r3, u3)) else (if nI K = (4 : Int32) then obind (f_X8_body (51 : Int32) z) (fun _ u5 => obind (f_X8_girlLeans (nI i) (x + (1 : Int32)) u5) (fun r6 u6 => some (r6, u6))) else (if nI K = (6 : Int32) then obind (f_X8_body (70 : Int32) z) (fun _ u8 => obind (f_X8_oneLeans (nI i) x u8) (fun r9 u9 => obind (f_X8_oneHums (nI i) (2 : Int32) u9) (fun r10 u10 => some (r9 + r10, u10)))) else obind (f_X8_oneLeans (nI i) x z) (fun r11 u11 => some (r11, u11))))) := by
    intro L z hz
    unfold f_X8_leansAct
    rw [gin_nI hi (by decide), nI_clamp (by omega), hz.a (by decide), a4]
  have hh : K = 0 ∨ K = 1 ∨ K = 2 ∨ K = 3 ∨ K = 4 ∨ K = 5 ∨ K = 6 := by omega
  have hd' : ∀ k, k < 7 → ownT.getD (k * 3 + 1) 0 = 0 → K = k → ¬ nI K = (1 : Int32) → ¬ nI K = (4 : Int32) → ¬ nI K = (6 : Int32) → PRL u y (fun v => f_X4_rec (n + 10) 0 (nI K) (nI 1) x (nI d) v) (f_X8_leansAct (nI i) x) 5 := by
    rintro k hk ho rfl n1 n4 n6
    refine (leans1 hA (n + 4) d K x hk (by omega) ho).cong (fun _ _ _ => rfl) (fun L z hz => ?_) (by decide)
    rw [hB L z hz, if_neg n1, if_neg n4, if_neg n6, obind_id]
  rcases hh with h | h | h | h | h | h | h
  · exact hd' 0 (by decide) rfl h (by rw [h]; decide) (by rw [h]; decide) (by rw [h]; decide)
  · subst h
    refine (girl1 hA (n + 2) d x (by omega)).cong (fun _ _ _ => rfl) (fun L z hz => ?_) (by decide)
    rw [hB L z hz, if_pos (show nI 1 = 1 from rfl), obind_id]
  · exact hd' 2 (by decide) rfl h (by rw [h]; decide) (by rw [h]; decide) (by rw [h]; decide)
  · exact hd' 3 (by decide) rfl h (by rw [h]; decide) (by rw [h]; decide) (by rw [h]; decide)
  · subst h
    refine (PRL.play (n := n + 9) (k := 4) (a := 1) (o := 4) (ab := 1) (b := 51) (d := d) (x := x) (by decide) (by decide) (by omega) rfl rfl rfl (B := f_X8_girlLeans (nI i) (x + (1 : Int32))) (c := 4) ?_).cong (fun _ _ _ => rfl) (fun L z hz => ?_) (by decide)
    · refine (girl1 hA n (d + 1) (x + (1 : Int32)) (by omega)).cong (fun L v hv => ?_) (fun _ _ _ => rfl) (Nat.le_refl _)
      rw [act_run]
      unfold f_X4_run_S
      rw [if_neg (by decide), if_neg (by decide), if_neg (by decide), if_neg (by decide), if_neg (by decide), if_neg (by decide), if_neg (by decide), if_pos rfl, obind_id]
      rfl
    · rw [hB L z hz, if_neg (by decide), if_pos (show nI 4 = 4 from rfl)]
      simp only [obind_id]
  · exact hd' 5 (by decide) rfl h (by rw [h]; decide) (by rw [h]; decide) (by rw [h]; decide)
  · subst h
    refine (PRL.play (n := n + 9) (k := 6) (a := 1) (o := 6) (ab := 3) (b := 70) (d := d) (x := x) (by decide) (by decide) (by omega) rfl rfl rfl (B := fun u8 => obind (f_X8_oneLeans (nI i) x u8) (fun r9 u9 => obind (f_X8_oneHums (nI i) (2 : Int32) u9) (fun r10 u10 => some (r9 + r10, u10)))) (c := 3 + (1 + 0)) ?_).cong (fun _ _ _ => rfl) (fun L z hz => ?_) (by decide)
    · refine ((leans1 hA (n + 2) (d + 1) 3 x (by decide) (by omega) rfl).seq (A2 := fun r9 u9 => obind (f_X4_rec (n + 8) 0 (nI 3) (nI 0) (2 : Int32) (nI (d + 1)) u9) (fun r10 u10 => some (r9 + r10, u10))) (B2 := fun r9 u9 => obind (f_X8_oneHums (nI i) (2 : Int32) u9) (fun r10 u10 => some (r9 + r10, u10))) (fun r => (hums1 hA (n + 6) (d + 1) 3 2 (by decide) (by omega) rfl).seq (A2 := fun r10 u10 => some (r + r10, u10)) (B2 := fun r10 u10 => some (r + r10, u10)) (fun r2 => PRL.ret (r + r2) (fun _ _ _ => rfl) (fun _ _ _ => rfl)))).cong (fun L v hv => ?_) (fun _ _ _ => rfl) (Nat.le_refl _)
      rw [act_run]
      unfold f_X4_run_S
      rw [if_neg (by decide), if_neg (by decide), if_neg (by decide), if_neg (by decide), if_neg (by decide), if_neg (by decide), if_neg (by decide), if_neg (by decide), if_neg (by decide), if_pos rfl]
      rfl
    · rw [hB L z hz, if_neg (by decide), if_neg (by decide), if_pos (show nI 6 = 6 from rfl)]
theorem tells1 {u y : Mem} {i K : Nat} {w : Int32} (hA : ACT u y i K w) (n d k : Nat) (x : Int32) (hk : k < 7) (hd : d ≤ 14) (ho : ownT.getD (k * 3 + 2) 0 = 0) : PRL u y (fun v => f_X4_rec (n + 12) 0 (nI k) (nI 2) x (nI d) v) (f_X8_oneTells (nI i) x) 6 := by
  obtain ⟨hi, hK, a1, a2, a3, a4, a5⟩ := id hA
  refine (PRL.play (n := n + 11) (k := k) (a := 2) (o := 0) (ab := -1) (b := 12) (d := d) (x := x) hk (by decide) (by omega) ho rfl rfl (B := fun u1 => obind (f_X8_leansAct (nI i) x u1) (fun r2 u2 => some (r2 * (2 : Int32), u2))) (c := 5 + 0) ?_).cong (fun _ _ _ => rfl) (fun L z hz => rfl) (by decide)
  refine ((leansA hA n (d + 1) x (by omega)).seq (A2 := fun r u => some (r * (2 : Int32), u)) (B2 := fun r u => some (r * (2 : Int32), u)) (fun r => PRL.ret (r * 2) (fun _ _ _ => rfl) (fun _ _ _ => rfl))).cong (fun L v hv => ?_) (fun _ _ _ => rfl) (Nat.le_refl _)
  rw [act_run]
  unfold f_X4_run_S
  rw [if_neg (by decide), if_neg (by decide), if_pos rfl, hv.f (by decide), a2]
  rfl
theorem scandal1 {u y : Mem} {i K : Nat} {w : Int32} (hA : ACT u y i K w) (n d k : Nat) (x : Int32) (hk : k < 7) (hd : d ≤ 13) (ho : ownT.getD (k * 3 + 2) 0 = 3) : PRL u y (fun v => f_X4_rec (n + 14) 0 (nI k) (nI 2) x (nI d) v) (fun z => obind (f_X8_body (40 : Int32) z) (fun _ u3 => obind (f_X8_oneTells (nI i) x u3) (fun r4 u4 => obind (f_X8_leansAct (nI i) (1 : Int32) u4) (fun r5 u5 => some (r4 + r5, u5))))) 12 := by
  obtain ⟨hi, hK, a1, a2, a3, a4, a5⟩ := id hA
  refine (PRL.play (n := n + 13) (k := k) (a := 2) (o := 3) (ab := 0) (b := 40) (d := d) (x := x) hk (by decide) (by omega) ho rfl rfl (B := fun u3 => obind (f_X8_oneTells (nI i) x u3) (fun r4 u4 => obind (f_X8_leansAct (nI i) (1 : Int32) u4) (fun r5 u5 => some (r4 + r5, u5)))) (c := 6 + (5 + 0)) ?_).cong (fun _ _ _ => rfl) (fun L z hz => rfl) (by decide)
  refine ((tells1 hA n (d + 1) 0 x (by decide) (by omega) rfl).seq (A2 := fun r11 u11 => obind (f_X4_rec (n + 12) 0 (gI u11 67 3) (1 : Int32) (1 : Int32) (nI (d + 1)) u11) (fun r12 u12 => some (r11 + r12, u12))) (B2 := fun r4 u4 => obind (f_X8_leansAct (nI i) (1 : Int32) u4) (fun r5 u5 => some (r4 + r5, u5))) (fun r => ?_)).cong (fun L v hv => ?_) (fun _ _ _ => rfl) (Nat.le_refl _)
  · refine ((leansA hA (n + 2) (d + 1) 1 (by omega)).seq (A2 := fun r12 u12 => some (r + r12, u12)) (B2 := fun r12 u12 => some (r + r12, u12)) (fun r2 => PRL.ret (r + r2) (fun _ _ _ => rfl) (fun _ _ _ => rfl))).cong (fun L v hv => ?_) (fun _ _ _ => rfl) (Nat.le_refl _)
    rw [hv.f (by decide), a2]
    rfl
  · rw [act_run]
    unfold f_X4_run_S
    rw [if_neg (by decide), if_neg (by decide), if_neg (by decide), if_neg (by decide), if_neg (by decide), if_pos rfl]
    rfl
theorem tellsA {u y : Mem} {i K : Nat} {w : Int32} (hA : ACT u y i K w) (n d : Nat) (x : Int32) (hd : d ≤ 13) : PRL u y (fun v => f_X4_rec (n + 14) 0 (nI K) (nI 2) x (nI d) v) (f_X8_tellsAct (nI i) x) 12 := by
  obtain ⟨hi, hK, a1, a2, a3, a4, a5⟩ := id hA
  have hB : ∀ L z, RS y L z → f_X8_tellsAct (nI i) x z = (if nI K = (3 : Int32) then obind (f_X8_body (40 : Int32) z) (fun _ u3 => obind (f_X8_oneTells (nI i) x u3) (fun r4 u4 => obind (f_X8_leansAct (nI i) (1 : Int32) u4) (fun r5 u5 => some (r4 + r5, u5)))) else (if nI K = (5 : Int32) then obind (f_X8_body (60 : Int32) z) (fun _ u7 => obind (f_X8_oneTells (nI i) (x - nI i) u7) (fun r8 u8 => some (r8, u8))) else (if nI K = (6 : Int32) then obind (f_X8_body (40 : Int32) z) (fun _ u3 => obind (f_X8_oneTells (nI i) x u3) (fun r4 u4 => obind (f_X8_leansAct (nI i) (1 : Int32) u4) (fun r5 u5 => some (r4 + r5, u5)))) else obind (f_X8_oneTells (nI i) x z) (fun r13 u13 => some (r13, u13))))) := by
    intro L z hz
    unfold f_X8_tellsAct
    rw [gin_nI hi (by decide), nI_clamp (by omega), hz.a (by decide), a4]
  have hh : K = 0 ∨ K = 1 ∨ K = 2 ∨ K = 3 ∨ K = 4 ∨ K = 5 ∨ K = 6 := by omega
  have hd' : ∀ k, k < 7 → ownT.getD (k * 3 + 2) 0 = 0 → K = k → ¬ nI K = (3 : Int32) → ¬ nI K = (5 : Int32) → ¬ nI K = (6 : Int32) → PRL u y (fun v => f_X4_rec (n + 14) 0 (nI K) (nI 2) x (nI d) v) (f_X8_tellsAct (nI i) x) 12 := by
    rintro k hk ho rfl n1 n4 n6
    refine (tells1 hA (n + 2) d K x hk (by omega) ho).cong (fun _ _ _ => rfl) (fun L z hz => ?_) (by decide)
    rw [hB L z hz, if_neg n1, if_neg n4, if_neg n6, obind_id]
  rcases hh with h | h | h | h | h | h | h
  · exact hd' 0 (by decide) rfl h (by rw [h]; decide) (by rw [h]; decide) (by rw [h]; decide)
  · exact hd' 1 (by decide) rfl h (by rw [h]; decide) (by rw [h]; decide) (by rw [h]; decide)
  · exact hd' 2 (by decide) rfl h (by rw [h]; decide) (by rw [h]; decide) (by rw [h]; decide)
  · subst h
    refine (scandal1 hA n d 3 x (by decide) hd rfl).cong (fun _ _ _ => rfl) (fun L z hz => ?_) (by decide)
    rw [hB L z hz, if_pos (show nI 3 = 3 from rfl)]
  · exact hd' 4 (by decide) rfl h (by rw [h]; decide) (by rw [h]; decide) (by rw [h]; decide)
  · subst h
    refine (PRL.play (n := n + 13) (k := 5) (a := 2) (o := 5) (ab := 2) (b := 60) (d := d) (x := x) (by decide) (by decide) (by omega) rfl rfl rfl (B := f_X8_oneTells (nI i) (x - nI i)) (c := 6) ?_).cong (fun _ _ _ => rfl) (fun L z hz => ?_) (by decide)
    · refine (tells1 hA n (d + 1) 2 (x - nI i) (by decide) (by omega) rfl).cong (fun L v hv => ?_) (fun _ _ _ => rfl) (Nat.le_refl _)
      rw [act_run]
      unfold f_X4_run_S
      rw [if_neg (by decide), if_neg (by decide), if_neg (by decide), if_neg (by decide), if_neg (by decide), if_neg (by decide), if_neg (by decide), if_neg (by decide), if_pos rfl, obind_id, hv.f (by decide), a1]
      rfl
    · rw [hB L z hz, if_neg (by decide), if_pos (show nI 5 = 5 from rfl)]
      simp only [obind_id]
  · subst h
    refine (scandal1 hA n d 6 x (by decide) hd rfl).cong (fun _ _ _ => rfl) (fun L z hz => ?_) (by decide)
    rw [hB L z hz, if_neg (by decide), if_neg (by decide), if_pos (show nI 6 = 6 from rfl)]
theorem CS.nil {u : Mem} (h : gI u 67 1 = 0) : CS u [] u := by
  refine ⟨gA u 68, ?_, fun j hj => absurd hj (Nat.not_lt_zero j)⟩
  have e : sI u 67 1 (nI ([] : List Int32).length) = u := by
    have := sI_self u 67 1
    rw [h] at this
    exact this
  rw [e, sAr_self]
theorem RS.nil {u : Mem} (h : gI u 82 71 = 0) : RS u [] u := by
  refine ⟨gA u 124, ?_, fun j hj => absurd hj (Nat.not_lt_zero j)⟩
  have e : sI u 82 71 (nI ([] : List Int32).length) = u := by
    have := sI_self u 82 71
    rw [h] at this
    exact this
  rw [e, sAr_self]
theorem st_act {u : Mem} (hI : Inv u) (p a x : Int32) : okS u (f_X7_act p a x u) (f_X8_act p a x) := by
  obtain ⟨K, w, B, pgs, hA⟩ := hI
  obtain ⟨⟨hn6, hn1⟩, -, a3, -⟩ := hA.1.1
  have hm1 := hA.1.2.2.1.1
  have b3 := hA.1.2.2.1.2.2.1
  have hno : okS u (some ((0 : Int32), sI u 67 1 (0 : Int32))) (fun v => some ((0 : Int32), sI v 82 71 (0 : Int32))) := by
    refine ⟨_, _, _, rfl, rfl, K, w, B, pgs, hA.stage (((Agr.rf _ _ _).si (by unfold SS; omega) (Or.inl (by decide))).si (by unfold SS; omega) (Or.inr (by unfold FS; omega))) ⟨0, by decide, rfl, rfl, fun i hi => absurd hi (Nat.not_lt_zero i)⟩⟩
  have hM0 : ∀ v : Mem, gI v 82 0 = nI (cN K) → f_X8_isOne p (sI v 82 71 (0 : Int32)) = some (bI (wn p (cN K))) := fun v hv => isOne_eq hn6 hv
  unfold f_X7_act
  rw [pbind_of (isPerson_eq (u := sI u 67 1 (0 : Int32)) hn6 hn1)]
  cases hp : wn p (cN K)
  · obtain ⟨r, u1, u2, h1, h2, h3⟩ := hno
    refine ⟨r, u1, u2, h1, ?_, h3⟩
    cases h1
    unfold f_X8_act
    rw [pbind_of (hM0 (sI u 67 1 (0 : Int32)) hm1), hp]
    exact (if_pos bf).trans h2
  · rw [if_neg bt, pbind_of (isWithin_eq (N := 3) rfl)]
    cases ha : wn a 3
    · obtain ⟨r, u1, u2, h1, h2, h3⟩ := hno
      refine ⟨r, u1, u2, h1, ?_, h3⟩
      cases h1
      unfold f_X8_act
      rw [pbind_of (hM0 (sI u 67 1 (0 : Int32)) hm1), hp, if_neg bt, pbind_of (in_eq (N := 3) rfl), ha]
      exact (if_pos bf).trans h2
    · obtain ⟨i, hi, rfl⟩ := wn_of hp
      obtain ⟨t, ht, rfl⟩ := wn_of ha
      have hi6 : i < 6 := by omega
      obtain ⟨k, hk, hke⟩ := hA.1.2.2.2.2.1 i hi6
      rw [if_neg bt, gin_nI hi6 (by decide), gin_nI hi6 (by decide), nI_clamp (by omega), obind_id]
      have e4 : gA u 4 i = nI k := (a3 i hi6).1.trans hke
      have e5 : gA u 5 i = cV K i := (a3 i hi6).2.1
      have hx : ∀ y1 y2 y3 : Mem, gA y1 4 i = nI k → gA y2 4 i = nI k → gA y3 5 i = cV K i → sI (sI (sI (sI u 67 1 (0 : Int32)) 67 2 (nI i)) 67 3 (gA y1 4 i)) 67 4 (gA y3 5 i) = sI (sI (sI (sI u 67 1 (0 : Int32)) 67 2 (nI i)) 67 3 (nI k)) 67 4 (cV K i) := by
        intro y1 y2 y3 h1 h2 h3
        rw [h1, h3]
      rw [show gA (sI (sI u 67 1 (0 : Int32)) 67 2 (nI i)) 4 i = nI k from e4, show gA (sI (sI (sI u 67 1 (0 : Int32)) 67 2 (nI i)) 67 3 (nI k)) 5 i = cV K i from e5]
      obtain ⟨u0, hu0⟩ : ∃ u0, u0 = sI (sI (sI (sI u 67 1 (0 : Int32)) 67 2 (nI i)) 67 3 (nI k)) 67 4 (cV K i) := ⟨_, rfl⟩
      rw [← hu0]
      have g1 : gI u0 67 1 = 0 := by rw [hu0, gI_sI_k (by decide), gI_sI_k (by decide), gI_sI_k (by decide), gI_sI_s]
      have g2 : gI u0 67 2 = nI i := by rw [hu0, gI_sI_k (by decide), gI_sI_k (by decide), gI_sI_s]
      have g3 : gI u0 67 3 = nI k := by rw [hu0, gI_sI_k (by decide), gI_sI_s]
      have g4 : gI u0 67 4 = cV K i := by rw [hu0, gI_sI_s]
      have hag : Agr SS FS u u0 := by
        rw [hu0]
        exact ((((Agr.rf _ _ _).si (by unfold SS; omega) (Or.inl (by decide))).si (by unfold SS; omega) (Or.inl (by decide))).si (by unfold SS; omega) (Or.inl (by decide))).si (by unfold SS; omega) (Or.inl (by decide))
      clear hu0 hx
      rw [g3]
      have hACT : ∀ y : Mem, gA y 83 = gA u 83 → gA y 84 = gA u 84 → ACT u0 y i k (cV K i) := fun y h1 h2 => ⟨hi6, hk, g2, g3, g4, by rw [h1]; exact (b3 i hi6).1.trans hke, by rw [h2]; exact (b3 i hi6).2.1⟩
      have hmain : ∀ y : Mem, gA y 83 = gA u 83 → gA y 84 = gA u 84 → PRL u0 y (fun v => f_X4_play (nI k) (nI t) x (0 : Int32) v) (fun z => if nI t = 0 then f_X8_humsAct (nI i) x z else if nI t = (1 : Int32) then f_X8_leansAct (nI i) x z else f_X8_tellsAct (nI i) x z) 12 := by
        intro y h1 h2
        have hc := hACT y h1 h2
        have hh : t = 0 ∨ t = 1 ∨ t = 2 := by omega
        rcases hh with rfl | rfl | rfl
        · exact (humsA hc 56 0 x (by decide)).cong (fun _ _ _ => rfl) (fun _ _ _ => if_pos rfl) (by decide)
        · exact (leansA hc 50 0 x (by decide)).cong (fun _ _ _ => rfl) (fun _ _ _ => rfl) (by decide)
        · exact (tellsA hc 46 0 x (by decide)).cong (fun _ _ _ => rfl) (fun _ _ _ => rfl) (by decide)
      obtain ⟨r, L, v, z, p1, -, p3, -, p5⟩ := hmain (sI u 82 71 (0 : Int32)) rfl rfl [] u0 _ (CS.nil g1) (RS.nil (by rw [gI_sI_s])) (by decide)
      obtain ⟨f, hv, hf⟩ := p3
      have hv83 : gA v 83 = gA u 83 := by rw [hv]; exact hag.A (x := 83) (by unfold SS; omega)
      have hv84 : gA v 84 = gA u 84 := by rw [hv]; exact hag.A (x := 84) (by unfold SS; omega)
      have hv0 : gI v 82 0 = nI (cN K) := by
        rw [hv, gI_sAr, gI_sI_n (by decide)]
        exact (hag.2.2 0 (by unfold FS; omega)).trans hm1
      obtain ⟨r', L', v', z', q1, q2, q3, q4, q5⟩ := hmain (sI v 82 71 (0 : Int32)) hv83 hv84 [] u0 (sI v 82 71 (0 : Int32)) (CS.nil g1) (RS.nil (by rw [gI_sI_s])) (by decide)
      have p1 : f_X4_play (nI k) (nI t) x (0 : Int32) u0 = some (r, v) := p1
      have q1 : f_X4_play (nI k) (nI t) x (0 : Int32) u0 = some (r', v') := q1
      rw [p1] at q1
      cases q1
      obtain ⟨f', hz, hf'⟩ := q4
      obtain ⟨g, hv2, hg⟩ := q3
      have hI2 : Inv z' := by
        refine ⟨K, w, B, pgs, hA.stage (v := z') ?_ ⟨L'.length, by simp at q5; omega, ?_, ?_, fun j h1 h2 => ?_⟩⟩
        · rw [hz, sI_sI, hv2]
          exact ((((hag.si (by unfold SS; omega) (Or.inl (by decide))).sar (by unfold SS; omega)).si (by unfold SS; omega) (Or.inr (by unfold FS; omega))).sar (by unfold SS; omega))
        · rw [hz, sI_sI, gI_sAr, gI_sI_n (by decide), hv2, gI_sAr, gI_sI_s]
        · rw [hz, gI_sAr, gI_sI_s]
        · have e1 : gA z' 68 = g := by
            rw [hz, gA_sAr_n (by decide), gA_sI, gA_sI, hv2, gA_sAr_s]
          have e2 : gA z' 124 = f' := by rw [hz, gA_sAr_s]
          rw [e1, e2, hg j h1 h2, hf' j h1 h2]
      refine ⟨r, v, z', p1, ?_, hI2⟩
      unfold f_X8_act
      rw [pbind_of (hM0 v hv0), hp, if_neg bt, pbind_of (in_eq (N := 3) rfl), ha, if_neg bt]
      simp only [obind_id]
      exact q2
