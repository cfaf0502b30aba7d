/-! THE INVARIANT between the class (0..81, Branches from 129 on) and the reference (82..128) -/
def bid (k : Nat) : Nat := if k = 0 then 65 else 127 + 2 * k
/-- a train of the class without its program -/
def KC0 (u : Mem) (t : Nat) (K : gK8) : Prop := (cN K ≤ 6 ∧ gI u t 9 = nI (cN K)) ∧ (∀ i, i < 8 → gA u (t + 1) i = cH K i) ∧ (∀ i, i < 6 → gA u (t + 3) i = cK K i ∧ gA u (t + 4) i = cV K i ∧ gA u (t + 5) i = cC K i ∧ gA u (t + 7) i = cO K i) ∧ (∀ i, i < 24 → gA u (t + 8) i = cR K i)
def WC (u : Mem) (t : Nat) (w : gW5) : Prop := gI u t 10 = wS w ∧ gI u t 11 = wP w ∧ gI u t 12 = wM w ∧ (∀ i, i < 8 → gA u (t + 2) i = wO w i) ∧ ∀ i, i < 6 → gA u (t + 6) i = wK w i
/-- the same of the reference, of its fields and arrays one by one -/
def KMg (n off : Int32) (kind v car rows heat : Nat → Int32) (K : gK8) : Prop := n = nI (cN K) ∧ (∀ i, i < 8 → heat i = cH K i) ∧ (∀ i, i < 6 → kind i = cK K i ∧ v i = cV K i ∧ car i = cC K i ∧ bI (bit off i) = cO K i) ∧ ∀ i, i < 24 → rows i = cR K i
def WMg (s p m : Int32) (often knows : Nat → Int32) (w : gW5) : Prop := s = wS w ∧ p = wP w ∧ m = wM w ∧ (∀ i, i < 8 → often i = wO w i) ∧ ∀ i, i < 6 → knows i = wK w i
/-- what is in range -/
def bnd (K : gK8) (w : gW5) : Prop := (∀ i, i < 8 → ∃ k, k < 10 ∧ cH K i = nI k) ∧ (∀ i, i < 8 → ∃ k, k < 100 ∧ wO w i = nI k) ∧ (∀ i, i < 6 → ∃ k, k < 10 ∧ cV K i = nI k) ∧ (∀ i, i < 24 → ∃ k, k < 10 ∧ cR K i = nI k) ∧ (∃ k, k < 10000 ∧ wS w = nI k) ∧ ∃ k, k < 10000 ∧ wP w = nI k
def rng (K : gK8) (w : gW5) : Prop := (∀ i, i < 6 → ∃ k, k < 7 ∧ cK K i = nI k) ∧ carOK K ∧ (∀ i, i < 6 → ∃ k, k < 256 ∧ wK w i = nI k) ∧ (∀ i, i < 6 → cN K ≤ i → cO K i = 0) ∧ (∀ i, i < 24 → 4 * cN K ≤ i → cR K i = 0) ∧ bnd K w
def NOW (u : Mem) (K : gK8) (w : gW5) : Prop := KC0 u 1 K ∧ WC u 1 w ∧ KMg (gI u 82 0) (gI u 82 1) (gA u 83) (gA u 84) (gA u 85) (gA u 87) (gA u 89) K ∧ WMg (gI u 82 2) (gI u 82 3) (gI u 82 4) (gA u 88) (gA u 86) w ∧ rng K w
def letM (i : Nat) : Int32 := ([119, 97, 114, 109, 115, 104, 97, 109, 101, 115, 108, 111, 112, 101] : List Int32).getD i 0
abbrev gPg : Type := List (Nat × Nat × List Nat)
def PROG (u : Mem) (B : Nat) (pgs : Nat → gPg) : Prop := B ≤ 6 ∧ gI u 0 7 = nI B ∧ gI u 82 12 = nI B ∧ u.1 = 129 + 2 * B ∧ gR u 63 3 = bid B ∧ PC u 11 [] ∧ (∀ k, k < B → pgOK (pgs k) ∧ PC u (bid k) (pgs k) ∧ PM u k (pgs k)) ∧ ∀ i, i < 14 → gA u 98 i = letM i
def HELDg (the : Int32) (b B : Nat) (pgs : Nat → gPg) (pg : gPg) : Prop := (the = -1 ∧ b = 11 ∧ pg = []) ∨ ∃ k, k < B ∧ the = nI k ∧ b = bid k ∧ pg = pgs k
def TXT (u : Mem) : Prop := ∃ m, m ≤ 100 ∧ gI u 63 1 = nI m ∧ gI u 82 14 = nI m ∧ ∀ i, i < m → ∃ c, c < 128 ∧ gA u 64 i = nI c ∧ gA u 90 i = nI c
def seenP (N : Nat) (n n' : Int32) (a b c a' b' c' : Nat → Int32) : Prop := ∃ m, m ≤ 5 ∧ n = nI m ∧ n' = nI m ∧ ∀ i, i < m → ∃ p x, p < N ∧ x < 8 ∧ a i = nI p ∧ a' i = nI p ∧ b i = nI x ∧ b' i = nI x ∧ c i = c' i
def planP (N : Nat) (n n' : Int32) (a b c a' b' : Nat → Int32) : Prop := ∃ m, m ≤ 10 ∧ n = nI m ∧ n' = nI m ∧ ∀ i, i < m → (a i = 0 ∧ a' i = 0 ∧ b' i = 0) ∨ (∃ p k, p < N ∧ 1 ≤ k ∧ k ≤ 2 ∧ a i = nI k ∧ a' i = nI k ∧ b i = nI p ∧ b' i = nI p) ∨ ∃ p k, p < N ∧ k < 4 ∧ a i = 3 ∧ a' i = 3 ∧ b i = nI p ∧ c i = nI k ∧ b' i = nI (10 * p + k)
def bookP (N : Nat) (n n' : Int32) (a b a' b' : Nat → Int32) : Prop := ∃ m, m ≤ 8 ∧ n = nI m ∧ n' = nI m ∧ ∀ i, i < m → ∃ p, p < N ∧ a i = nI p ∧ a' i = nI p ∧ b i = b' i
def NTS (u : Mem) (N : Nat) : Prop := gI u 38 3 = 5 ∧ gI u 42 3 = 10 ∧ gI u 46 3 = 8 ∧ seenP N (gI u 38 4) (gI u 82 37) (gA u 39) (gA u 40) (gA u 41) (gA u 103) (gA u 104) (gA u 105) ∧ planP N (gI u 42 4) (gI u 82 41) (gA u 43) (gA u 44) (gA u 45) (gA u 106) (gA u 107) ∧ bookP N (gI u 46 4) (gI u 82 42) (gA u 47) (gA u 48) (gA u 108) (gA u 109)
def STG (u : Mem) : Prop := ∃ m, m < 1000 ∧ gI u 67 1 = nI m ∧ gI u 82 71 = nI m ∧ ∀ i, i < m → i < 20 → gA u 68 i = gA u 124 i
def TAP (u : Mem) : Prop := ∀ j, j < 6 → ∃ s m, (s = (-1 : Int32) ∧ m = 0 ∨ ∃ k, k < 5 ∧ s = nI k) ∧ m ≤ 60 ∧ gI u (70 + 2 * j) 1 = s ∧ gA u 125 j = s ∧ gI u (70 + 2 * j) 2 = nI m ∧ gA u 126 j = nI m ∧ ∀ i, i < 60 → gL u (71 + 2 * j) i = gL u 127 (60 * j + i)
def IMG (u : Mem) (B : Nat) (pgs : Nat → gPg) : Prop := (gI u 0 5 = 0 ∧ gI u 82 47 = 0) ∨ (gI u 0 5 = 1 ∧ gI u 82 47 = 1 ∧ ∃ K w, KC0 u 25 K ∧ WC u 25 w ∧ KMg (gI u 82 49) (gI u 82 50) (gA u 110) (gA u 111) (gA u 112) (gA u 114) (gA u 115) K ∧ WMg (gI u 82 51) (gI u 82 52) (gI u 82 53) (gA u 116) (gA u 113) w ∧ rng K w ∧ HELDg (gI u 82 48) (gR u 25 13) B pgs (cP K) ∧
  seenP (cN K) (gI u 51 4) (gI u 82 54) (gA u 52) (gA u 53) (gA u 54) (gA u 117) (gA u 118) (gA u 119) ∧ planP (cN K) (gI u 55 4) (gI u 82 55) (gA u 56) (gA u 57) (gA u 58) (gA u 120) (gA u 121) ∧ bookP (cN K) (gI u 59 4) (gI u 82 56) (gA u 60) (gA u 61) (gA u 122) (gA u 123))
def InvA (u : Mem) (K : gK8) (w : gW5) (B : Nat) (pgs : Nat → gPg) : Prop := NOW u K w ∧ PROG u B pgs ∧ HELDg (gI u 82 13) (gR u 1 13) B pgs (cP K) ∧ TXT u ∧ NTS u (cN K) ∧ STG u ∧ TAP u ∧ IMG u B pgs
def Inv (u : Mem) : Prop := ∃ K w B pgs, InvA u K w B pgs
/-! what a method of the trains may write: the trains 1 and 13, the reference's time -/
def Keep (u v : Mem) : Prop := v.1 = u.1 ∧ (∀ x, x ≠ 13 → gR v x = gR u x) ∧ gL v = gL u ∧ (∀ x k, x ≠ 1 → x ≠ 13 → (x ≠ 82 ∨ (5 ≤ k ∧ ¬ (30 ≤ k ∧ k ≤ 33))) → gI v x k = gI u x k) ∧ ∀ a, ¬ (2 ≤ a ∧ a ≤ 10) → ¬ (14 ≤ a ∧ a ≤ 22) → ¬ (83 ≤ a ∧ a ≤ 89) → ¬ (99 ≤ a ∧ a ≤ 102) → gA v a = gA u a
theorem Keep.rf (u : Mem) : Keep u u := ⟨rfl, fun _ _ => rfl, rfl, fun _ _ _ _ _ => rfl, fun _ _ _ _ _ => rfl⟩
theorem Keep.trans {u v x : Mem} (h : Keep u v) (h2 : Keep v x) : Keep u x :=
  ⟨h2.1.trans h.1, fun y hy => (h2.2.1 y hy).trans (h.2.1 y hy), h2.2.2.1.trans h.2.2.1, fun y k a b c => (h2.2.2.2.1 y k a b c).trans (h.2.2.2.1 y k a b c), fun a p q r t => (h2.2.2.2.2 a p q r t).trans (h.2.2.2.2 a p q r t)⟩
theorem Keep.I {u v : Mem} (h : Keep u v) (x k : Nat) (hx : x ≠ 1 ∧ x ≠ 13 ∧ (x ≠ 82 ∨ (5 ≤ k ∧ ¬ (30 ≤ k ∧ k ≤ 33)))) : gI v x k = gI u x k := h.2.2.2.1 x k hx.1 hx.2.1 hx.2.2
theorem Keep.A {u v : Mem} (h : Keep u v) (a : Nat) (hx : ¬ (2 ≤ a ∧ a ≤ 10) ∧ ¬ (14 ≤ a ∧ a ≤ 22) ∧ ¬ (83 ≤ a ∧ a ≤ 89) ∧ ¬ (99 ≤ a ∧ a ≤ 102)) : gA v a = gA u a := h.2.2.2.2 a hx.1 hx.2.1 hx.2.2.1 hx.2.2.2
theorem bid_at (k : Nat) : 65 ≤ bid k ∧ (bid k = 65 ∨ 129 ≤ bid k) := by
  unfold bid
  split <;> omega
theorem PC.of {u v : Mem} {b : Nat} {pg : gPg} (h1 : gI v b 1 = gI u b 1) (h2 : gI v b 2 = gI u b 2) (h3 : gA v (b + 1) = gA u (b + 1)) (h : PC u b pg) : PC v b pg :=
  ⟨h.1, h1.trans h.2.1, h2.trans h.2.2.1, fun i hi => by rw [h3]; exact h.2.2.2 i hi⟩
theorem PM.of {u v : Mem} {f : Nat} {pg : gPg} (hA : ∀ a, 91 ≤ a → a ≤ 96 → gA v a = gA u a) (h : PM u f pg) : PM v f pg := by
  obtain ⟨h2, h3, h4⟩ := h
  refine ⟨by rw [hA 91 (by decide) (by decide)]; exact h2, h3, fun c hc => ?_⟩
  obtain ⟨a1, a2, a3⟩ := h4 c hc
  refine ⟨by rw [hA 92 (by decide) (by decide)]; exact a1, by rw [hA 93 (by decide) (by decide)]; exact a2, fun q => ?_⟩
  obtain ⟨a, b1, b2, b3, b4⟩ := a3 q
  exact ⟨a, b1, by rw [hA 94 (by decide) (by decide)]; exact b2, by rw [hA 95 (by decide) (by decide)]; exact b3, fun j hj => by rw [hA 96 (by decide) (by decide)]; exact b4 j hj⟩
theorem PROG.keep {u v : Mem} {B : Nat} {pgs : Nat → gPg} (hk : Keep u v) (h : PROG u B pgs) : PROG v B pgs := by
  obtain ⟨h1, h2, h3, h4, h5, h6, h7, h8⟩ := h
  refine ⟨h1, (hk.I 0 7 (by decide)).trans h2, (hk.I 82 12 (by decide)).trans h3, hk.1.trans h4, by rw [hk.2.1 63 (by decide)]; exact h5, h6.of (hk.I 11 1 (by decide)) (hk.I 11 2 (by decide)) (hk.A 12 (by decide)), fun k hkB => ?_, fun i hi => by rw [hk.A 98 (by decide)]; exact h8 i hi⟩
  obtain ⟨a, b, c⟩ := h7 k hkB
  have hb := bid_at k
  exact ⟨a, b.of (hk.I _ 1 (by omega)) (hk.I _ 2 (by omega)) (hk.A _ (by omega)), c.of fun a q1 q2 => hk.A a (by omega)⟩
theorem TXT.keep {u v : Mem} (hk : Keep u v) (h : TXT u) : TXT v := by
  unfold TXT at h ⊢
  rw [hk.I 63 1 (by decide), hk.I 82 14 (by decide), hk.A 64 (by decide), hk.A 90 (by decide)]
  exact h
theorem NTS.keep {u v : Mem} {N : Nat} (hk : Keep u v) (h : NTS u N) : NTS v N := by
  unfold NTS at h ⊢
  rw [hk.I 38 3 (by decide), hk.I 42 3 (by decide), hk.I 46 3 (by decide), hk.I 38 4 (by decide), hk.I 42 4 (by decide), hk.I 46 4 (by decide), hk.I 82 37 (by decide), hk.I 82 41 (by decide), hk.I 82 42 (by decide), hk.A 39 (by decide), hk.A 40 (by decide), hk.A 41 (by decide), hk.A 43 (by decide), hk.A 44 (by decide), hk.A 45 (by decide), hk.A 47 (by decide), hk.A 48 (by decide), hk.A 103 (by decide), hk.A 104 (by decide), hk.A 105 (by decide), hk.A 106 (by decide), hk.A 107 (by decide), hk.A 108 (by decide), hk.A 109 (by decide)]
  exact h
theorem STG.keep {u v : Mem} (hk : Keep u v) (h : STG u) : STG v := by
  unfold STG at h ⊢
  rw [hk.I 67 1 (by decide), hk.I 82 71 (by decide), hk.A 68 (by decide), hk.A 124 (by decide)]
  exact h
theorem TAP.keep {u v : Mem} (hk : Keep u v) (h : TAP u) : TAP v := by
  intro j hj
  rw [hk.I (70 + 2 * j) 1 (by omega), hk.I (70 + 2 * j) 2 (by omega), hk.A 125 (by decide), hk.A 126 (by decide), hk.2.2.1]
  exact h j hj
theorem IMG.keep {u v : Mem} {B : Nat} {pgs : Nat → gPg} (hk : Keep u v) (h : IMG u B pgs) : IMG v B pgs := by
  unfold IMG at h ⊢
  unfold KC0 WC at h ⊢
  simp only [hk.I 0 5 (by decide), hk.I 82 47 (by decide), hk.I 82 48 (by decide), hk.I 82 49 (by decide), hk.I 82 50 (by decide), hk.I 82 51 (by decide), hk.I 82 52 (by decide), hk.I 82 53 (by decide), hk.I 82 54 (by decide), hk.I 82 55 (by decide), hk.I 82 56 (by decide), hk.I 25 9 (by decide), hk.I 25 10 (by decide), hk.I 25 11 (by decide), hk.I 25 12 (by decide), hk.I 51 4 (by decide), hk.I 55 4 (by decide), hk.I 59 4 (by decide), hk.2.1 25 (by decide)]
  simp only [hk.A (25 + 1) (by decide), hk.A (25 + 2) (by decide), hk.A (25 + 3) (by decide), hk.A (25 + 4) (by decide), hk.A (25 + 5) (by decide), hk.A (25 + 6) (by decide), hk.A (25 + 7) (by decide), hk.A (25 + 8) (by decide), hk.A 110 (by decide), hk.A 111 (by decide), hk.A 112 (by decide), hk.A 113 (by decide), hk.A 114 (by decide), hk.A 115 (by decide), hk.A 116 (by decide), hk.A 117 (by decide), hk.A 118 (by decide), hk.A 119 (by decide), hk.A 120 (by decide), hk.A 121 (by decide), hk.A 122 (by decide), hk.A 123 (by decide), hk.A 52 (by decide), hk.A 53 (by decide), hk.A 54 (by decide), hk.A 56 (by decide), hk.A 57 (by decide), hk.A 58 (by decide), hk.A 60 (by decide), hk.A 61 (by decide)]
  exact h
/-- all but the train itself is kept -/
theorem InvA.keep {u v : Mem} {K K' : gK8} {w w' : gW5} {B : Nat} {pgs : Nat → gPg} (h : InvA u K w B pgs) (hk : Keep u v) (hn : NOW v K' w') (hN : cN K' = cN K) (hP : cP K' = cP K) : InvA v K' w' B pgs := by
  obtain ⟨h1, h2, h3, h4, h5, h6, h7, h8⟩ := h
  refine ⟨hn, h2.keep hk, ?_, h4.keep hk, by rw [hN]; exact h5.keep hk, h6.keep hk, h7.keep hk, h8.keep hk⟩
  rw [hk.I 82 13 (by decide), hk.2.1 1 (by decide), hP]
  exact h3
