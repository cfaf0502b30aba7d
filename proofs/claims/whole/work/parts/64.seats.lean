/-! best, swap -/
def kC (K : gK8) (p : Nat) (c : Int32) : gK8 := (cN K, cH K, cK K, cV K, upd (cC K) p c, cO K, cR K, cP K)
def kO (K : gK8) (p : Nat) (c : Int32) : gK8 := (cN K, cH K, cK K, cV K, cC K, upd (cO K) p c, cR K, cP K)
def kV (K : gK8) (p : Nat) (c : Int32) : gK8 := (cN K, cH K, cK K, upd (cV K) p c, cC K, cO K, cR K, cP K)
def wwK (w : gW5) (p : Nat) (c : Int32) : gW5 := (wS w, wP w, wM w, wO w, upd (wK w) p c)
def wwO (w : gW5) (p : Nat) (c : Int32) : gW5 := (wS w, wP w, wM w, upd (wO w) p c, wK w)
theorem PC.sa {u : Mem} {b a i : Nat} {x : Int32} {pg : gPg} (h : b + 1 ≠ a) (hp : PC u b pg) : PC (sA u a i x) b pg := PC.of (u := u) rfl rfl (gA_sA_n h) hp
theorem S13_sa {u v : Mem} (h : Agr S13 TT u v) {a i : Nat} {x : Int32} (ha : 14 ≤ a ∧ a ≤ 22) : Agr S13 TT u (sA v a i x) := h.sa (by unfold S13; omega)
theorem setC {u v : Mem} {K : gK8} {w : gW5} (h : TC u v K w) (p : Nat) (c : Int32) : TC u (sA v 18 p c) (kC K p c) w := by
  obtain ⟨⟨⟨k1, k3, k4, k5, k6, k7, k8⟩, r⟩, hg⟩ := h
  refine ⟨⟨⟨k1, k3, fun i hi => ⟨(k4 i hi).1, (k4 i hi).2.1, ?_, (k4 i hi).2.2.2⟩, k5, k6.sa ((held_apart t13 k8).2 5 (by decide) (by decide)), k7, k8⟩, r⟩, S13_sa hg (by decide)⟩
  exact upd_cong (fun j hj => (k4 j hj).2.2.1) rfl i hi
theorem setO {u v : Mem} {K : gK8} {w : gW5} (h : TC u v K w) (p : Nat) (c : Int32) : TC u (sA v 20 p c) (kO K p c) w := by
  obtain ⟨⟨⟨k1, k3, k4, k5, k6, k7, k8⟩, r⟩, hg⟩ := h
  refine ⟨⟨⟨k1, k3, fun i hi => ⟨(k4 i hi).1, (k4 i hi).2.1, (k4 i hi).2.2.1, ?_⟩, k5, k6.sa ((held_apart t13 k8).2 7 (by decide) (by decide)), k7, k8⟩, r⟩, S13_sa hg (by decide)⟩
  exact upd_cong (fun j hj => (k4 j hj).2.2.2) rfl i hi
theorem setV {u v : Mem} {K : gK8} {w : gW5} (h : TC u v K w) (p : Nat) (c : Int32) : TC u (sA v 17 p c) (kV K p c) w := by
  obtain ⟨⟨⟨k1, k3, k4, k5, k6, k7, k8⟩, r⟩, hg⟩ := h
  refine ⟨⟨⟨k1, k3, fun i hi => ⟨(k4 i hi).1, ?_, (k4 i hi).2.2.1, (k4 i hi).2.2.2⟩, k5, k6.sa ((held_apart t13 k8).2 4 (by decide) (by decide)), k7, k8⟩, r⟩, S13_sa hg (by decide)⟩
  exact upd_cong (fun j hj => (k4 j hj).2.1) rfl i hi
theorem setK {u v : Mem} {K : gK8} {w : gW5} (h : TC u v K w) (p : Nat) (c : Int32) : TC u (sA v 19 p c) K (wwK w p c) := by
  obtain ⟨⟨⟨k1, k3, k4, k5, k6, k7, k8⟩, r1, r2, r3, r4, r5⟩, hg⟩ := h
  refine ⟨⟨⟨k1, k3, k4, k5, k6.sa ((held_apart t13 k8).2 6 (by decide) (by decide)), k7, k8⟩, r1, r2, r3, r4, fun i hi => ?_⟩, S13_sa hg (by decide)⟩
  exact upd_cong r5 rfl i hi
theorem setOf {u v : Mem} {K : gK8} {w : gW5} (h : TC u v K w) (p : Nat) (c : Int32) : TC u (sA v 15 p c) K (wwO w p c) := by
  obtain ⟨⟨⟨k1, k3, k4, k5, k6, k7, k8⟩, r1, r2, r3, r4, r5⟩, hg⟩ := h
  refine ⟨⟨⟨k1, k3, k4, k5, k6.sa ((held_apart t13 k8).2 2 (by decide) (by decide)), k7, k8⟩, r1, r2, r3, fun i hi => ?_, r5⟩, S13_sa hg (by decide)⟩
  exact upd_cong r4 rfl i hi
theorem HM.sa {u : Mem} {a i : Nat} {x : Int32} {pg : gPg} (ha : ¬ (91 ≤ a ∧ a ≤ 96)) (h : HM u pg) : HM (sA u a i x) pg := HM_of (u := u) rfl (fun b h1 h2 => gA_sA_n (by omega)) h
theorem MC_sa {x y : Mem} {K0 K K' : gK8} {w0 w w' : gW5} (h : MC x y K0 w0 K w) {a i : Nat} {c : Int32} (ha : 83 ≤ a ∧ a ≤ 89) (hc : CM (sA y a i c) K' w') : MC x (sA y a i c) K0 w0 K' w' := by
  refine ⟨hc, h.2.1.agr ((Agr.rf (fun x => x ≠ a) TT y).sa (by simp)) (by omega) ⟨trivial, trivial, trivial, trivial⟩, h.2.2.sa (by unfold SM; omega)⟩
theorem setCM {x y : Mem} {K0 K : gK8} {w0 w : gW5} (h : MC x y K0 w0 K w) (p : Nat) (c : Int32) : MC x (sA y 85 p c) K0 w0 (kC K p c) w := by
  refine MC_sa h (by decide) ?_
  obtain ⟨⟨⟨k1, k3, k4, k5, k6, k7⟩, r⟩, -⟩ := h
  refine ⟨⟨k1, k3, fun i hi => ⟨(k4 i hi).1, (k4 i hi).2.1, ?_, (k4 i hi).2.2.2⟩, k5, k6.sa (by decide), k7⟩, r⟩
  exact upd_cong (fun j hj => (k4 j hj).2.2.1) rfl i hi
theorem setVM {x y : Mem} {K0 K : gK8} {w0 w : gW5} (h : MC x y K0 w0 K w) (p : Nat) (c : Int32) : MC x (sA y 84 p c) K0 w0 (kV K p c) w := by
  refine MC_sa h (by decide) ?_
  obtain ⟨⟨⟨k1, k3, k4, k5, k6, k7⟩, r⟩, -⟩ := h
  refine ⟨⟨k1, k3, fun i hi => ⟨(k4 i hi).1, ?_, (k4 i hi).2.2.1, (k4 i hi).2.2.2⟩, k5, k6.sa (by decide), k7⟩, r⟩
  exact upd_cong (fun j hj => (k4 j hj).2.1) rfl i hi
theorem setKM {x y : Mem} {K0 K : gK8} {w0 w : gW5} (h : MC x y K0 w0 K w) (p : Nat) (c : Int32) : MC x (sA y 86 p c) K0 w0 K (wwK w p c) := by
  refine MC_sa h (by decide) ?_
  obtain ⟨⟨⟨k1, k3, k4, k5, k6, k7⟩, r1, r2, r3, r4, r5⟩, -⟩ := h
  refine ⟨⟨k1, k3, k4, k5, k6.sa (by decide), k7⟩, r1, r2, r3, r4, fun i hi => ?_⟩
  exact upd_cong r5 rfl i hi
theorem setOM {x y : Mem} {K0 K : gK8} {w0 w : gW5} (h : MC x y K0 w0 K w) {p : Nat} (hp : p < 6) (b : Bool) : MC x (sI y 82 1 (offM (gI y 82 1) p b)) K0 w0 (kO K p (bI b)) w := by
  obtain ⟨⟨⟨k1, k3, k4, k5, k6, k7⟩, r⟩, hs, hg⟩ := h
  refine ⟨⟨⟨k1, k3, fun i hi => ⟨(k4 i hi).1, (k4 i hi).2.1, (k4 i hi).2.2.1, ?_⟩, k5, HM_of (u := y) rfl (fun _ _ _ => rfl) k6, k7⟩, r⟩, hs, hg.si (by unfold SM; omega) (Or.inr (by unfold FM; omega))⟩
  show bI (bit (offM (gI y 82 1) p b) i) = if i = p then bI b else cO K i
  rw [offM_bit (by omega) (by omega)]
  by_cases q : i = p
  · rw [if_pos q, if_pos q]
  · rw [if_neg q, if_neg q]; exact (k4 i hi).2.2.2
theorem sameK.c {K K' : gK8} (h : sameK K K') (p : Nat) (c : Int32) : sameK K (kC K' p c) := h
theorem sameK.o {K K' : gK8} (h : sameK K K') (p : Nat) (c : Int32) : sameK K (kO K' p c) := h
theorem place_nn {K : gK8} {w : gW5} (hK : kb K) (hw : bW w 0) (n : Nat) : ∃ k, k < 10000 ∧ wP (rideS K n w) = nI k := (ride_b hK hw n).2.2.1
theorem in_110 {x : Int32} : (x < 1 → f_X8_in x (1 : Int32) (10 : Int32) = some (bI false)) ∧ (¬ x < 1 → ¬ x ≤ 10 → f_X8_in x (1 : Int32) (10 : Int32) = some (bI false)) ∧ (¬ x < 1 → x ≤ 10 → f_X8_in x (1 : Int32) (10 : Int32) = some (bI true) ∧ ∃ n, n < 11 ∧ x = nI n) := by
  have e1 : (1 : Int32).toInt = 1 := rfl
  have e10 : (10 : Int32).toInt = 10 := rfl
  rw [in_rng]
  refine ⟨fun h => ?_, fun h h2 => ?_, fun h h2 => ⟨?_, ?_⟩⟩
  · rw [lt_I] at h
    rw [decide_eq_false (by omega)]
  · rw [le_I] at h2
    rw [decide_eq_false (by omega)]
  · rw [lt_I] at h
    rw [le_I] at h2
    rw [decide_eq_true (by omega)]
  · rw [lt_I] at h
    rw [le_I] at h2
    exact nI_in0 (by omega) (by omega)
theorem st_best {u : Mem} (hI : Inv u) (p x : Int32) : okS u (f_X7_best p x u) (f_X8_best p x) := by
  have hI0 := hI
  obtain ⟨K, w, B, pgs, hA⟩ := hI
  obtain ⟨⟨hn6, hn1⟩, -⟩ := hA.1.1
  have hm1 := hA.1.2.2.1.1
  unfold f_X7_best
  rw [pbind_of (isPerson_eq hn6 hn1)]
  cases hp : wn p (cN K)
  · exact ⟨_, _, _, if_pos bf, (by unfold f_X8_best; rw [pbind_of (isOne_eq hn6 hm1), hp]; exact if_pos bf), hI0⟩
  · rw [if_neg bt]
    by_cases h1 : x < 1
    · rw [if_pos h1]
      exact ⟨_, _, _, rfl, (by unfold f_X8_best; rw [pbind_of (isOne_eq hn6 hm1), hp, if_neg bt, pbind_of (in_110.1 h1), if_pos bf]), hI0⟩
    · rw [if_neg h1]
      by_cases h2 : x ≤ 10
      · obtain ⟨hin, n, hn, rfl⟩ := in_110.2.2 h1 h2
        obtain ⟨j, hj, rfl⟩ := wn_of hp
        have hj6 : j < 6 := by omega
        rw [if_pos h2]
        refine ask hA (fun y hy hM => ?_)
        unfold f_X8_best
        rw [pbind_of (isOne_eq hn6 hM.1.1.2), hp, if_neg bt, pbind_of hin, if_neg bt]
        have key := while_2F (b1 := fun s : Int32 × Int32 × Int32 × Int32 × Mem => f_X7_best_L35 (nI j) (nI n) s.1 s.2.1 s.2.2.1 s.2.2.2.1 s.2.2.2.2) (b2 := fun s : Int32 × Int32 × Int32 × Int32 × Mem => f_X8_best_L36 (nI j) (nI n) s.1 s.2.1 s.2.2.1 s.2.2.2.1 s.2.2.2.2) 4 (fun i a b => ∃ f P S f' P' S' v z, a = (f, P, S, nI i, v) ∧ b = (f', P', S', nI i, z) ∧ Agr S13 TT u v ∧ CM z K w ∧ Agr SM FM y z ∧ ((i = 0 ∧ P = -1 ∧ f' = -5) ∨ (0 < i ∧ f = f' ∧ ¬ f' < 0 ∧ P = P' ∧ S = S'))) (fun r q => ∃ a v z, r = (a, v) ∧ q = (a, z) ∧ Agr S13 TT u v ∧ CM z K w ∧ Agr SM FM y z) (s := ((0 : Int32), (-1 : Int32), (-1 : Int32), (0 : Int32), u)) (t := ((-5 : Int32), (0 : Int32), (0 : Int32), (0 : Int32), y)) (by decide) ⟨_, _, _, _, _, _, u, y, rfl, rfl, Agr.rf _ _ _, hM, Agr.rf _ _ _, Or.inl ⟨rfl, rfl, rfl⟩⟩ ?_ ?_
        · obtain ⟨r, q, k1, k2, a, v, z, rfl, rfl, k3, k4, k5⟩ := key
          exact ⟨a, v, z, k1, k3, k2, k4, k5⟩
        · rintro i a b hi ⟨f, P, S, f', P', S', v, z, rfl, rfl, hv, hz1, hz2, hrel⟩
          obtain ⟨v1, c1, c2⟩ := becomeA hA hv
          obtain ⟨v2, d1, d2⟩ := rideA (setC c2 j (nI i)) (show n < 5000 by omega)
          obtain ⟨z1, e1, e2⟩ := saveA hz1 hz2
          obtain ⟨z2, g1, g2⟩ := goA (setCM e2 j (nI i)) (show n < 5000 by omega)
          obtain ⟨z3, l1, l2, l3⟩ := putA g2 ((sameK.rf K).c j (nI i))
          obtain ⟨P2, hP2⟩ : ∃ P2, P2 = wP (rideS (kC K j (nI i)) n w) := ⟨_, rfl⟩
          obtain ⟨S2, hS2⟩ : ∃ S2, S2 = wS (rideS (kC K j (nI i)) n w) := ⟨_, rfl⟩
          have eC : f_X7_best_L35 (nI j) (nI n) f P S (nI i) v = (if P < P2 then some (Sum.inl (nI i, (P2, (S2, (nI (i + 1), v2))))) else (if P2 = P then (if S2 ≤ S then some (Sum.inl (f, (P, (S, (nI (i + 1), v2))))) else some (Sum.inl (nI i, (P2, (S2, (nI (i + 1), v2)))))) else some (Sum.inl (f, (P, (S, (nI (i + 1), v2))))))) := by
            unfold f_X7_best_L35
            rw [if_neg (by (simp (disch := omega) only [le_I, lt_I, eq_I, nI_toInt, Int32.reduceToInt, ne_eq] <;> omega)), obind_of c1, gin_nI hj6 (by decide), nI_clamp (by omega), obind_of d1, show gI v2 13 11 = P2 from d2.1.2.2.1.trans hP2.symm, show gI v2 13 10 = S2 from d2.1.2.1.trans hS2.symm, nI_1]
          have eM : f_X8_best_L36 (nI j) (nI n) f' P' S' (nI i) z = (if f' < 0 then some (Sum.inl (nI i, (P2, (S2, (nI (i + 1), z3))))) else (if P2 < P' then some (Sum.inl (f', (P', (S', (nI (i + 1), z3))))) else (if P2 = P' then (if S' < S2 then some (Sum.inl (nI i, (P2, (S2, (nI (i + 1), z3))))) else some (Sum.inl (f', (P', (S', (nI (i + 1), z3)))))) else some (Sum.inl (nI i, (P2, (S2, (nI (i + 1), z3)))))))) := by
            unfold f_X8_best_L36
            rw [if_neg (by (simp (disch := omega) only [le_I, lt_I, eq_I, nI_toInt, Int32.reduceToInt, ne_eq] <;> omega)), obind_of e1, gin_nI hj6 (by decide), nI_clamp (by omega), obind_of g1, obind_of l1, show gI z2 82 3 = P2 from g2.1.2.2.1.trans hP2.symm, show gI z2 82 2 = S2 from g2.1.2.1.trans hS2.symm, nI_1]
          have hin : ¬ nI i < (0 : Int32) := by (simp (disch := omega) only [le_I, lt_I, eq_I, nI_toInt, Int32.reduceToInt, ne_eq] <;> omega)
          rcases hrel with ⟨rfl, rfl, rfl⟩ | ⟨hi0, rfl, hf, rfl, rfl⟩
          · obtain ⟨k, hk, hke⟩ := place_nn (K := kC K j (nI 0)) (w := w) hA.bd.1 hA.bd.2 n
            rw [hke] at hP2
            rw [if_pos (show (-1 : Int32) < P2 by rw [hP2]; (simp (disch := omega) only [le_I, lt_I, eq_I, nI_toInt, Int32.reduceToInt, ne_eq] <;> omega))] at eC
            rw [if_pos (show (-5 : Int32) < 0 by decide)] at eM
            exact Or.inl ⟨_, _, eC, eM, _, _, _, _, _, _, v2, z3, rfl, rfl, d2.2, l2, l3, Or.inr ⟨by omega, rfl, hin, rfl, rfl⟩⟩
          · rw [if_neg hf] at eM
            by_cases q1 : P < P2
            · rw [if_pos q1] at eC
              rw [if_neg (by (simp (disch := omega) only [le_I, lt_I, eq_I, nI_toInt, Int32.reduceToInt, ne_eq] at * <;> omega)), if_neg (by (simp (disch := omega) only [le_I, lt_I, eq_I, nI_toInt, Int32.reduceToInt, ne_eq] at * <;> omega))] at eM
              exact Or.inl ⟨_, _, eC, eM, _, _, _, _, _, _, v2, z3, rfl, rfl, d2.2, l2, l3, Or.inr ⟨by omega, rfl, hin, rfl, rfl⟩⟩
            · rw [if_neg q1] at eC
              by_cases q2 : P2 = P
              · rw [if_pos q2] at eC
                rw [if_neg (by (simp (disch := omega) only [le_I, lt_I, eq_I, nI_toInt, Int32.reduceToInt, ne_eq] at * <;> omega)), if_pos q2] at eM
                by_cases q3 : S2 ≤ S
                · rw [if_pos q3] at eC
                  rw [if_neg (by (simp (disch := omega) only [le_I, lt_I, eq_I, nI_toInt, Int32.reduceToInt, ne_eq] at * <;> omega))] at eM
                  exact Or.inl ⟨_, _, eC, eM, _, _, _, _, _, _, v2, z3, rfl, rfl, d2.2, l2, l3, Or.inr ⟨by omega, rfl, hf, rfl, rfl⟩⟩
                · rw [if_neg q3] at eC
                  rw [if_pos (by (simp (disch := omega) only [le_I, lt_I, eq_I, nI_toInt, Int32.reduceToInt, ne_eq] at * <;> omega))] at eM
                  exact Or.inl ⟨_, _, eC, eM, _, _, _, _, _, _, v2, z3, rfl, rfl, d2.2, l2, l3, Or.inr ⟨by omega, rfl, hin, rfl, rfl⟩⟩
              · rw [if_neg q2] at eC
                rw [if_pos (by (simp (disch := omega) only [le_I, lt_I, eq_I, nI_toInt, Int32.reduceToInt, ne_eq] at * <;> omega))] at eM
                exact Or.inl ⟨_, _, eC, eM, _, _, _, _, _, _, v2, z3, rfl, rfl, d2.2, l2, l3, Or.inr ⟨by omega, rfl, hf, rfl, rfl⟩⟩
        · rintro a b ⟨f, P, S, f', P', S', v, z, rfl, rfl, hv, hz1, hz2, hrel⟩
          rcases hrel with ⟨h, -⟩ | ⟨-, rfl, -, -, -⟩
          · exact absurd h (by decide)
          · refine ⟨_, _, ?_, ?_, f, v, z, rfl, rfl, hv, hz1, hz2⟩
            · show f_X7_best_L35 (nI j) (nI n) f P S (nI 4) v = _
              unfold f_X7_best_L35
              rw [if_pos (by decide)]
            · show f_X8_best_L36 (nI j) (nI n) f P' S' (nI 4) z = _
              unfold f_X8_best_L36
              rw [if_pos (by decide)]
      · rw [if_neg h2]
        exact ⟨_, _, _, rfl, (by unfold f_X8_best; rw [pbind_of (isOne_eq hn6 hm1), hp, if_neg bt, pbind_of (in_110.2.1 h1 h2), if_pos bf]), hI0⟩
/-! swap -/
def kS (K : gK8) (a b : Nat) : gK8 := kC (kC K a (cC K b)) b (cC K a)
theorem swapM {y z : Mem} {K : gK8} {w : gW5} {a b n : Nat} (hz1 : CM z K w) (hz2 : Agr SM FM y z) (ha : a < 6) (hb : b < 6) (hn : n < 5000) : ∃ z', f_X8_spotSwapped (nI a) (nI b) (nI n) z = some (wP (rideS (kS K a b) n w), z') ∧ CM z' K w ∧ Agr SM FM y z' := by
  obtain ⟨z1, e1, e2⟩ := saveA hz1 hz2
  have e3 := setCM (setCM e2 a (cC K b)) b (cC K a)
  obtain ⟨z2, g1, g2⟩ := goA e3 hn
  obtain ⟨z3, l1, l2⟩ := putA g2 (((sameK.rf K).c a (cC K b)).c b (cC K a))
  refine ⟨z3, ?_, l2⟩
  unfold f_X8_spotSwapped
  rw [obind_of e1]
  simp only [gin_nI ha (show 6 ≤ 2147483648 by decide), gin_nI hb (show 6 ≤ 2147483648 by decide), nI_clamp (show a < 2 ^ 31 by omega), nI_clamp (show b < 2 ^ 31 by omega)]
  rw [(e2.1.1.2.2.1 b hb).2.2.1, (e2.1.1.2.2.1 a ha).2.2.1, obind_of g1, obind_of l1, g2.1.2.2.1]
  rfl
theorem st_swap {u : Mem} (hI : Inv u) (x : Int32) : okS u (f_X7_swap x u) (f_X8_swap x) := by
  have hI0 := hI
  obtain ⟨K, w, B, pgs, hA⟩ := hI
  obtain ⟨⟨hn6, hn1⟩, -, a3, -⟩ := hA.1.1
  unfold f_X7_swap
  by_cases h1 : x < 1
  · rw [if_pos h1]
    exact ⟨_, _, _, rfl, (by unfold f_X8_swap; rw [pbind_of (in_110.1 h1), if_pos bf]), hI0⟩
  · rw [if_neg h1]
    by_cases h2 : x ≤ 10
    · obtain ⟨hin, n, hn, rfl⟩ := in_110.2.2 h1 h2
      rw [if_pos h2]
      refine ask hA (fun y hy hM => ?_)
      obtain ⟨v1, c1, c2⟩ := becomeA hA (Agr.rf _ _ _)
      obtain ⟨v2, d1, d2⟩ := rideA c2 (show n < 5000 by omega)
      obtain ⟨y1, f1, f2, f3⟩ := (onM hM (nI n) 1).2.2 n (by omega) rfl (Or.inl ⟨by decide, by decide⟩)
      unfold f_X8_swap
      rw [pbind_of hin, if_neg bt, obind_of c1, obind_of d1, obind_of f1, show gI v2 13 11 = wP (rideS K n w) from d2.1.2.2.1, show onV (rideS K n w) 1 = wP (rideS K n w) from rfl]
      have key := while_2F (b1 := fun s : Int32 × Int32 × Int32 × Mem => f_X7_swap_L47 (nI n) s.1 s.2.1 s.2.2.1 s.2.2.2) (b2 := fun s : Int32 × Int32 × Int32 × Mem => f_X8_swap_L27 (nI n) s.1 s.2.1 s.2.2.1 s.2.2.2) (cN K) (fun i a b => ∃ f P v z, a = (f, P, nI i, v) ∧ b = (f, P, nI i, z) ∧ Agr S13 TT u v ∧ CM z K w ∧ Agr SM FM y z) (fun r q => ∃ a v z, r = (a, v) ∧ q = (a, z) ∧ Agr S13 TT u v ∧ CM z K w ∧ Agr SM FM y z) (s := ((-5 : Int32), wP (rideS K n w), (0 : Int32), v2)) (t := ((-5 : Int32), wP (rideS K n w), (0 : Int32), y1)) (by omega) ⟨_, _, v2, y1, rfl, rfl, d2.2, f2, f3⟩ ?_ ?_
      · obtain ⟨r, q, k1, k2, a, v, z, rfl, rfl, k3, k4, k5⟩ := key
        exact ⟨a, v, z, k1, k3, k2, k4, k5⟩
      · rintro i a b hi ⟨f, P, v, z, rfl, rfl, hv, hz1, hz2⟩
        have hi6 : i < 6 := by omega
        have inner := while_2 (b1 := fun s : Int32 × Int32 × Int32 × Int32 × Mem => f_X7_swap_L65 (nI n) s.1 s.2.1 s.2.2.1 s.2.2.2.1 s.2.2.2.2) (b2 := fun s : Int32 × Int32 × Int32 × Int32 × Mem => f_X8_swap_L42 (nI n) s.1 s.2.1 s.2.2.1 s.2.2.2.1 s.2.2.2.2) (cN K) (fun k a b => i < k ∧ ∃ f P v z, a = (f, P, nI i, nI k, v) ∧ b = (f, P, nI i, nI k, z) ∧ Agr S13 TT u v ∧ CM z K w ∧ Agr SM FM y z) (fun r q => ∃ f P v z, r = Sum.inl (f, P, nI (i + 1), v) ∧ q = Sum.inl (f, P, nI (i + 1), z) ∧ Agr S13 TT u v ∧ CM z K w ∧ Agr SM FM y z) ?_ ?_ (cN K - (i + 1)) (i + 1) (f, P, nI i, nI (i + 1), v) (f, P, nI i, nI (i + 1), z) FUEL FUEL (by omega) (by show _ < 5000; omega) (by show _ < 5000; omega) ⟨by omega, f, P, v, z, rfl, rfl, hv, hz1, hz2⟩
        · obtain ⟨r, q, k1, k2, f2, P2, v2, z2, rfl, rfl, k3, k4, k5⟩ := inner
          refine Or.inl ⟨_, _, ?_, ?_, f2, P2, v2, z2, rfl, rfl, k3, k4, k5⟩
          · show f_X7_swap_L47 (nI n) f P (nI i) v = _
            unfold f_X7_swap_L47
            rw [show gI v 1 9 = _ from (hv.I (by unfold S13; omega) 9).trans hn1, if_neg (by (simp (disch := omega) only [le_I, lt_I, eq_I, nI_toInt, Int32.reduceToInt, ne_eq] <;> omega)), nI_1]
            exact k1
          · show f_X8_swap_L27 (nI n) f P (nI i) z = _
            unfold f_X8_swap_L27
            rw [hz1.1.1.2, if_neg (by (simp (disch := omega) only [le_I, lt_I, eq_I, nI_toInt, Int32.reduceToInt, ne_eq] <;> omega)), nI_1]
            exact k2
        · rintro k a b hk ⟨hik, f, P, v, z, rfl, rfl, hv, hz1, hz2⟩
          have hk6 : k < 6 := by omega
          obtain ⟨v1, c1, c2⟩ := becomeA hA hv
          have c3 := setC (setC c2 i (cC K k)) k (cC K i)
          obtain ⟨v2, d1, d2⟩ := rideA c3 (show n < 5000 by omega)
          obtain ⟨z2, g1, g2, g3⟩ := swapM hz1 hz2 hi6 hk6 (show n < 5000 by omega)
          have q6 : gA v1 6 = gA u 6 := c2.2.A (by unfold S13; omega)
          have q6' : gA (sA v1 18 i (cC K k)) 6 = gA u 6 := (gA_sA_n (by decide)).trans q6
          have eC : f_X7_swap_L65 (nI n) f P (nI i) (nI k) v = (if wP (rideS (kS K i k) n w) ≤ P then some (Sum.inl (f, (P, (nI i, (nI (k + 1), v2))))) else some (Sum.inl (((10 : Int32) * nI i) + nI k, (wP (rideS (kS K i k) n w), (nI i, (nI (k + 1), v2)))))) := by
            unfold f_X7_swap_L65
            rw [show gI v 1 9 = _ from (hv.I (by unfold S13; omega) 9).trans hn1, if_neg (by (simp (disch := omega) only [le_I, lt_I, eq_I, nI_toInt, Int32.reduceToInt, ne_eq] <;> omega)), obind_of c1]
            simp only [gin_nI hi6 (show 6 ≤ 2147483648 by decide), gin_nI hk6 (show 6 ≤ 2147483648 by decide), nI_clamp (show i < 2 ^ 31 by omega), nI_clamp (show k < 2 ^ 31 by omega)]
            rw [q6, show gA u 6 k = cC K k from (a3 k hk6).2.2.1, q6', show gA u 6 i = cC K i from (a3 i hi6).2.2.1, obind_of d1, show gI v2 13 11 = wP (rideS (kS K i k) n w) from d2.1.2.2.1, nI_1]
          have eM : f_X8_swap_L42 (nI n) f P (nI i) (nI k) z = (if P < wP (rideS (kS K i k) n w) then some (Sum.inl (((10 : Int32) * nI i) + nI k, (wP (rideS (kS K i k) n w), (nI i, (nI (k + 1), z2))))) else some (Sum.inl (f, (P, (nI i, (nI (k + 1), z2)))))) := by
            unfold f_X8_swap_L42
            rw [hz1.1.1.2, if_neg (by (simp (disch := omega) only [le_I, lt_I, eq_I, nI_toInt, Int32.reduceToInt, ne_eq] <;> omega)), obind_of g1, nI_1]
          by_cases q : wP (rideS (kS K i k) n w) ≤ P
          · rw [if_pos q] at eC
            rw [if_neg (by rw [le_I] at q; rw [lt_I]; omega)] at eM
            exact Or.inl ⟨_, _, eC, eM, by omega, _, _, v2, z2, rfl, rfl, d2.2, g2, g3⟩
          · rw [if_neg q] at eC
            rw [if_pos (by rw [le_I] at q; rw [lt_I]; omega)] at eM
            exact Or.inl ⟨_, _, eC, eM, by omega, _, _, v2, z2, rfl, rfl, d2.2, g2, g3⟩
        · rintro a b ⟨hik, f, P, v, z, rfl, rfl, hv, hz1, hz2⟩
          refine ⟨_, _, ?_, ?_, f, P, v, z, rfl, rfl, hv, hz1, hz2⟩
          · show f_X7_swap_L65 (nI n) f P (nI i) (nI (cN K)) v = _
            unfold f_X7_swap_L65
            rw [show gI v 1 9 = _ from (hv.I (by unfold S13; omega) 9).trans hn1, if_pos (by (simp (disch := omega) only [le_I, lt_I, eq_I, nI_toInt, Int32.reduceToInt, ne_eq] <;> omega)), nI_1]
          · show f_X8_swap_L42 (nI n) f P (nI i) (nI (cN K)) z = _
            unfold f_X8_swap_L42
            rw [hz1.1.1.2, if_pos (by (simp (disch := omega) only [le_I, lt_I, eq_I, nI_toInt, Int32.reduceToInt, ne_eq] <;> omega)), nI_1]
      · rintro a b ⟨f, P, v, z, rfl, rfl, hv, hz1, hz2⟩
        refine ⟨_, _, ?_, ?_, f, v, z, rfl, rfl, hv, hz1, hz2⟩
        · show f_X7_swap_L47 (nI n) f P (nI (cN K)) v = _
          unfold f_X7_swap_L47
          rw [show gI v 1 9 = _ from (hv.I (by unfold S13; omega) 9).trans hn1, if_pos (by (simp (disch := omega) only [le_I, lt_I, eq_I, nI_toInt, Int32.reduceToInt, ne_eq] <;> omega))]
        · show f_X8_swap_L27 (nI n) f P (nI (cN K)) z = _
          unfold f_X8_swap_L27
          rw [hz1.1.1.2, if_pos (by (simp (disch := omega) only [le_I, lt_I, eq_I, nI_toInt, Int32.reduceToInt, ne_eq] <;> omega))]
    · rw [if_neg h2]
      exact ⟨_, _, _, rfl, (by unfold f_X8_swap; rw [pbind_of (in_110.2.1 h1 h2), if_pos bf]), hI0⟩
