/-! THE REFERENCE'S MINUTES DO AS THE SPEC -/
theorem hasM (x : Int32) (t : Nat) : f_X8_has x (nI t) = some (bI (bit x t)) := by
  unfold f_X8_has
  cases h : bit x t
  · rw [bit_f h]; rfl
  · rw [bit_t h]; rfl
theorem leastM (a b : Int32) : f_X8_least a b = some (imin a b) := by
  unfold f_X8_least imin
  by_cases h : b ≤ a
  · rw [if_pos h]
    by_cases q : b < a
    · rw [if_pos q]
    · rw [if_neg q]
      congr 1
      (simp (disch := omega) only [le_I, lt_I, eq_I, nI_toInt, Int32.reduceToInt, ne_eq] at * <;> omega)
  · rw [if_neg h, if_neg (by (simp (disch := omega) only [le_I, lt_I, eq_I, nI_toInt, Int32.reduceToInt, ne_eq] at * <;> omega))]
theorem imin_comm (a b : Int32) : imin a b = imin b a := by
  unfold imin
  by_cases h : b < a
  · rw [if_pos h, if_neg (by (simp (disch := omega) only [le_I, lt_I, eq_I, nI_toInt, Int32.reduceToInt, ne_eq] at * <;> omega))]
  · rw [if_neg h]
    by_cases q : a < b
    · rw [if_pos q]
    · rw [if_neg q]
      (simp (disch := omega) only [le_I, lt_I, eq_I, nI_toInt, Int32.reduceToInt, ne_eq] at * <;> omega)
theorem pgS_go : ∀ (pg : List (Nat × Nat × List Nat)) (s : Nat), (∀ c ∈ pg, c.2.1 < 100) → s < 100 → pg.foldl (fun n c => if c.1 = 2 then c.2.1 else n) s < 100
  | [], s, _, h => h
  | c :: pg, s, hO, h => pgS_go pg _ (fun c hc => hO c (List.mem_cons_of_mem _ hc)) (by
      have := hO c List.mem_cons_self
      show (if c.1 = 2 then c.2.1 else s) < 100
      split <;> assumption)
theorem pgS_lt {pg : List (Nat × Nat × List Nat)} (hO : pgOK pg) : pgS pg < 100 := pgS_go pg 5 (fun c hc => (hO c hc).2.1) (by decide)
theorem HM_of {u v : Mem} {pg : List (Nat × Nat × List Nat)} (h13 : gI v 82 13 = gI u 82 13) (hA : ∀ a, 91 ≤ a → a ≤ 96 → gA v a = gA u a) (h : HM u pg) : HM v pg := by
  rcases h with ⟨h1, h2⟩ | ⟨f, hf, h1, h2, h3, h4⟩
  · exact Or.inl ⟨h13.trans h1, h2⟩
  · refine Or.inr ⟨f, hf, h13.trans h1, by rw [hA 91 (by decide) (by decide)]; exact h2, h3, fun c hc => ?_⟩
    obtain ⟨a1, a2, a3⟩ := h4 c hc
    refine ⟨by rw [hA 92 (by decide) (by decide)]; exact a1, by rw [hA 93 (by decide) (by decide)]; exact a2, fun q => ?_⟩
    obtain ⟨a, b1, b2, b3, b4⟩ := a3 q
    exact ⟨a, b1, by rw [hA 94 (by decide) (by decide)]; exact b2, by rw [hA 95 (by decide) (by decide)]; exact b3, fun j hj => by rw [hA 96 (by decide) (by decide)]; exact b4 j hj⟩
/-! the reference in a memory -/
def KM (u : Mem) (K : gK8) : Prop := (cN K ≤ 6 ∧ gI u 82 0 = nI (cN K)) ∧ (∀ i, i < 8 → gA u 89 i = cH K i) ∧ (∀ i, i < 6 → gA u 83 i = cK K i ∧ gA u 84 i = cV K i ∧ gA u 85 i = cC K i ∧ bI (bit (gI u 82 1) i) = cO K i) ∧ (∀ i, i < 24 → gA u 87 i = cR K i) ∧ HM u (cP K) ∧ pgOK (cP K)
def NM (u : Mem) (s p m : Int32) (o k g : Nat → Int32) : Mem := sAr (sAr (sAr (sI (sI (sI u 82 2 s) 82 3 p) 82 4 m) 88 o) 86 k) 99 g
def VM (u : Mem) (w : gW5) (v : Mem) : Prop := ∃ o k g, v = NM u (wS w) (wP w) (wM w) o k g ∧ (∀ i, i < 8 → o i = wO w i) ∧ ∀ i, i < 6 → k i = wK w i
section NMS
variable {u : Mem} {s p m : Int32} {o k g : Nat → Int32}
theorem NM_I (x j : Nat) (h : x ≠ 82 ∨ (j ≠ 2 ∧ j ≠ 3 ∧ j ≠ 4)) : gI (NM u s p m o k g) x j = gI u x j := by
  unfold NM
  simp only [gI_sAr, gI_sI]
  rw [if_neg (by omega), if_neg (by omega), if_neg (by omega)]
theorem NM_I2 : gI (NM u s p m o k g) 82 2 = s := by
  unfold NM
  simp [gI_sAr, gI_sI]
theorem NM_I3 : gI (NM u s p m o k g) 82 3 = p := by
  unfold NM
  simp [gI_sAr, gI_sI]
theorem NM_I4 : gI (NM u s p m o k g) 82 4 = m := by
  unfold NM
  simp [gI_sAr, gI_sI]
theorem NM_A (x : Nat) (h : x ≠ 88 ∧ x ≠ 86 ∧ x ≠ 99) : gA (NM u s p m o k g) x = gA u x := by
  unfold NM
  rw [gA_sAr_n h.2.2, gA_sAr_n h.2.1, gA_sAr_n h.1]
  rfl
theorem NM_88 : gA (NM u s p m o k g) 88 = o := by
  unfold NM
  rw [gA_sAr_n (by omega), gA_sAr_n (by omega), gA_sAr_s]
theorem NM_86 : gA (NM u s p m o k g) 86 = k := by
  unfold NM
  rw [gA_sAr_n (by omega), gA_sAr_s]
theorem NM_ss (x : Int32) : sI (NM u s p m o k g) 82 2 x = NM u x p m o k g := by
  unfold NM
  rw [sI_sAr, sI_sAr, sI_sAr, sI_swap _ _ _ _ (show 4 ≠ 2 by decide), sI_swap _ _ _ _ (show 3 ≠ 2 by decide), sI_sI]
theorem NM_sp (x : Int32) : sI (NM u s p m o k g) 82 3 x = NM u s x m o k g := by
  unfold NM
  rw [sI_sAr, sI_sAr, sI_sAr, sI_swap _ _ _ _ (show 4 ≠ 3 by decide), sI_sI]
theorem NM_sm (x : Int32) : sI (NM u s p m o k g) 82 4 x = NM u s p x o k g := by
  unfold NM
  rw [sI_sAr, sI_sAr, sI_sAr, sI_sI]
theorem NM_so (i : Nat) (x : Int32) : sA (NM u s p m o k g) 88 i x = NM u s p m (upd o i x) k g := by
  unfold NM
  rw [sA_swap _ _ _ (by omega), sA_swap _ _ _ (by omega), sA_sAr]
theorem NM_sk (i : Nat) (x : Int32) : sA (NM u s p m o k g) 86 i x = NM u s p m o (upd k i x) g := by
  unfold NM
  rw [sA_swap _ _ _ (by omega), sA_sAr]
theorem NM_99 (g' : Nat → Int32) : sAr (NM u s p m o k g) 99 g' = NM u s p m o k g' := by
  unfold NM
  rw [sAr_sAr]
theorem NM_HM {pg : List (Nat × Nat × List Nat)} (h : HM u pg) : HM (NM u s p m o k g) pg := HM_of (NM_I 82 13 (Or.inr (by decide))) (fun a h1 h2 => NM_A a (by omega)) h
end NMS
theorem glowM {u : Mem} {K : gK8} {w : gW5} {p x : Nat} {v : Mem} (hK : KM u K) (hv : VM u w v) (hp : p < 6) (hx : x < 8) :
    ∃ v', f_X8_glow (nI p) (nI x) v = some (glowS K w p x, v') ∧ VM u w v' := by
  obtain ⟨o, k, g, rfl, ho, hk⟩ := hv
  obtain ⟨⟨k1, k2⟩, k3, k4, k5, k6, k7⟩ := hK
  obtain ⟨g', h⟩ := sumM_eq (u := NM u (wS w) (wP w) (wM w) o k g) hp hx (NM_HM k6) k7 g
  rw [NM_99, NM_99, NM_A 89 (by decide), NM_88, NM_A 83 (by decide), NM_A 84 (by decide), NM_I4, k3 x hx, ho x hx, (k4 p hp).1, (k4 p hp).2.1, Int32.mul_comm] at h
  refine ⟨_, ?_, o, k, g', rfl, ho, hk⟩
  unfold f_X8_glow
  rw [obind_of h]
  show gin (nI x) 8 _ = _
  rw [show nI p = nI p from rfl]
  simp only [gin_nI hp (show 6 ≤ 2147483648 by decide), gin_nI hx (show 8 ≤ 2147483648 by decide), nI_clamp (show p < 2 ^ 31 by omega), nI_clamp (show x < 2 ^ 31 by omega)]
  simp only [NM_A 83 (show 83 ≠ 88 ∧ 83 ≠ 86 ∧ 83 ≠ 99 by decide), NM_A 84 (show 84 ≠ 88 ∧ 84 ≠ 86 ∧ 84 ≠ 99 by decide), NM_A 87 (show 87 ≠ 88 ∧ 87 ≠ 86 ∧ 87 ≠ 99 by decide), NM_88, NM_I4]
  have h40 : (4 : Int32) * nI p + (nI x - nI x / (4 : Int32) * (4 : Int32)) = nI (p * 4 + x % 4) := by
    rw [Int32.mul_comm, nI_40, nI_rem (by omega) (by decide), nI_mul, nI_add]
  rw [h40, (k4 p hp).1, (k4 p hp).2.1, ho x hx]
  simp only [gin_nI (show p * 4 + x % 4 < 24 by omega) (show 24 ≤ 2147483648 by decide), nI_clamp (show p * 4 + x % 4 < 2 ^ 31 by omega)]
  rw [k5 _ (by omega)]
  have hsm : cH K x * 2 - wO w x + pgW (ltV (nI p) (cK K p) (cV K p) (nI x) (wO w x) (rm10 (wM w))) (cP K) = sumS K w p x := rfl
  rw [hsm]
  unfold glowS rm4
  generalize cK K p = kd
  generalize sumS K w p x = sm
  rw [Int32.mul_comm 2 sm]
  by_cases q : wO w x = 0
  · rw [if_pos q, if_pos q]
    by_cases h1 : kd = 1
    · rw [if_pos h1, if_pos h1]
    · rw [if_neg h1, if_neg h1]
      by_cases h2 : kd = 2
      · rw [if_pos h2, if_pos h2]
      · rw [if_neg h2, if_neg h2]
        by_cases h3 : kd = 3
        · rw [if_pos h3, if_pos h3]
        · rw [if_neg h3, if_neg h3]
          by_cases h4 : kd = 4
          · rw [if_pos h4, if_pos h4]
            by_cases q : wM w - wM w / 4 * 4 = 0 <;> simp [q]
          · rw [if_neg h4, if_neg h4]
            by_cases h5 : kd = 5
            · rw [if_pos h5, if_pos h5]
            · rw [if_neg h5, if_neg h5]
              by_cases h6 : kd = 6
              · rw [if_pos h6, if_pos h6]
              · rw [if_neg h6, if_neg h6]
  · rw [if_neg q, if_neg q]
    by_cases h1 : kd = 1
    · rw [if_pos h1, if_pos h1]
    · rw [if_neg h1, if_neg h1]
      by_cases h2 : kd = 2
      · rw [if_pos h2, if_pos h2]
      · rw [if_neg h2, if_neg h2]
        by_cases h3 : kd = 3
        · rw [if_pos h3, if_pos h3]
        · rw [if_neg h3, if_neg h3]
          by_cases h4 : kd = 4
          · rw [if_pos h4, if_pos h4]
            by_cases q : wM w - wM w / 4 * 4 = 0 <;> simp [q]
          · rw [if_neg h4, if_neg h4]
            by_cases h5 : kd = 5
            · rw [if_pos h5, if_pos h5]
            · rw [if_neg h5, if_neg h5]
              by_cases h6 : kd = 6
              · rw [if_pos h6, if_pos h6]
              · rw [if_neg h6, if_neg h6]
theorem tellsM {u : Mem} {K : gK8} {w : gW5} {p : Nat} {v : Mem} (hK : KM u K) (hv : VM u w v) (hp : p < 6) :
    ∃ v', f_X8_tells (nI p) v = some ((favS K w p 8).1, v') ∧ VM u w v' := by
  have h := while_F (body := fun s : Int32 × Int32 × Int32 × Mem => f_X8_tells_L8 (nI p) s.1 s.2.1 s.2.2.1 s.2.2.2) 8 (fun i s => ∃ v', s = ((favS K w p i).1, (favS K w p i).2, nI i, v') ∧ VM u w v') (fun r => ∃ v', r = ((favS K w p 8).1, v') ∧ VM u w v') (s := ((-5 : Int32), ((0 : Int32), ((0 : Int32), v)))) (by decide) ⟨v, rfl, hv⟩ ?_ ?_
  · obtain ⟨r, h1, v', rfl, h2⟩ := h
    exact ⟨v', h1, h2⟩
  · rintro i s hi ⟨v1, rfl, hv1⟩
    refine Or.inl ?_
    obtain ⟨v2, hg, hv2⟩ := glowM hK hv1 hp hi
    have hv1' := hv1
    obtain ⟨o, k, g, rfl, ho, hk⟩ := hv1
    have hs : favS K w p (i + 1) = if bit (wK w p) i = true ∧ (favS K w p i).2 < glowS K w p i then (nI i, glowS K w p i) else favS K w p i := rfl
    rw [hs]
    show ∃ s', f_X8_tells_L8 (nI p) (favS K w p i).1 (favS K w p i).2 (nI i) (NM u (wS w) (wP w) (wM w) o k g) = some (Sum.inl s') ∧ _
    unfold f_X8_tells_L8
    rw [if_neg (by (simp (disch := omega) only [le_I, lt_I, eq_I, nI_toInt, Int32.reduceToInt, ne_eq] <;> omega)), gin_nI hp (by decide), nI_clamp (by omega), NM_86, pbind_of (hasM _ _), hk p hp, nI_1]
    cases hb : bit (wK w p) i
    · rw [if_pos (show bI false = 0 from rfl), if_neg (by simp)]
      exact ⟨_, rfl, _, rfl, hv1'⟩
    · rw [if_neg (show ¬ bI true = 0 by decide), obind_of hg]
      by_cases q : (favS K w p i).2 < glowS K w p i
      · rw [if_pos q, if_pos ⟨rfl, q⟩]
        exact ⟨_, rfl, _, rfl, hv2⟩
      · rw [if_neg q, if_neg (fun z => q z.2)]
        exact ⟨_, rfl, _, rfl, hv2⟩
  · rintro s ⟨v1, rfl, hv1⟩
    refine ⟨_, ?_, v1, rfl, hv1⟩
    show f_X8_tells_L8 (nI p) (favS K w p 8).1 (favS K w p 8).2 (nI 8) v1 = _
    unfold f_X8_tells_L8
    rw [if_pos (by (simp (disch := omega) only [le_I, lt_I, eq_I, nI_toInt, Int32.reduceToInt, ne_eq] <;> omega))]
theorem tellM {u : Mem} {K : gK8} {w : gW5} {p x : Nat} {v : Mem} (hK : KM u K) (hv : VM u w v) (hp : p < 6) (hx : x < 8) :
    ∃ v', f_X8_tell (nI p) (nI x) v = some ((), v') ∧ VM u (tellS K w p x) v' := by
  obtain ⟨v1, h1, hv1⟩ := glowM hK hv hp hx
  obtain ⟨o0, k0, g0, rfl, -, -⟩ := hv
  obtain ⟨o, k, g, rfl, ho, hk⟩ := hv1
  unfold f_X8_tell
  rw [obind_of h1]
  simp only [gin_nI hx (show 8 ≤ 2147483648 by decide), nI_clamp (show x < 2 ^ 31 by omega), NM_I2, NM_ss, NM_88]
  rw [pbind_of (leastM _ _), NM_so]
  obtain ⟨⟨k1, k2⟩, k3, k4, -⟩ := hK
  have h := while_F (body := fun s : Int32 × Mem => f_X8_tell_L37 (nI p) (nI x) s.1 s.2) (cN K) (fun i s => ∃ k', s = (nI i, NM u (wS w + glowS K w p x) (wP w) (wM w) (upd o x (imin (o x + (1 : Int32)) (99 : Int32))) k' g) ∧ ∀ j, j < 6 → k' j = toldS K p x i (wK w) j) (fun r => ∃ k', r = ((), NM u (wS w + glowS K w p x) (wP w) (wM w) (upd o x (imin (o x + (1 : Int32)) (99 : Int32))) k' g) ∧ ∀ j, j < 6 → k' j = toldS K p x (cN K) (wK w) j) (s := ((0 : Int32), NM u (wS w + glowS K w p x) (wP w) (wM w) (upd o x (imin (o x + (1 : Int32)) (99 : Int32))) k g)) (by omega) ⟨k, rfl, hk⟩ ?_ ?_
  · obtain ⟨r, hr, k', rfl, hk'⟩ := h
    refine ⟨_, hr, _, k', g, rfl, ?_, hk'⟩
    exact upd_cong ho (by rw [ho x hx])
  · rintro i s hi ⟨k', rfl, hk'⟩
    refine Or.inl ?_
    show ∃ s', f_X8_tell_L37 (nI p) (nI x) (nI i) _ = some (Sum.inl s') ∧ _
    have hs : toldS K p x (i + 1) (wK w) = if hearB K p i = true then upd (toldS K p x i (wK w)) i (toldS K p x i (wK w) i ||| ((1 : Int32) <<< (nI x &&& 31))) else toldS K p x i (wK w) := rfl
    have hoff : bI (bit (gI u 82 1) i) = cO K i := (k4 i (by omega)).2.2.2
    unfold f_X8_tell_L37
    simp only [gin_nI hp (show 6 ≤ 2147483648 by decide), gin_nI (show i < 6 by omega) (show 6 ≤ 2147483648 by decide), nI_clamp (show p < 2 ^ 31 by omega), nI_clamp (show i < 2 ^ 31 by omega), NM_86, NM_sk, nI_1, NM_A 85 (show 85 ≠ 88 ∧ 85 ≠ 86 ∧ 85 ≠ 99 by decide)]
    rw [NM_I 82 0 (Or.inr (by decide)), NM_I 82 1 (Or.inr (by decide)), k2, if_neg (by (simp (disch := omega) only [le_I, lt_I, eq_I, nI_toInt, Int32.reduceToInt, ne_eq] <;> omega)), pbind_of (hasM _ _), hoff, (k4 i (by omega)).2.2.1, (k4 p hp).2.2.1, hs]
    unfold hearB
    by_cases q1 : cO K i = 0
    · rw [if_pos q1]
      by_cases q2 : cC K i = cC K p
      · rw [if_pos q2, if_pos (by simp [q1, q2])]
        exact ⟨_, rfl, _, rfl, upd_cong hk' (by rw [hk' i (by omega)])⟩
      · rw [if_neg q2, if_neg (by simp [q2])]
        exact ⟨_, rfl, _, rfl, hk'⟩
    · rw [if_neg q1, if_neg (by simp [q1])]
      exact ⟨_, rfl, _, rfl, hk'⟩
  · rintro s ⟨k', rfl, hk'⟩
    refine ⟨_, ?_, k', rfl, hk'⟩
    show f_X8_tell_L37 (nI p) (nI x) (nI (cN K)) _ = _
    unfold f_X8_tell_L37
    rw [NM_I 82 0 (Or.inr (by decide)), k2, if_pos (by (simp (disch := omega) only [le_I, lt_I, eq_I, nI_toInt, Int32.reduceToInt, ne_eq] <;> omega))]
theorem byS_0 {K : gK8} (h : nI (pgS (cP K)) = 0) : byS K = 1 := by
  unfold byS
  rw [h]; decide
theorem byS_n {K : gK8} (hO : pgOK (cP K)) (h : ¬ nI (pgS (cP K)) = 0) : byS K = nI (pgS (cP K)) := by
  have h1 := pgS_lt hO
  unfold byS imax
  rw [if_neg ?_]
  intro q
  refine h ?_
  generalize pgS (cP K) = z at *
  (simp (disch := omega) only [le_I, lt_I, eq_I, nI_toInt, Int32.reduceToInt, ne_eq] at * <;> omega)
theorem div_1 (x : Int32) : x / (1 : Int32) = x := Int32.div_one
theorem goMinM {u : Mem} {K : gK8} {w : gW5} {v : Mem} (hK : KM u K) (hv : VM u w v) :
    ∃ v', f_X8_goMinute v = some ((), v') ∧ VM u (minS K w) v' := by
  have k12 := hK.1
  have k4 := hK.2.2.1
  have k6 := hK.2.2.2.2.1
  have k7 := hK.2.2.2.2.2
  have h := while_F (body := fun s : Int32 × Mem => f_X8_goMinute_L2 s.1 s.2) (cN K) (fun i s => ∃ v', s = (nI i, v') ∧ VM u (itN (persS K) i w) v') (fun r => ∃ v', r = ((), v') ∧ VM u (minS K w) v') (s := ((0 : Int32), v)) (by omega) ⟨v, rfl, hv⟩ ?_ ?_
  · obtain ⟨r, h1, v', rfl, h2⟩ := h
    exact ⟨v', h1, h2⟩
  · rintro i s hi ⟨v1, rfl, hv1⟩
    refine Or.inl ?_
    have h6 : i < 6 := by omega
    have hoff : bI (bit (gI u 82 1) i) = cO K i := (k4 i h6).2.2.2
    obtain ⟨v2, hf, hv2⟩ := tellsM hK hv1 h6
    have hv1' := hv1
    show ∃ s', f_X8_goMinute_L2 (nI i) v1 = some (Sum.inl s') ∧ _
    have hs : itN (persS K) (i + 1) w = persS K i (itN (persS K) i w) := rfl
    rw [hs]
    generalize itN (persS K) i w = w1 at *
    obtain ⟨o, k, g, rfl, ho, hk⟩ := hv1
    unfold f_X8_goMinute_L2 persS
    rw [NM_I 82 0 (Or.inr (by decide)), NM_I 82 1 (Or.inr (by decide)), k12.2, if_neg (by (simp (disch := omega) only [le_I, lt_I, eq_I, nI_toInt, Int32.reduceToInt, ne_eq] <;> omega)), pbind_of (hasM _ _), hoff, nI_1]
    by_cases h0 : cO K i = 0
    · rw [if_pos h0, if_pos h0, obind_of hf]
      rcases favS_val K w1 i 8 with h | ⟨x, hx, h⟩
      · rw [h, if_pos (by decide), if_pos (by decide)]
        exact ⟨_, rfl, _, rfl, hv2⟩
      · rw [h, if_neg (by (simp (disch := omega) only [le_I, lt_I, eq_I, nI_toInt, Int32.reduceToInt, ne_eq] <;> omega)), if_neg (by (simp (disch := omega) only [le_I, lt_I, eq_I, nI_toInt, Int32.reduceToInt, ne_eq] <;> omega)), nI_clamp (by omega)]
        obtain ⟨v3, ht2, hv3⟩ := tellM hK hv2 h6 hx
        rw [obind_of ht2]
        exact ⟨_, rfl, _, rfl, hv3⟩
    · rw [if_neg h0, if_neg h0]
      exact ⟨_, rfl, _, rfl, hv1'⟩
  · rintro s ⟨v1, rfl, hv1⟩
    show ∃ r, f_X8_goMinute_L2 (nI (cN K)) v1 = some (Sum.inr r) ∧ _
    have hs : minS K w = rollS K (itN (persS K) (cN K) w) := rfl
    rw [hs]
    generalize itN (persS K) (cN K) w = w1 at *
    obtain ⟨o, k, g, rfl, ho, hk⟩ := hv1
    have hsl : f_X8_slope (NM u (wS w1) (wP w1) (wM w1) o k g) = some (nI (pgS (cP K))) := slope_eq (NM_HM k6) k7
    unfold f_X8_goMinute_L2
    rw [NM_I 82 0 (Or.inr (by decide)), k12.2, if_pos (by (simp (disch := omega) only [le_I, lt_I, eq_I, nI_toInt, Int32.reduceToInt, ne_eq] <;> omega)), pbind_of hsl]
    by_cases h0 : nI (pgS (cP K)) = 0
    · rw [if_pos h0, pbind_of (leastM _ _), pbind_of (leastM _ _), pbind_of (leastM _ _)]
      simp only [NM_I2, NM_ss, NM_I3, NM_sp, NM_I4, NM_sm]
      refine ⟨_, rfl, _, rfl, o, k, g, ?_, ho, hk⟩
      unfold rollS
      rw [byS_0 h0, imin_comm (20 : Int32)]
      rfl
    · rw [if_neg h0, pbind_of hsl, gne_of h0, pbind_of (leastM _ _), pbind_of (leastM _ _), pbind_of (leastM _ _)]
      simp only [NM_I2, NM_ss, NM_I3, NM_sp, NM_I4, NM_sm]
      refine ⟨_, rfl, _, rfl, o, k, g, ?_, ho, hk⟩
      unfold rollS
      rw [byS_n k7 h0, imin_comm (20 : Int32)]
      rfl
theorem goM {u : Mem} {K : gK8} {w : gW5} {v : Mem} (hK : KM u K) (hv : VM u w v) {n : Nat} (hn : n < 5000) :
    ∃ v', f_X8_goMinutes (nI n) v = some ((), v') ∧ VM u (rideS K n w) v' := by
  have h := while_F (body := fun s : Int32 × Mem => f_X8_goMinutes_L2 (nI n) s.1 s.2) n (fun i s => ∃ v', s = (nI i, v') ∧ VM u (rideS K i w) v') (fun r => ∃ v', r = ((), v') ∧ VM u (rideS K n w) v') (s := ((0 : Int32), v)) hn ⟨v, rfl, hv⟩ ?_ ?_
  · obtain ⟨r, h1, v', rfl, h2⟩ := h
    exact ⟨v', h1, h2⟩
  · rintro i s hi ⟨v1, rfl, hv1⟩
    obtain ⟨v2, h2, hv2⟩ := goMinM hK hv1
    refine Or.inl ⟨_, ?_, v2, rfl, hv2⟩
    show f_X8_goMinutes_L2 (nI n) (nI i) v1 = _
    unfold f_X8_goMinutes_L2
    rw [if_neg (by (simp (disch := omega) only [le_I, lt_I, eq_I, nI_toInt, Int32.reduceToInt, ne_eq] <;> omega)), obind_of h2, nI_1]
  · rintro s ⟨v1, rfl, hv1⟩
    refine ⟨_, ?_, v1, rfl, hv1⟩
    show f_X8_goMinutes_L2 (nI n) (nI n) v1 = _
    unfold f_X8_goMinutes_L2
    rw [if_pos (by (simp (disch := omega) only [le_I, lt_I, eq_I, nI_toInt, Int32.reduceToInt, ne_eq] <;> omega))]
