/-! THE CLASS' RIDE -/
theorem nI31 : ∀ t, t < 32 → ((nI t &&& 31).toBitVec.smod 32) = BitVec.ofNat 32 t := by decide +kernel
theorem one_sh : ∀ o, o < 32 → ∀ j, j < 32 → ((1 : Int32) <<< (nI o &&& 31)).toBitVec.getLsbD j = decide (j = o) := by decide +kernel
theorem m1_b : ∀ j, j < 32 → (-1 : Int32).toBitVec.getLsbD j = true := by decide +kernel
theorem bit_lsb (x : Int32) {t : Nat} (ht : t < 32) : bit x t = x.toBitVec.getLsbD t := by
  have h0 : (x >>> (nI t &&& 31)).toBitVec.getLsbD 0 = x.toBitVec.getLsbD t := by
    rw [Int32.toBitVec_shiftRight, nI31 t ht, BitVec.sshiftRight_eq', BitVec.toNat_ofNat, Nat.mod_eq_of_lt (by omega), BitVec.getLsbD_sshiftRight]
    simp [ht]
  unfold bit
  rcases and1 (x >>> (nI t &&& 31)) with q | q
  · rw [q]
    have := congrArg (fun z : Int32 => z.toBitVec.getLsbD 0) q
    simp only [Int32.toBitVec_and, BitVec.getLsbD_and, bx_1 0 (by decide), bx_0 0 (by decide)] at this
    rw [h0] at this
    simp at this
    rw [this]; rfl
  · rw [q]
    have := congrArg (fun z : Int32 => z.toBitVec.getLsbD 0) q
    simp only [Int32.toBitVec_and, BitVec.getLsbD_and, bx_1 0 (by decide)] at this
    rw [h0] at this
    simp at this
    rw [this]; rfl
theorem bit_or (x y : Int32) {t : Nat} (ht : t < 32) : bit (x ||| y) t = (bit x t || bit y t) := by
  rw [bit_lsb _ ht, bit_lsb _ ht, bit_lsb _ ht, Int32.toBitVec_or, BitVec.getLsbD_or]
theorem bit_and (x y : Int32) {t : Nat} (ht : t < 32) : bit (x &&& y) t = (bit x t && bit y t) := by
  rw [bit_lsb _ ht, bit_lsb _ ht, bit_lsb _ ht, Int32.toBitVec_and, BitVec.getLsbD_and]
theorem bit_sh {o t : Nat} (ho : o < 32) (ht : t < 32) : bit ((1 : Int32) <<< (nI o &&& 31)) t = decide (t = o) := by rw [bit_lsb _ ht, one_sh o ho t ht]
theorem bit_nsh {o t : Nat} (ho : o < 32) (ht : t < 32) : bit (((1 : Int32) <<< (nI o &&& 31)) ^^^ (-1 : Int32)) t = !decide (t = o) := by
  rw [bit_lsb _ ht, Int32.toBitVec_xor, BitVec.getLsbD_xor, one_sh o ho t ht, m1_b t ht]
  simp
theorem bit_0 {t : Nat} (ht : t < 32) : bit 0 t = false := by rw [bit_lsb _ ht, bx_0 t ht]
theorem hearS_bit (K : gK8) (p : Nat) : ∀ (n : Nat), n ≤ 32 → ∀ o, o < 32 → bit (hearS K p n) o = (decide (o < n) && hearB K p o)
  | 0, _, o, ho => by
    show bit 0 o = _
    rw [bit_0 ho]
    simp
  | n + 1, hn, o, ho => by
    have ih := hearS_bit K p n (by omega) o ho
    show bit (if hearB K p n = true then hearS K p n ||| ((1 : Int32) <<< (nI n &&& 31)) else hearS K p n) o = _
    by_cases h : hearB K p n = true
    · rw [if_pos h, bit_or _ _ ho, ih, bit_sh (by omega) ho]
      by_cases q : o = n
      · subst q; simp [h]
      · have : (o < n + 1) ↔ o < n := by omega
        simp [q, this]
    · rw [if_neg h, ih]
      by_cases q : o = n
      · subst q; simp [h]
      · have : (o < n + 1) ↔ o < n := by omega
        simp [this]
theorem up1_swap {β : Type} {f : Nat → β} {a b : Nat} {v w : β} (h : a ≠ b) : up1 (up1 f a v) b w = up1 (up1 f b w) a v := by
  funext x
  unfold up1
  by_cases h1 : x = a
  · subst h1; simp [h]
  · simp [h1]
theorem up1_twice {β : Type} {f : Nat → β} {a : Nat} {v w : β} : up1 (up1 f a v) a w = up1 f a w := by
  funext x
  unfold up1
  by_cases h1 : x = a <;> simp [h1]
theorem sI_sI (u : Mem) (t k : Nat) (v v' : Int32) : sI (sI u t k v) t k v' = sI u t k v' := by
  unfold sI
  congr 2
  show up1 (up1 u.2.1 t _) t (up1 (up1 u.2.1 t _ t) k v') = _
  rw [up1_twice, up1_s, up1_twice]
theorem sI_swap (u : Mem) (t : Nat) {k k' : Nat} (v v' : Int32) (h : k ≠ k') : sI (sI u t k v) t k' v' = sI (sI u t k' v') t k v := by
  unfold sI
  congr 2
  show up1 (up1 u.2.1 t _) t (up1 (up1 u.2.1 t _ t) k' v') = up1 (up1 u.2.1 t _) t (up1 (up1 u.2.1 t _ t) k v)
  rw [up1_twice, up1_s, up1_twice, up1_s, up1_swap h]
theorem sAr_swap (u : Mem) {a b : Nat} (f g : Nat → Int32) (h : a ≠ b) : sAr (sAr u a f) b g = sAr (sAr u b g) a f := by
  unfold sAr
  congr 3
  congr 1
  exact up1_swap h
theorem sI_sAr (u : Mem) (a : Nat) (f : Nat → Int32) (t k : Nat) (v : Int32) : sI (sAr u a f) t k v = sAr (sI u t k v) a f := rfl
theorem NF_ss {t : Nat} {u : Mem} {s p m : Int32} {o k g : Nat → Int32} (x : Int32) : sI (NF t u s p m o k g) t 10 x = NF t u x p m o k g := by
  unfold NF
  rw [sI_sAr, sI_sAr, sI_sAr, sI_swap _ _ _ _ (show 12 ≠ 10 by decide), sI_swap _ _ _ _ (show 11 ≠ 10 by decide), sI_sI]
theorem NF_sp {t : Nat} {u : Mem} {s p m : Int32} {o k g : Nat → Int32} (x : Int32) : sI (NF t u s p m o k g) t 11 x = NF t u s x m o k g := by
  unfold NF
  rw [sI_sAr, sI_sAr, sI_sAr, sI_swap _ _ _ _ (show 12 ≠ 11 by decide), sI_sI]
theorem NF_sm {t : Nat} {u : Mem} {s p m : Int32} {o k g : Nat → Int32} (x : Int32) : sI (NF t u s p m o k g) t 12 x = NF t u s p x o k g := by
  unfold NF
  rw [sI_sAr, sI_sAr, sI_sAr, sI_sI]
theorem sA_swap (u : Mem) {a b i : Nat} (f : Nat → Int32) (x : Int32) (h : a ≠ b) : sA (sAr u a f) b i x = sAr (sA u b i x) a f := by
  unfold sA
  rw [gA_sAr_n (fun q => h q.symm), sAr_swap _ _ _ h]
theorem NF_so {t : Nat} {u : Mem} {s p m : Int32} {o k g : Nat → Int32} (i : Nat) (x : Int32) : sA (NF t u s p m o k g) (t + 2) i x = NF t u s p m (upd o i x) k g := by
  unfold NF
  rw [sA_swap _ _ _ (by omega), sA_swap _ _ _ (by omega), sA_sAr]
theorem NF_sk {t : Nat} {u : Mem} {s p m : Int32} {o k g : Nat → Int32} (i : Nat) (x : Int32) : sA (NF t u s p m o k g) (t + 6) i x = NF t u s p m o (upd k i x) g := by
  unfold NF
  rw [sA_swap _ _ _ (by omega), sA_sAr]
theorem upd_eq {f : Nat → Int32} {i j : Nat} {x : Int32} : upd f i x j = if j = i then x else f j := rfl
theorem upd_cong {f g : Nat → Int32} {N i : Nat} {x y : Int32} (h : ∀ j, j < N → f j = g j) (hx : x = y) : ∀ j, j < N → upd f i x j = upd g i y j := by
  intro j hj
  rw [upd_eq, upd_eq, hx, h j hj]
theorem glowC {u : Mem} {t : Nat} {K : gK8} {w : gW5} {p x : Nat} {v : Mem} (ht : tOK t) (hK : KC u t K) (hv : VC t u w v) (hp : p < 6) (hx : x < 8) :
    ∃ v', f_X6_glow t (nI p) (nI x) v = some (glowS K w p x, v') ∧ VC t u w v' := by
  obtain ⟨o, k, g, rfl, ho, hk⟩ := hv
  obtain ⟨g', h⟩ := glowC' (g := g) (k := k) ht hK ho hp hx
  exact ⟨_, h, o, k, g', rfl, ho, hk⟩
theorem favC2 {u : Mem} {t : Nat} {K : gK8} {w : gW5} {p : Nat} {v : Mem} (ht : tOK t) (hK : KC u t K) (hv : VC t u w v) (hp : p < 6) :
    ∃ v', f_X6_favourite t (nI p) v = some ((favS K w p 8).1, v') ∧ VC t u w v' := by
  obtain ⟨o, k, g, rfl, ho, hk⟩ := hv
  obtain ⟨g', h⟩ := favC (g := g) ht hK ho hk hp
  exact ⟨_, h, o, k, g', rfl, ho, hk⟩
theorem hearC {u : Mem} {t : Nat} {K : gK8} {w : gW5} {p : Nat} {v : Mem} (hK : KC u t K) (hv : VC t u w v) (hp : p < 6) : f_X6_hearersOf t (nI p) v = some (hearS K p (cN K)) := by
  obtain ⟨o, k, g, rfl, ho, hk⟩ := hv
  obtain ⟨⟨k1, k2⟩, k3, k4, k5, k6, k7, k8⟩ := hK
  have h := while_F (body := fun s : Int32 × Int32 => f_X6_hearersOf_L4 (NF t u (wS w) (wP w) (wM w) o k g) t (nI p) s.1 s.2) (cN K) (fun i s => s = (hearS K p i, nI i)) (fun r => r = hearS K p (cN K)) (s := ((0 : Int32), (0 : Int32))) (by omega) rfl ?_ ?_
  · obtain ⟨r, h1, rfl⟩ := h
    exact h1
  · rintro i s hi rfl
    refine Or.inl ⟨_, ?_, rfl⟩
    show f_X6_hearersOf_L4 (NF t u (wS w) (wP w) (wM w) o k g) t (nI p) (hearS K p i) (nI i) = some (.inl (if hearB K p i = true then hearS K p i ||| ((1 : Int32) <<< (nI i &&& 31)) else hearS K p i, nI (i + 1)))
    unfold f_X6_hearersOf_L4
    simp only [gin_nI hp (show 6 ≤ 2147483648 by decide), gin_nI (show i < 6 by omega) (show 6 ≤ 2147483648 by decide), nI_clamp (show p < 2 ^ 31 by omega), nI_clamp (show i < 2 ^ 31 by omega)]
    rw [NF_I t 9 (Or.inr (by decide)), NF_A (t + 7) (by omega), NF_A (t + 5) (by omega), k2, if_neg (by (simp (disch := omega) only [le_I, lt_I, eq_I, nI_toInt, Int32.reduceToInt, ne_eq] <;> omega)), (k4 i (by omega)).2.2.2, (k4 i (by omega)).2.2.1, (k4 p hp).2.2.1, nI_1]
    unfold hearB
    by_cases h1 : cO K i = 0 <;> by_cases h2 : cC K i = cC K p <;> simp [h1, h2]
  · rintro s rfl
    refine ⟨_, ?_, rfl⟩
    show f_X6_hearersOf_L4 (NF t u (wS w) (wP w) (wM w) o k g) t (nI p) (hearS K p (cN K)) (nI (cN K)) = _
    unfold f_X6_hearersOf_L4
    rw [NF_I t 9 (Or.inr (by decide)), k2, if_pos (by (simp (disch := omega) only [le_I, lt_I, eq_I, nI_toInt, Int32.reduceToInt, ne_eq] <;> omega))]
theorem tellC {u : Mem} {t : Nat} {K : gK8} {w : gW5} {p x : Nat} {v : Mem} (ht : tOK t) (hK : KC u t K) (hv : VC t u w v) (hp : p < 6) (hx : x < 8) :
    ∃ v', f_X6_tell t (nI p) (nI x) v = some ((), v') ∧ VC t u (tellS K w p x) v' := by
  obtain ⟨v1, h1, hv1⟩ := glowC ht hK hv hp hx
  obtain ⟨o0, k0, g0, rfl, -, -⟩ := hv
  obtain ⟨o, k, g, rfl, ho, hk⟩ := hv1
  have hh : ∀ (v : Mem) (o' : Nat → Int32), v = NF t u (wS w + glowS K w p x) (wP w) (wM w) o' k g → f_X6_hearersOf t (nI p) v = some (hearS K p (cN K)) := by
    rintro v o' rfl
    exact hearC (w := (wS w + glowS K w p x, wP w, wM w, o', wK w)) hK ⟨o', k, g, rfl, fun _ _ => rfl, hk⟩ hp
  unfold f_X6_tell
  rw [obind_of h1]
  simp only [gin_nI hx (show 8 ≤ 2147483648 by decide), nI_clamp (show x < 2 ^ 31 by omega), NF_10, NF_ss, NF_2, NF_so]
  rw [pbind_of (hh _ _ rfl)]
  obtain ⟨⟨k1, k2⟩, -⟩ := hK
  have h := while_F (body := fun s : Int32 × Mem => f_X6_tell_L43 t (hearS K p (cN K)) (nI x) s.1 s.2) (cN K) (fun i s => ∃ k', s = (nI i, NF t u (wS w + glowS K w p x) (wP w) (wM w) (upd o x (imin (o x + (1 : Int32)) (99 : Int32))) k' g) ∧ ∀ j, j < 6 → k' j = toldS K p x i (wK w) j) (fun r => ∃ k', r = ((), NF t u (wS w + glowS K w p x) (wP w) (wM w) (upd o x (imin (o x + (1 : Int32)) (99 : Int32))) k' g) ∧ ∀ j, j < 6 → k' j = toldS K p x (cN K) (wK w) j) (s := ((0 : Int32), NF t u (wS w + glowS K w p x) (wP w) (wM w) (upd o x (imin (o x + (1 : Int32)) (99 : Int32))) k g)) (by omega) ⟨k, rfl, hk⟩ ?_ ?_
  · obtain ⟨r, hr, k', rfl, hk'⟩ := h
    refine ⟨_, hr, _, k', g, rfl, ?_, hk'⟩
    exact upd_cong ho (by rw [ho x hx])
  · rintro i s hi ⟨k', rfl, hk'⟩
    refine Or.inl ?_
    show ∃ s', f_X6_tell_L43 t (hearS K p (cN K)) (nI x) (nI i) _ = some (Sum.inl s') ∧ _
    have hb := hearS_bit K p (cN K) (by omega) i (by omega)
    rw [decide_eq_true hi, Bool.true_and] at hb
    have hs : toldS K p x (i + 1) (wK w) = if hearB K p i = true then upd (toldS K p x i (wK w)) i (toldS K p x i (wK w) i ||| ((1 : Int32) <<< (nI x &&& 31))) else toldS K p x i (wK w) := rfl
    unfold f_X6_tell_L43
    simp only [gin_nI (show i < 6 by omega) (show 6 ≤ 2147483648 by decide), nI_clamp (show i < 2 ^ 31 by omega), NF_6, NF_sk, nI_1]
    rw [NF_I t 9 (Or.inr (by decide)), k2, if_neg (by (simp (disch := omega) only [le_I, lt_I, eq_I, nI_toInt, Int32.reduceToInt, ne_eq] <;> omega)), hs]
    cases q : hearB K p i
    · rw [q] at hb
      rw [bit_f hb, if_pos rfl, if_neg (by decide)]
      exact ⟨_, rfl, k', rfl, hk'⟩
    · rw [q] at hb
      rw [bit_t hb, if_neg (by decide), if_pos rfl]
      exact ⟨_, rfl, _, rfl, upd_cong hk' (by rw [hk' i (by omega)])⟩
  · rintro s ⟨k', rfl, hk'⟩
    refine ⟨_, ?_, k', rfl, hk'⟩
    show f_X6_tell_L43 t (hearS K p (cN K)) (nI x) (nI (cN K)) _ = _
    unfold f_X6_tell_L43
    rw [NF_I t 9 (Or.inr (by decide)), k2, if_pos (by (simp (disch := omega) only [le_I, lt_I, eq_I, nI_toInt, Int32.reduceToInt, ne_eq] <;> omega))]
theorem byS_ne (K : gK8) : ¬ byS K = 0 := by
  unfold byS imax
  split <;> (simp (disch := omega) only [le_I, lt_I, eq_I, nI_toInt, Int32.reduceToInt, ne_eq] at * <;> omega)
theorem rollC {u : Mem} {t : Nat} {K : gK8} {w : gW5} {v : Mem} (ht : tOK t) (hK : KC u t K) (hv : VC t u w v) :
    ∃ v', f_X6_roll t v = some ((), v') ∧ VC t u (imin (wS w - imin (wS w / byS K) (20 : Int32) * byS K) (9999 : Int32), imin (wP w + imin (wS w / byS K) (20 : Int32)) (9999 : Int32), wM w, wO w, wK w) v' := by
  obtain ⟨o, k, g, rfl, ho, hk⟩ := hv
  obtain ⟨⟨k1, k2⟩, k3, k4, k5, k6, k7, k8⟩ := hK
  have hb := (held_apart ht k8).1
  have hne := byS_ne K
  unfold byS at hne ⊢
  unfold f_X6_roll
  simp only [NF_R, NF_n, NF_I (gR u t 13) 2 (Or.inl hb), NF_10, NF_11, NF_sp, NF_ss, k6.2.2.1]
  rw [gob_t k8, gne_of hne]
  exact ⟨_, rfl, o, k, g, rfl, ho, hk⟩
theorem favS_val (K : gK8) (w : gW5) (p : Nat) : ∀ n, (favS K w p n).1 = -5 ∨ ∃ x, x < n ∧ (favS K w p n).1 = nI x
  | 0 => Or.inl rfl
  | n + 1 => by
    unfold favS
    rw [itN_succ]
    split
    · exact Or.inr ⟨n, by omega, rfl⟩
    · rcases favS_val K w p n with h | ⟨x, hx, h⟩
      · exact Or.inl h
      · exact Or.inr ⟨x, by omega, h⟩
theorem persC {u : Mem} {t : Nat} {K : gK8} {w : gW5} {p : Nat} {v : Mem} (ht : tOK t) (hK : KC u t K) (hv : VC t u w v) (hp : p < cN K) (m : Int32) :
    ∃ v', f_X6_ride_L9 t m (nI p) v = some (.inl (m, (nI (p + 1), v'))) ∧ VC t u (persS K p w) v' := by
  have h6 : p < 6 := by have := hK.1.1; omega
  obtain ⟨v1, hf, hv1⟩ := favC2 ht hK hv h6
  obtain ⟨o, k, g, rfl, ho, hk⟩ := hv
  have k12 := hK.1
  have k4 := hK.2.2.1
  unfold f_X6_ride_L9 persS
  rw [NF_I t 9 (Or.inr (by decide)), k12.2, if_neg (by (simp (disch := omega) only [le_I, lt_I, eq_I, nI_toInt, Int32.reduceToInt, ne_eq] <;> omega)), gin_nI h6 (by decide), nI_clamp (by omega), NF_A (t + 7) (by omega), (k4 p h6).2.2.2, nI_1]
  by_cases h0 : cO K p = 0
  · rw [if_pos h0, if_pos h0, obind_of hf]
    rcases favS_val K w p 8 with h | ⟨x, hx, h⟩
    · rw [h, if_pos (by decide), if_pos (by decide)]
      exact ⟨_, rfl, hv1⟩
    · rw [h, if_neg (by (simp (disch := omega) only [le_I, lt_I, eq_I, nI_toInt, Int32.reduceToInt, ne_eq] <;> omega)), if_neg (by (simp (disch := omega) only [le_I, lt_I, eq_I, nI_toInt, Int32.reduceToInt, ne_eq] <;> omega)), nI_clamp (by omega)]
      obtain ⟨v2, ht2, hv2⟩ := tellC ht hK hv1 h6 hx
      rw [obind_of ht2]
      exact ⟨_, rfl, hv2⟩
  · rw [if_neg h0, if_neg h0]
    exact ⟨_, rfl, o, k, g, rfl, ho, hk⟩
theorem minC {u : Mem} {t : Nat} {K : gK8} {w : gW5} {v : Mem} (ht : tOK t) (hK : KC u t K) (hv : VC t u w v) (m : Int32) :
    ∃ v', whileO (fun s => f_X6_ride_L9 t s.1 s.2.1 s.2.2) FUEL (m, ((0 : Int32), v)) = some (.inl (m + (1 : Int32), v')) ∧ VC t u (minS K w) v' := by
  have k12 := hK.1
  have h := while_F (body := fun s : Int32 × Int32 × Mem => f_X6_ride_L9 t s.1 s.2.1 s.2.2) (cN K) (fun i s => ∃ v', s = (m, nI i, v') ∧ VC t u (itN (persS K) i w) v') (fun r => ∃ v', r = .inl (m + (1 : Int32), v') ∧ VC t u (minS K w) v') (s := (m, ((0 : Int32), v))) (by omega) ⟨v, rfl, hv⟩ ?_ ?_
  · obtain ⟨r, h1, v', rfl, h2⟩ := h
    exact ⟨v', h1, h2⟩
  · rintro i s hi ⟨v1, rfl, hv1⟩
    obtain ⟨v2, h2, hv2⟩ := persC ht hK hv1 hi m
    exact Or.inl ⟨_, h2, v2, rfl, hv2⟩
  · rintro s ⟨v1, rfl, hv1⟩
    obtain ⟨v2, h2, o, k, g, rfl, ho, hk⟩ := rollC ht hK hv1
    refine ⟨_, ?_, _, rfl, o, k, g, rfl, ho, hk⟩
    show f_X6_ride_L9 t m (nI (cN K)) v1 = _
    obtain ⟨o1, k1, g1, rfl, -, -⟩ := hv1
    unfold f_X6_ride_L9
    rw [NF_I t 9 (Or.inr (by decide)), k12.2, if_pos (by (simp (disch := omega) only [le_I, lt_I, eq_I, nI_toInt, Int32.reduceToInt, ne_eq] <;> omega)), obind_of h2, NF_12, NF_sm]
    rfl
theorem rideC {u : Mem} {t : Nat} {K : gK8} {w : gW5} {v : Mem} (ht : tOK t) (hK : KC u t K) (hv : VC t u w v) {n : Nat} (hn : n < 5000) :
    ∃ v', f_X6_ride t (nI n) v = some ((), v') ∧ VC t u (rideS K n w) v' := by
  have h := while_F (body := fun s : Int32 × Mem => f_X6_ride_L2 (nI n) t s.1 s.2) n (fun i s => ∃ v', s = (nI i, v') ∧ VC t u (rideS K i w) v') (fun r => ∃ v', r = ((), v') ∧ VC t u (rideS K n w) v') (s := ((0 : Int32), v)) hn ⟨v, rfl, hv⟩ ?_ ?_
  · obtain ⟨r, h1, v', rfl, h2⟩ := h
    exact ⟨v', h1, h2⟩
  · rintro i s hi ⟨v1, rfl, hv1⟩
    obtain ⟨v2, h2, hv2⟩ := minC ht hK hv1 (nI i)
    refine Or.inl ⟨_, ?_, v2, rfl, hv2⟩
    show f_X6_ride_L2 (nI n) t (nI i) v1 = _
    unfold f_X6_ride_L2
    rw [if_neg (by (simp (disch := omega) only [le_I, lt_I, eq_I, nI_toInt, Int32.reduceToInt, ne_eq] <;> omega)), h2, nI_1]
  · rintro s ⟨v1, rfl, hv1⟩
    refine ⟨_, ?_, v1, rfl, hv1⟩
    show f_X6_ride_L2 (nI n) t (nI n) v1 = _
    unfold f_X6_ride_L2
    rw [if_pos (by (simp (disch := omega) only [le_I, lt_I, eq_I, nI_toInt, Int32.reduceToInt, ne_eq] <;> omega))]
/-! ash, spread -/
def ashS1 (K : gK8) (w : gW5) (p : Nat) (n : Nat) (a : Int32) : Int32 := itN (fun t a => if bit (wK w p) t = true ∧ (0 : Int32) < glowS K w p t then a &&& (((1 : Int32) <<< (nI t &&& 31)) ^^^ (-1 : Int32)) else a) n a
def ashS (K : gK8) (w : gW5) (n : Nat) : Int32 := itN (fun p a => if cO K p = 0 then ashS1 K w p 8 a else a) n 255
theorem ashC1 {u : Mem} {t : Nat} {K : gK8} {w : gW5} {p : Nat} {v : Mem} (ht : tOK t) (hK : KC u t K) (hv : VC t u w v) (hp : p < 6) (a : Int32) :
    ∃ v', whileO (fun s => f_X6_ash_L16 t s.1 s.2.1 s.2.2.1 s.2.2.2) FUEL (a, (nI p, ((0 : Int32), v))) = some (.inl (if cO K p = 0 then ashS1 K w p 8 a else a, (nI (p + 1), v'))) ∧ VC t u w v' := by
  have k4 := hK.2.2.1
  have h := while_F (body := fun s : Int32 × Int32 × Int32 × Mem => f_X6_ash_L16 t s.1 s.2.1 s.2.2.1 s.2.2.2) 8 (fun i s => ∃ v', s = (if cO K p = 0 then ashS1 K w p i a else a, nI p, nI i, v') ∧ VC t u w v') (fun r => ∃ v', r = .inl (if cO K p = 0 then ashS1 K w p 8 a else a, (nI (p + 1), v')) ∧ VC t u w v') (s := (a, (nI p, ((0 : Int32), v)))) (by decide) ⟨v, by unfold ashS1; show _ = (if _ then a else a, _, _, _); rw [ite_self]; rfl, hv⟩ ?_ ?_
  · obtain ⟨r, h1, v', rfl, h2⟩ := h
    exact ⟨v', h1, h2⟩
  · rintro i s hi ⟨v1, rfl, hv1⟩
    refine Or.inl ?_
    obtain ⟨v2, hg, hv2⟩ := glowC ht hK hv1 hp hi
    have hv1' := hv1
    obtain ⟨o, k, g, rfl, ho, hk⟩ := hv1
    show ∃ s', f_X6_ash_L16 t (if cO K p = 0 then ashS1 K w p i a else a) (nI p) (nI i) _ = some (Sum.inl s') ∧ _
    unfold f_X6_ash_L16
    have hs : ashS1 K w p (i + 1) a = if bit (wK w p) i = true ∧ (0 : Int32) < glowS K w p i then ashS1 K w p i a &&& (((1 : Int32) <<< (nI i &&& 31)) ^^^ (-1 : Int32)) else ashS1 K w p i a := rfl
    rw [if_neg (by (simp (disch := omega) only [le_I, lt_I, eq_I, nI_toInt, Int32.reduceToInt, ne_eq] <;> omega)), gin_nI hp (by decide), nI_clamp (by omega), NF_A (t + 7) (by omega), (k4 p hp).2.2.2, pbind_of (knowsC hp), NF_6, hk p hp, nI_1, hs]
    by_cases h0 : cO K p = 0
    · simp only [if_pos h0]
      cases hb : bit (wK w p) i
      · rw [if_pos (show bI false = 0 from rfl), if_neg (by simp)]
        exact ⟨_, rfl, _, rfl, hv1'⟩
      · rw [if_neg (show ¬ bI true = 0 by decide), obind_of hg]
        by_cases q : glowS K w p i ≤ 0
        · rw [if_pos q, if_neg (by intro q2; have q2 := q2.2; (simp (disch := omega) only [le_I, lt_I, eq_I, nI_toInt, Int32.reduceToInt, ne_eq] at * <;> omega))]
          exact ⟨_, rfl, _, rfl, hv2⟩
        · rw [if_neg q, if_pos ⟨rfl, by (simp (disch := omega) only [le_I, lt_I, eq_I, nI_toInt, Int32.reduceToInt, ne_eq] at * <;> omega)⟩]
          exact ⟨_, rfl, _, rfl, hv2⟩
    · simp only [if_neg h0]
      exact ⟨_, rfl, _, rfl, hv1'⟩
  · rintro s ⟨v1, rfl, hv1⟩
    refine ⟨_, ?_, v1, rfl, hv1⟩
    show f_X6_ash_L16 t (if cO K p = 0 then ashS1 K w p 8 a else a) (nI p) (nI 8) v1 = _
    unfold f_X6_ash_L16
    rw [if_pos (by (simp (disch := omega) only [le_I, lt_I, eq_I, nI_toInt, Int32.reduceToInt, ne_eq] <;> omega)), nI_1]
theorem ashC {u : Mem} {t : Nat} {K : gK8} {w : gW5} {v : Mem} (ht : tOK t) (hK : KC u t K) (hv : VC t u w v) :
    ∃ v', f_X6_ash t v = some (ashS K w (cN K), v') ∧ VC t u w v' := by
  have k12 := hK.1
  have h := while_F (body := fun s : Int32 × Int32 × Mem => f_X6_ash_L6 t s.1 s.2.1 s.2.2) (cN K) (fun i s => ∃ v', s = (ashS K w i, nI i, v') ∧ VC t u w v') (fun r => ∃ v', r = (ashS K w (cN K), v') ∧ VC t u w v') (s := ((255 : Int32), ((0 : Int32), v))) (by omega) ⟨v, rfl, hv⟩ ?_ ?_
  · obtain ⟨r, h1, v', rfl, h2⟩ := h
    exact ⟨v', h1, h2⟩
  · rintro i s hi ⟨v1, rfl, hv1⟩
    obtain ⟨v2, h2, hv2⟩ := ashC1 ht hK hv1 (show i < 6 by omega) (ashS K w i)
    refine Or.inl ⟨_, ?_, v2, rfl, hv2⟩
    show f_X6_ash_L6 t (ashS K w i) (nI i) v1 = _
    obtain ⟨o, k, g, rfl, ho, hk⟩ := hv1
    unfold f_X6_ash_L6
    rw [NF_I t 9 (Or.inr (by decide)), k12.2, if_neg (by (simp (disch := omega) only [le_I, lt_I, eq_I, nI_toInt, Int32.reduceToInt, ne_eq] <;> omega)), h2]
    rfl
  · rintro s ⟨v1, rfl, hv1⟩
    refine ⟨_, ?_, v1, rfl, hv1⟩
    show f_X6_ash_L6 t (ashS K w (cN K)) (nI (cN K)) v1 = _
    obtain ⟨o, k, g, rfl, ho, hk⟩ := hv1
    unfold f_X6_ash_L6
    rw [NF_I t 9 (Or.inr (by decide)), k12.2, if_pos (by (simp (disch := omega) only [le_I, lt_I, eq_I, nI_toInt, Int32.reduceToInt, ne_eq] <;> omega))]
