/-! THE TRAIN, as values: w what a ride changes (steam, place, minute, often, known), K what it does not (how many, heat, kinds, vs, carriages, off, rows, program) -/
abbrev gW5 : Type := Int32 × Int32 × Int32 × (Nat → Int32) × (Nat → Int32)
abbrev gK8 : Type := Nat × (Nat → Int32) × (Nat → Int32) × (Nat → Int32) × (Nat → Int32) × (Nat → Int32) × (Nat → Int32) × List (Nat × Nat × List Nat)
def wS (w : gW5) : Int32 := w.1
def wP (w : gW5) : Int32 := w.2.1
def wM (w : gW5) : Int32 := w.2.2.1
def wO (w : gW5) : Nat → Int32 := w.2.2.2.1
def wK (w : gW5) : Nat → Int32 := w.2.2.2.2
def cN (K : gK8) : Nat := K.1
def cH (K : gK8) : Nat → Int32 := K.2.1
def cK (K : gK8) : Nat → Int32 := K.2.2.1
def cV (K : gK8) : Nat → Int32 := K.2.2.2.1
def cC (K : gK8) : Nat → Int32 := K.2.2.2.2.1
def cO (K : gK8) : Nat → Int32 := K.2.2.2.2.2.1
def cR (K : gK8) : Nat → Int32 := K.2.2.2.2.2.2.1
def cP (K : gK8) : List (Nat × Nat × List Nat) := K.2.2.2.2.2.2.2
def rm4 (x : Int32) : Int32 := x - x / (4 : Int32) * (4 : Int32)
/-! the spec -/
def sumS (K : gK8) (w : gW5) (p t : Nat) : Int32 := cH K t * 2 - wO w t + pgW (ltV (nI p) (cK K p) (cV K p) (nI t) (wO w t) (rm10 (wM w))) (cP K)
def glowS (K : gK8) (w : gW5) (p t : Nat) : Int32 :=
  if cK K p = 1 then sumS K w p t + cV K p else if cK K p = 2 then sumS K w p t / 2 else if cK K p = 3 then (if wO w t = 0 then sumS K w p t * 2 else sumS K w p t)
  else if cK K p = 4 then (if rm4 (wM w) = 0 then sumS K w p t + cV K p else 0) else if cK K p = 5 then sumS K w p t / 2 - cV K p
  else if cK K p = 6 then (if wO w t = 0 then sumS K w p t * 2 else sumS K w p t) + cR K (p * 4 + t % 4) else sumS K w p t
def bit (x : Int32) (t : Nat) : Bool := decide ((x >>> (nI t &&& 31)) &&& (1 : Int32) = 1)
def favS (K : gK8) (w : gW5) (p : Nat) (n : Nat) : Int32 × Int32 := itN (fun t q => if bit (wK w p) t = true ∧ q.2 < glowS K w p t then (nI t, glowS K w p t) else q) n (-5, 0)
def hearB (K : gK8) (p o : Nat) : Bool := decide (cO K o = 0) && decide (cC K o = cC K p)
def hearS (K : gK8) (p : Nat) (n : Nat) : Int32 := itN (fun o h => if hearB K p o = true then h ||| ((1 : Int32) <<< (nI o &&& 31)) else h) n 0
def toldS (K : gK8) (p t : Nat) (n : Nat) (kn : Nat → Int32) : Nat → Int32 := itN (fun o f => if hearB K p o = true then upd f o (f o ||| ((1 : Int32) <<< (nI t &&& 31))) else f) n kn
def tellS (K : gK8) (w : gW5) (p t : Nat) : gW5 := (wS w + glowS K w p t, wP w, wM w, upd (wO w) t (imin (wO w t + (1 : Int32)) (99 : Int32)), toldS K p t (cN K) (wK w))
def persS (K : gK8) (p : Nat) (w : gW5) : gW5 := if cO K p = 0 then (if (favS K w p 8).1 < 0 then w else tellS K w p (favS K w p 8).1.toNatClampNeg) else w
def byS (K : gK8) : Int32 := imax (nI (pgS (cP K))) (1 : Int32)
def rollS (K : gK8) (w : gW5) : gW5 := (imin (wS w - imin (wS w / byS K) (20 : Int32) * byS K) (9999 : Int32), imin (wP w + imin (wS w / byS K) (20 : Int32)) (9999 : Int32), wM w + (1 : Int32), wO w, wK w)
def minS (K : gK8) (w : gW5) : gW5 := rollS K (itN (persS K) (cN K) w)
def rideS (K : gK8) (n : Nat) (w : gW5) : gW5 := itN (fun _ w => minS K w) n w
/-! the class' train t in a memory -/
def KC (u : Mem) (t : Nat) (K : gK8) : Prop := (cN K ≤ 6 ∧ gI u t 9 = nI (cN K)) ∧ (∀ i, i < 8 → gA u (t + 1) i = cH K i) ∧ (∀ i, i < 6 → gA u (t + 3) i = cK K i ∧ gA u (t + 4) i = cV K i ∧ gA u (t + 5) i = cC K i ∧ gA u (t + 7) i = cO K i) ∧ (∀ i, i < 24 → gA u (t + 8) i = cR K i) ∧
  PC u (gR u t 13) (cP K) ∧ pgOK (cP K) ∧ gokb u.1 (gR u t 13) l0 = true
def tOK (t : Nat) : Prop := t = 1 ∨ t = 13 ∨ t = 25
/-- the memory u with another w in the train t -/
def NF (t : Nat) (u : Mem) (s p m : Int32) (o k g : Nat → Int32) : Mem := sAr (sAr (sAr (sI (sI (sI u t 10 s) t 11 p) t 12 m) (t + 2) o) (t + 6) k) (t + 9) g
def VC (t : Nat) (u : Mem) (w : gW5) (v : Mem) : Prop := ∃ o k g, v = NF t u (wS w) (wP w) (wM w) o k g ∧ (∀ i, i < 8 → o i = wO w i) ∧ ∀ i, i < 6 → k i = wK w i
theorem NF_I {t : Nat} {u : Mem} {s p m : Int32} {o k g : Nat → Int32} (x j : Nat) (h : x ≠ t ∨ (j ≠ 10 ∧ j ≠ 11 ∧ j ≠ 12)) : gI (NF t u s p m o k g) x j = gI u x j := by
  unfold NF
  simp only [gI_sAr, gI_sI]
  rw [if_neg (by omega), if_neg (by omega), if_neg (by omega)]
theorem NF_10 {t : Nat} {u : Mem} {s p m : Int32} {o k g : Nat → Int32} : gI (NF t u s p m o k g) t 10 = s := by
  unfold NF
  simp [gI_sAr, gI_sI]
theorem NF_11 {t : Nat} {u : Mem} {s p m : Int32} {o k g : Nat → Int32} : gI (NF t u s p m o k g) t 11 = p := by
  unfold NF
  simp [gI_sAr, gI_sI]
theorem NF_12 {t : Nat} {u : Mem} {s p m : Int32} {o k g : Nat → Int32} : gI (NF t u s p m o k g) t 12 = m := by
  unfold NF
  simp [gI_sAr, gI_sI]
theorem NF_R {t : Nat} {u : Mem} {s p m : Int32} {o k g : Nat → Int32} : gR (NF t u s p m o k g) = gR u := rfl
theorem NF_L {t : Nat} {u : Mem} {s p m : Int32} {o k g : Nat → Int32} : gL (NF t u s p m o k g) = gL u := rfl
theorem NF_n {t : Nat} {u : Mem} {s p m : Int32} {o k g : Nat → Int32} : (NF t u s p m o k g).1 = u.1 := rfl
theorem NF_A {t : Nat} {u : Mem} {s p m : Int32} {o k g : Nat → Int32} (x : Nat) (h : x ≠ t + 2 ∧ x ≠ t + 6 ∧ x ≠ t + 9) : gA (NF t u s p m o k g) x = gA u x := by
  unfold NF
  rw [gA_sAr_n h.2.2, gA_sAr_n h.2.1, gA_sAr_n h.1]
  rfl
theorem NF_2 {t : Nat} {u : Mem} {s p m : Int32} {o k g : Nat → Int32} : gA (NF t u s p m o k g) (t + 2) = o := by
  unfold NF
  rw [gA_sAr_n (by omega), gA_sAr_n (by omega), gA_sAr_s]
theorem NF_6 {t : Nat} {u : Mem} {s p m : Int32} {o k g : Nat → Int32} : gA (NF t u s p m o k g) (t + 6) = k := by
  unfold NF
  rw [gA_sAr_n (by omega), gA_sAr_s]
theorem NF_9 {t : Nat} {u : Mem} {s p m : Int32} {o k g : Nat → Int32} : gA (NF t u s p m o k g) (t + 9) = g := by
  unfold NF
  rw [gA_sAr_s]
theorem NF_g {t : Nat} {u : Mem} {s p m : Int32} {o k g : Nat → Int32} (i : Nat) (x : Int32) : sA (NF t u s p m o k g) (t + 9) i x = NF t u s p m o k (upd g i x) := by
  unfold NF
  rw [sA_sAr]
theorem held_apart {u : Mem} {t b : Nat} (ht : tOK t) (hb : gokb u.1 b l0 = true) : b ≠ t ∧ (∀ j, 1 ≤ j → j ≤ 9 → b + 1 ≠ t + j) := by
  have h := gok_of hb
  have h0 := (h 0 (by decide)).2
  have h1 := (h 1 (by decide)).2
  have e0 : kd b = (0, 0) := h0
  have e1 : kd (b + 1) = (1, 100) := h1
  have hk : kd t = (0, 6) ∧ ∀ j, 1 ≤ j → j ≤ 9 → kd (t + j) ≠ (1, 100) := by
    have hj : ∀ t, (t = 1 ∨ t = 13 ∨ t = 25) → kd t = (0, 6) ∧ ∀ j, j < 10 → 1 ≤ j → kd (t + j) ≠ (1, 100) := by
      rintro t (rfl | rfl | rfl) <;> decide +kernel
    obtain ⟨a, b⟩ := hj t ht
    exact ⟨a, fun j q1 q2 => b j (by omega) q1⟩
  refine ⟨fun q => ?_, fun j q1 q2 q => ?_⟩
  · rw [q, hk.1] at e0; cases e0
  · rw [q] at e1
    exact hk.2 j q1 q2 e1
