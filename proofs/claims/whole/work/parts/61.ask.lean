/-! WHAT IS ASKED: the class goes on with train 13, the reference with itself, and puts back -/
theorem Agr.mono {S F S' F' : Nat → Prop} {u v : Mem} (h : Agr S F u v) (hS : ∀ x, S' x → S x) (hF : ∀ k, F' k → F k) : Agr S' F' u v :=
  ⟨h.1, fun x hx => h.2.1 x (hS x hx), fun k hk => h.2.2 k (hF k hk)⟩
def TT (_ : Nat) : Prop := True
def St (t x : Nat) : Prop := x ≠ t ∧ x ≠ t + 2 ∧ x ≠ t + 6 ∧ x ≠ t + 9
def S13 (x : Nat) : Prop := x ≠ 13 ∧ ¬ (14 ≤ x ∧ x ≤ 22)
def SC (x : Nat) : Prop := x ≠ 1 ∧ x ≠ 13 ∧ ¬ (2 ≤ x ∧ x ≤ 10) ∧ ¬ (14 ≤ x ∧ x ≤ 22)
def Sg (x : Nat) : Prop := x ≠ 82 ∧ x ≠ 86 ∧ x ≠ 88 ∧ x ≠ 99
def Fg (k : Nat) : Prop := k ≠ 2 ∧ k ≠ 3 ∧ k ≠ 4
def SM (x : Nat) : Prop := ¬ (82 ≤ x ∧ x ≤ 89) ∧ ¬ (99 ≤ x ∧ x ≤ 102)
def FM (k : Nat) : Prop := 5 ≤ k ∧ ¬ (30 ≤ k ∧ k ≤ 33)
theorem sI_self (u : Mem) (t k : Nat) : sI u t k (gI u t k) = u := by
  unfold sI gI
  congr 2
  funext x y
  unfold up1
  by_cases h : x = t
  · subst h
    simp only [if_true]
    by_cases q : y = k <;> simp [q]
  · simp [h]
theorem NF_self (u : Mem) (t : Nat) : NF t u (gI u t 10) (gI u t 11) (gI u t 12) (gA u (t + 2)) (gA u (t + 6)) (gA u (t + 9)) = u := by
  unfold NF
  rw [sI_self, sI_self, sI_self, sAr_self, sAr_self, sAr_self]
theorem NM_self (u : Mem) : NM u (gI u 82 2) (gI u 82 3) (gI u 82 4) (gA u 88) (gA u 86) (gA u 99) = u := by
  unfold NM
  rw [sI_self, sI_self, sI_self, sAr_self, sAr_self, sAr_self]
def CT (v : Mem) (t : Nat) (K : gK8) (w : gW5) : Prop := KC v t K ∧ WC v t w
def CM (v : Mem) (K : gK8) (w : gW5) : Prop := KM v K ∧ WMg (gI v 82 2) (gI v 82 3) (gI v 82 4) (gA v 88) (gA v 86) w
theorem CT.vc {v : Mem} {t : Nat} {K : gK8} {w : gW5} (h : CT v t K w) : VC t v w v :=
  ⟨gA v (t + 2), gA v (t + 6), gA v (t + 9), by rw [← h.2.1, ← h.2.2.1, ← h.2.2.2.1, NF_self], h.2.2.2.2.1, h.2.2.2.2.2⟩
theorem CM.vm {v : Mem} {K : gK8} {w : gW5} (h : CM v K w) : VM v w v :=
  ⟨gA v 88, gA v 86, gA v 99, by rw [← h.2.1, ← h.2.2.1, ← h.2.2.2.1, NM_self], h.2.2.2.2.1, h.2.2.2.2.2⟩
theorem tOK_lt {t : Nat} (h : tOK t) : t ≠ 82 ∧ t < 30 := by rcases h with rfl | rfl | rfl <;> decide
theorem CT.of_VC {u v : Mem} {t : Nat} {K : gK8} {w : gW5} (ht : tOK t) (hK : KC u t K) (hv : VC t u w v) : CT v t K w ∧ Agr (St t) TT u v ∧ gR v = gR u := by
  obtain ⟨o, k, g, rfl, ho, hk⟩ := hv
  obtain ⟨⟨k1, k2⟩, k3, k4, k5, k6, k7, k8⟩ := hK
  refine ⟨⟨⟨⟨k1, ?_⟩, fun i hi => ?_, fun i hi => ⟨?_, ?_, ?_, ?_⟩, fun i hi => ?_, PC_NF ht k8 k6, k7, k8⟩, NF_10, NF_11, NF_12, fun i hi => ?_, fun i hi => ?_⟩, ⟨rfl, fun x hx => ⟨funext fun j => NF_I x j (Or.inl hx.1), rfl, NF_A x ⟨hx.2.1, hx.2.2.1, hx.2.2.2⟩, rfl⟩, fun j _ => NF_I 82 j (Or.inl (fun q => (tOK_lt ht).1 q.symm))⟩, rfl⟩
  · rw [NF_I t 9 (Or.inr (by decide))]; exact k2
  · rw [NF_A (t + 1) (by omega)]; exact k3 i hi
  · rw [NF_A (t + 3) (by omega)]; exact (k4 i hi).1
  · rw [NF_A (t + 4) (by omega)]; exact (k4 i hi).2.1
  · rw [NF_A (t + 5) (by omega)]; exact (k4 i hi).2.2.1
  · rw [NF_A (t + 7) (by omega)]; exact (k4 i hi).2.2.2
  · rw [NF_A (t + 8) (by omega)]; exact k5 i hi
  · rw [NF_2]; exact ho i hi
  · rw [NF_6]; exact hk i hi
theorem CM.of_VM {u v : Mem} {K : gK8} {w : gW5} (hK : KM u K) (hv : VM u w v) : CM v K w ∧ Agr Sg Fg u v := by
  obtain ⟨o, k, g, rfl, ho, hk⟩ := hv
  obtain ⟨⟨k1, k2⟩, k3, k4, k5, k6, k7⟩ := hK
  refine ⟨⟨⟨⟨k1, ?_⟩, fun i hi => ?_, fun i hi => ?_, fun i hi => ?_, NM_HM k6, k7⟩, NM_I2, NM_I3, NM_I4, fun i hi => ?_, fun i hi => ?_⟩, rfl, fun x hx => ⟨funext fun j => NM_I x j (Or.inl hx.1), rfl, NM_A x ⟨hx.2.2.1, hx.2.1, hx.2.2.2⟩, rfl⟩, fun j hj => NM_I 82 j (Or.inr hj)⟩
  · rw [NM_I 82 0 (Or.inr (by decide))]; exact k2
  · rw [NM_A 89 (by decide)]; exact k3 i hi
  · rw [NM_A 83 (by decide), NM_A 84 (by decide), NM_A 85 (by decide), NM_I 82 1 (Or.inr (by decide))]; exact k4 i hi
  · rw [NM_A 87 (by decide)]; exact k5 i hi
  · rw [NM_88]; exact ho i hi
  · rw [NM_86]; exact hk i hi
theorem rideT {v : Mem} {t : Nat} {K : gK8} {w : gW5} (ht : tOK t) (h : CT v t K w) {n : Nat} (hn : n < 5000) :
    ∃ v', f_X6_ride t (nI n) v = some ((), v') ∧ CT v' t K (rideS K n w) ∧ Agr (St t) TT v v' ∧ gR v' = gR v := by
  obtain ⟨v', h1, h2⟩ := rideC ht h.1 h.vc hn
  exact ⟨v', h1, CT.of_VC ht h.1 h2⟩
theorem glowT {v : Mem} {t : Nat} {K : gK8} {w : gW5} {p x : Nat} (ht : tOK t) (h : CT v t K w) (hp : p < 6) (hx : x < 8) :
    ∃ v', f_X6_glow t (nI p) (nI x) v = some (glowS K w p x, v') ∧ CT v' t K w ∧ Agr (St t) TT v v' ∧ gR v' = gR v := by
  obtain ⟨v', h1, h2⟩ := glowC ht h.1 h.vc hp hx
  exact ⟨v', h1, CT.of_VC ht h.1 h2⟩
theorem favT {v : Mem} {t : Nat} {K : gK8} {w : gW5} {p : Nat} (ht : tOK t) (h : CT v t K w) (hp : p < 6) :
    ∃ v', f_X6_favourite t (nI p) v = some ((favS K w p 8).1, v') ∧ CT v' t K w ∧ Agr (St t) TT v v' ∧ gR v' = gR v := by
  obtain ⟨v', h1, h2⟩ := favC2 ht h.1 h.vc hp
  exact ⟨v', h1, CT.of_VC ht h.1 h2⟩
theorem ashT {v : Mem} {t : Nat} {K : gK8} {w : gW5} (ht : tOK t) (h : CT v t K w) :
    ∃ v', f_X6_ash t v = some (ashS K w (cN K), v') ∧ CT v' t K w ∧ Agr (St t) TT v v' ∧ gR v' = gR v := by
  obtain ⟨v', h1, h2⟩ := ashC ht h.1 h.vc
  exact ⟨v', h1, CT.of_VC ht h.1 h2⟩
theorem goMT {v : Mem} {K : gK8} {w : gW5} (h : CM v K w) {n : Nat} (hn : n < 5000) :
    ∃ v', f_X8_goMinutes (nI n) v = some ((), v') ∧ CM v' K (rideS K n w) ∧ Agr Sg Fg v v' := by
  obtain ⟨v', h1, h2⟩ := goM h.1 h.vm hn
  exact ⟨v', h1, CM.of_VM h.1 h2⟩
theorem goMinMT {v : Mem} {K : gK8} {w : gW5} (h : CM v K w) :
    ∃ v', f_X8_goMinute v = some ((), v') ∧ CM v' K (minS K w) ∧ Agr Sg Fg v v' := by
  obtain ⟨v', h1, h2⟩ := goMinM h.1 h.vm
  exact ⟨v', h1, CM.of_VM h.1 h2⟩
theorem glowMT {v : Mem} {K : gK8} {w : gW5} {p x : Nat} (h : CM v K w) (hp : p < 6) (hx : x < 8) :
    ∃ v', f_X8_glow (nI p) (nI x) v = some (glowS K w p x, v') ∧ CM v' K w ∧ Agr Sg Fg v v' := by
  obtain ⟨v', h1, h2⟩ := glowM h.1 h.vm hp hx
  exact ⟨v', h1, CM.of_VM h.1 h2⟩
theorem tellsMT {v : Mem} {K : gK8} {w : gW5} {p : Nat} (h : CM v K w) (hp : p < 6) :
    ∃ v', f_X8_tells (nI p) v = some ((favS K w p 8).1, v') ∧ CM v' K w ∧ Agr Sg Fg v v' := by
  obtain ⟨v', h1, h2⟩ := tellsM h.1 h.vm hp
  exact ⟨v', h1, CM.of_VM h.1 h2⟩
theorem ashMT {v : Mem} {K : gK8} {w : gW5} (h : CM v K w) :
    ∃ v', f_X8_ash v = some (ashS K w (cN K), v') ∧ CM v' K w ∧ Agr Sg Fg v v' := by
  obtain ⟨v', h1, h2⟩ := ashM h.1 h.vm
  exact ⟨v', h1, CM.of_VM h.1 h2⟩
/-! the frames -/
theorem l0_of {B k : Nat} (hB : B ≤ 6) (hk : k < B) : gokb (129 + 2 * B) (bid k) l0 = true := by
  have h : ∀ B, B ≤ 6 → ∀ k, k < 6 → k < B → gokb (129 + 2 * B) (bid k) l0 = true := by decide +kernel
  exact h B hB k (by omega) hk
theorem l0_11 {B : Nat} (hB : B ≤ 6) : gokb (129 + 2 * B) 11 l0 = true := by
  have h : ∀ B, B ≤ 6 → gokb (129 + 2 * B) 11 l0 = true := by decide +kernel
  exact h B hB
theorem HELDg.pc {u : Mem} {the : Int32} {b B : Nat} {pgs : Nat → gPg} {pg : gPg} (hp : PROG u B pgs) (h : HELDg the b B pgs pg) : PC u b pg ∧ pgOK pg ∧ gokb u.1 b l0 = true := by
  obtain ⟨h1, h2, h3, h4, h5, h6, h7, h8⟩ := hp
  rcases h with ⟨-, rfl, rfl⟩ | ⟨k, hk, -, rfl, rfl⟩
  · exact ⟨h6, (fun c hc => absurd hc (List.not_mem_nil)), by rw [h4]; exact l0_11 h1⟩
  · exact ⟨(h7 k hk).2.1, (h7 k hk).1, by rw [h4]; exact l0_of h1 hk⟩
theorem HELDg.hm {u : Mem} {b B : Nat} {pgs : Nat → gPg} {pg : gPg} (hp : PROG u B pgs) (h : HELDg (gI u 82 13) b B pgs pg) : HM u pg := by
  obtain ⟨h1, h2, h3, h4, h5, h6, h7, h8⟩ := hp
  rcases h with ⟨e, -, rfl⟩ | ⟨k, hk, e, -, rfl⟩
  · exact Or.inl ⟨e, rfl⟩
  · exact Or.inr ⟨k, by omega, e, (h7 k hk).2.2⟩
theorem InvA.ct {u : Mem} {K : gK8} {w : gW5} {B : Nat} {pgs : Nat → gPg} (h : InvA u K w B pgs) : CT u 1 K w := by
  obtain ⟨⟨⟨a1, a2, a3, a4⟩, a5, -⟩, h2, h3, -⟩ := h
  obtain ⟨p1, p2, p3⟩ := h3.pc h2
  exact ⟨⟨a1, a2, a3, a4, p1, p2, p3⟩, a5⟩
theorem InvA.cm {u : Mem} {K : gK8} {w : gW5} {B : Nat} {pgs : Nat → gPg} (h : InvA u K w B pgs) : CM u K w := by
  obtain ⟨⟨⟨a1, -⟩, -, ⟨b1, b2, b3, b4⟩, b5, -⟩, h2, h3, -⟩ := h
  exact ⟨⟨⟨a1.1, b1⟩, b2, b3, b4, h3.hm h2, (h3.pc h2).2.1⟩, b5⟩
theorem CM.len {v : Mem} {K : gK8} {w : gW5} (h : CM v K w) : (cP K).length ≤ 10 := by
  obtain ⟨-, -, -, -, hm, -⟩ := h.1
  rcases hm with ⟨-, e⟩ | ⟨f, -, -, -, h3, -⟩
  · rw [e]; exact Nat.zero_le _
  · exact h3
theorem InvA.bd {u : Mem} {K : gK8} {w : gW5} {B : Nat} {pgs : Nat → gPg} (h : InvA u K w B pgs) : kb K ∧ bW w 0 :=
  rng_kb h.1.2.2.2.2 h.cm.1.2.2.2.2.2 h.cm.len h.1.1.1.1
theorem HM.agr {S F : Nat → Prop} {u v : Mem} {pg : gPg} (hk : Agr S F u v) (hS : ∀ x, 91 ≤ x → x ≤ 96 → S x) (hF : F 13) (h : HM u pg) : HM v pg :=
  HM_of (hk.2.2 13 hF) (fun a h1 h2 => hk.A (hS a h1 h2)) h
theorem CM.agr {S F : Nat → Prop} {u v : Mem} {K : gK8} {w : gW5} (hk : Agr S F u v) (hS : ∀ x, (83 ≤ x ∧ x ≤ 96) → S x) (hF : ∀ k, k ≤ 13 → F k) (h : CM u K w) : CM v K w := by
  obtain ⟨⟨⟨k1, k2⟩, k3, k4, k5, k6, k7⟩, r⟩ := h
  refine ⟨⟨⟨k1, ?_⟩, ?_, ?_, ?_, k6.agr hk (fun x h1 h2 => hS x (by omega)) (hF 13 (by decide)), k7⟩, ?_⟩
  · rw [hk.2.2 0 (hF 0 (by decide))]; exact k2
  · rw [hk.A (hS 89 (by decide))]; exact k3
  · rw [hk.A (hS 83 (by decide)), hk.A (hS 84 (by decide)), hk.A (hS 85 (by decide)), hk.2.2 1 (hF 1 (by decide))]; exact k4
  · rw [hk.A (hS 87 (by decide))]; exact k5
  · rw [hk.2.2 2 (hF 2 (by decide)), hk.2.2 3 (hF 3 (by decide)), hk.2.2 4 (hF 4 (by decide)), hk.A (hS 88 (by decide)), hk.A (hS 86 (by decide))]; exact r
theorem CT.agr {S F : Nat → Prop} {u v : Mem} {t : Nat} {K : gK8} {w : gW5} (hk : Agr S F u v) (hS : ∀ x, (t ≤ x ∧ x ≤ t + 8) → S x) (hb : ∀ x, x = gR u t 13 ∨ x = gR u t 13 + 1 → S x) (h : CT u t K w) : CT v t K w := by
  obtain ⟨⟨⟨k1, k2⟩, k3, k4, k5, k6, k7, k8⟩, r1, r2, r3, r4, r5⟩ := h
  have hr : gR v t 13 = gR u t 13 := hk.R (hS t (by omega)) 13
  refine ⟨⟨⟨k1, ?_⟩, ?_, ?_, ?_, ?_, k7, ?_⟩, ?_, ?_, ?_, ?_, ?_⟩
  · rw [hk.I (hS t (by omega))]; exact k2
  · rw [hk.A (hS (t + 1) (by omega))]; exact k3
  · rw [hk.A (hS (t + 3) (by omega)), hk.A (hS (t + 4) (by omega)), hk.A (hS (t + 5) (by omega)), hk.A (hS (t + 7) (by omega))]; exact k4
  · rw [hk.A (hS (t + 8) (by omega))]; exact k5
  · rw [hr]; exact k6.of (hk.I (hb _ (Or.inl rfl)) 1) (hk.I (hb _ (Or.inl rfl)) 2) (hk.A (hb _ (Or.inr rfl)))
  · rw [hr, hk.1]; exact k8
  · rw [hk.I (hS t (by omega))]; exact r1
  · rw [hk.I (hS t (by omega))]; exact r2
  · rw [hk.I (hS t (by omega))]; exact r3
  · rw [hk.A (hS (t + 2) (by omega))]; exact r4
  · rw [hk.A (hS (t + 6) (by omega))]; exact r5
theorem held_13 {u : Mem} {t : Nat} {K : gK8} {w : gW5} (h : CT u t K w) : ∀ x, x = gR u t 13 ∨ x = gR u t 13 + 1 → S13 x := by
  have h13 := held_apart (t := 13) (Or.inr (Or.inl rfl)) h.1.2.2.2.2.2.2
  intro x hx
  have h2 := h13.2
  have q : gR u t 13 ≠ 13 ∧ ¬ (14 ≤ gR u t 13 + 1 ∧ gR u t 13 + 1 ≤ 22) := ⟨h13.1, fun q => h2 (gR u t 13 + 1 - 13) (by omega) (by omega) (by omega)⟩
  have q2 : ¬ (14 ≤ gR u t 13 ∧ gR u t 13 ≤ 22) := by
    intro q3
    have g := (gok_of h.1.2.2.2.2.2.2 0 (by decide)).2
    have hk : ∀ x, x < 23 → 14 ≤ x → kd x ≠ (0, 0) := by decide +kernel
    exact hk _ (by omega) q3.1 g
  rcases hx with rfl | rfl
  · exact ⟨q.1, q2⟩
  · refine ⟨fun z => ?_, q.2⟩
    have g := (gok_of h.1.2.2.2.2.2.2 1 (by decide)).2
    rw [z] at g
    exact absurd g (by decide +kernel)
theorem KC0.agr {S F : Nat → Prop} {u v : Mem} {t : Nat} {K : gK8} (hk : Agr S F u v) (hS : ∀ x, (t ≤ x ∧ x ≤ t + 8) → S x) (h : KC0 u t K) : KC0 v t K := by
  obtain ⟨⟨k1, k2⟩, k3, k4, k5⟩ := h
  refine ⟨⟨k1, ?_⟩, ?_, ?_, ?_⟩
  · rw [hk.I (hS t (by omega))]; exact k2
  · rw [hk.A (hS (t + 1) (by omega))]; exact k3
  · rw [hk.A (hS (t + 3) (by omega)), hk.A (hS (t + 4) (by omega)), hk.A (hS (t + 5) (by omega)), hk.A (hS (t + 7) (by omega))]; exact k4
  · rw [hk.A (hS (t + 8) (by omega))]; exact k5
theorem WC.agr {S F : Nat → Prop} {u v : Mem} {t : Nat} {w : gW5} (hk : Agr S F u v) (hS : ∀ x, (t ≤ x ∧ x ≤ t + 8) → S x) (h : WC u t w) : WC v t w := by
  obtain ⟨r1, r2, r3, r4, r5⟩ := h
  refine ⟨?_, ?_, ?_, ?_, ?_⟩
  · rw [hk.I (hS t (by omega))]; exact r1
  · rw [hk.I (hS t (by omega))]; exact r2
  · rw [hk.I (hS t (by omega))]; exact r3
  · rw [hk.A (hS (t + 2) (by omega))]; exact r4
  · rw [hk.A (hS (t + 6) (by omega))]; exact r5
theorem CT.kc0 {v : Mem} {t : Nat} {K : gK8} {w : gW5} (h : CT v t K w) : KC0 v t K := ⟨h.1.1, h.1.2.1, h.1.2.2.1, h.1.2.2.2.1⟩
def SX (x : Nat) : Prop := x ≠ 1 ∧ x ≠ 13 ∧ ¬ (2 ≤ x ∧ x ≤ 10) ∧ ¬ (14 ≤ x ∧ x ≤ 22) ∧ ¬ (82 ≤ x ∧ x ≤ 89) ∧ ¬ (99 ≤ x ∧ x ≤ 102)
theorem InvA.train {u v : Mem} {K K' : gK8} {w w' : gW5} {B : Nat} {pgs : Nat → gPg} (h : InvA u K w B pgs) (hk : Agr SX FM u v) (hR : gR v 1 13 = gR u 1 13) (hn : NOW v K' w') (hN : cN K' = cN K) (hP : cP K' = cP K) : InvA v K' w' B pgs := by
  obtain ⟨h1, h2, h3, h4, h5, h6, h7, h8⟩ := h
  refine ⟨hn, h2.agr hk (hk.I (by unfold SX; omega) 7) (fun x _ => by unfold SX; omega) (by unfold FM; omega) (hk.R (by unfold SX; omega) 3), ?_, h4.agr hk (by unfold SX; omega) (by unfold FM; omega), ?_, h6.agr hk (by unfold SX; omega) (by unfold FM; omega), h7.agr hk (fun x _ => by unfold SX; omega), h8.agr hk (hk.I (by unfold SX; omega) 5) (fun x _ => by unfold SX; omega) (fun k _ => by unfold FM; omega)⟩
  · rw [hk.2.2 13 (by unfold FM; omega), hR, hP]
    exact h3
  · rw [hN]
    exact h5.agr hk (fun x _ => by unfold SX; omega) (by unfold FM; omega)
theorem ask1 {u u1 u2 : Mem} {K : gK8} {w w' : gW5} {B : Nat} {pgs : Nat → gPg} (hA : InvA u K w B pgs) (h1 : Agr SC TT u u1) (hR : gR u1 1 13 = gR u 1 13) (hT1 : KC0 u1 1 K) (hT2 : WC u1 1 w') (h2 : Agr SM FM u1 u2) (hM : CM u2 K w') (hr : rng K w') : Inv u2 := by
  have h3 : Agr SX FM u u2 := (h1.mono (fun x hx => by unfold SX at hx; unfold SC; omega) (fun _ _ => trivial)).trans (h2.mono (fun x hx => by unfold SX at hx; unfold SM; omega) (fun _ h => h))
  refine ⟨K, w', B, pgs, hA.train h3 ((h2.R (by unfold SM; omega) 13).trans hR) ⟨hT1.agr h2 (fun x hx => by unfold SM; omega), hT2.agr h2 (fun x hx => by unfold SM; omega), ⟨hM.1.1.2, hM.1.2.1, hM.1.2.2.1, hM.1.2.2.2.1⟩, hM.2, hr⟩ rfl rfl⟩
theorem ask {α : Type} {u : Mem} {K : gK8} {w : gW5} {B : Nat} {pgs : Nat → gPg} {a : Option (α × Mem)} {b : Mem → Option (α × Mem)} (hA : InvA u K w B pgs) (h : ∀ x, Agr S13 TT u x → CM x K w → ∃ r u1 x2, a = some (r, u1) ∧ Agr S13 TT u u1 ∧ b x = some (r, x2) ∧ CM x2 K w ∧ Agr SM FM x x2) :
    ∃ r u1 u2, a = some (r, u1) ∧ b u1 = some (r, u2) ∧ Inv u2 := by
  obtain ⟨r, u1, x2, h1, h2, -⟩ := h u (Agr.rf _ _ _) hA.cm
  obtain ⟨r', u1', x2, q1, q2, q3, q4, q5⟩ := h u1 h2 (hA.cm.agr h2 (fun x hx => by unfold S13; omega) (fun _ _ => trivial))
  rw [h1] at q1
  cases q1
  exact ⟨r, u1, x2, h1, q3, ask1 hA (h2.mono (fun x hx => by unfold SC at hx; unfold S13; omega) (fun _ h => h)) (h2.R (by unfold S13; omega) 13) (hA.1.1.agr h2 (fun x hx => by unfold S13; omega)) (hA.1.2.1.agr h2 (fun x hx => by unfold S13; omega)) q5 q4 hA.1.2.2.2.2⟩
/-! a train becomes like another -/
theorem gI_sI_n {u : Mem} {t k : Nat} {x : Int32} {t' : Nat} (h : t' ≠ t) (k' : Nat) : gI (sI u t k x) t' k' = gI u t' k' := by rw [gI_sI, if_neg (fun q => h q.1)]
theorem gI_sI_k {u : Mem} {t k : Nat} {x : Int32} {k' : Nat} (h : k' ≠ k) (t' : Nat) : gI (sI u t k x) t' k' = gI u t' k' := by rw [gI_sI, if_neg (fun q => h q.2)]
theorem sCA_s {y : Mem} {a b n i : Nat} (h : i < n) : gA (sCA y a 0 b 0 n) b i = gA y a i := by
  unfold sCA
  rw [gA_sAr_s]
  show (if 0 ≤ i ∧ i < 0 + n then gA y a (0 + (i - 0)) else gA y b i) = _
  rw [if_pos ⟨Nat.zero_le _, by omega⟩]
  congr 1
  omega
theorem sCA_n {y : Mem} {a b n x : Nat} (h : x ≠ b) : gA (sCA y a 0 b 0 n) x = gA y x := gA_sAr_n h
def Sb (t x : Nat) : Prop := x ≠ t ∧ ¬ (t + 1 ≤ x ∧ x ≤ t + 8)
theorem nar_b (b : Bool) : vp_nar .boolean (bI b) = bI b := by cases b <;> decide
theorem becomeT {v : Mem} {t p : Nat} {K : gK8} {w : gW5} (ht : tOK t) (hp : tOK p) (htp : t ≠ p) (hO : ∀ i, i < 6 → ∃ b, cO K i = bI b) (h : CT v p K w) :
    ∃ v', f_X6_becomeLike t p v = some ((), v') ∧ CT v' t K w ∧ Agr (Sb t) TT v v' ∧ gR v' t 13 = gR v p 13 := by
  obtain ⟨⟨⟨k1, k2⟩, k3, k4, k5, k6, k7, k8⟩, r1, r2, r3, r4, r5⟩ := h
  have hd : t + 12 ≤ p ∨ p + 12 ≤ t := by
    rcases ht with rfl | rfl | rfl <;> rcases hp with rfl | rfl | rfl <;> first | (exact absurd rfl htp) | omega
  have ht82 := tOK_lt ht
  have hpt : p ≠ t := fun q => htp q.symm
  obtain ⟨hb1, hb2⟩ := held_apart ht k8
  unfold f_X6_becomeLike
  have hg : ∀ (n : Nat) (hn : n ≤ 100) (k : Option (Unit × Mem)), gcp (0 : Int32) (0 : Int32) (nI n) n n k = k := by
    intro n hn k
    unfold gcp
    rw [nI_clamp (by omega)]
    exact if_pos ⟨⟨by decide, by decide, by (simp (disch := omega) only [le_I, lt_I, eq_I, nI_toInt, Int32.reduceToInt, ne_eq] <;> omega)⟩, by show 0 + n ≤ n; omega, by show 0 + n ≤ n; omega⟩
  rw [show (8 : Int32) = nI 8 from rfl, show (6 : Int32) = nI 6 from rfl, show (24 : Int32) = nI 24 from rfl, hg 8 (by decide), hg 8 (by decide), hg 6 (by decide), hg 6 (by decide), hg 6 (by decide), hg 6 (by decide), hg 24 (by decide), show (0 : Int32).toNatClampNeg = 0 from rfl, nI_clamp (by decide), nI_clamp (by decide), nI_clamp (by decide)]
  obtain ⟨X, hX⟩ : ∃ X, X = sCA (sCA (sCA (sCA (sCA (sCA (sCA v (p + 1) 0 (t + 1) 0 8) (p + 2) 0 (t + 2) 0 8) (p + 3) 0 (t + 3) 0 6) (p + 4) 0 (t + 4) 0 6) (p + 5) 0 (t + 5) 0 6) (p + 6) 0 (t + 6) 0 6) (p + 8) 0 (t + 8) 0 24 := ⟨_, rfl⟩
  rw [← hX]
  have x1 : ∀ i, i < 8 → gA X (t + 1) i = cH K i := fun i hi => by
    rw [hX, sCA_n (by omega), sCA_n (by omega), sCA_n (by omega), sCA_n (by omega), sCA_n (by omega), sCA_n (by omega), sCA_s hi]; exact k3 i hi
  have x2 : ∀ i, i < 8 → gA X (t + 2) i = wO w i := fun i hi => by
    rw [hX, sCA_n (by omega), sCA_n (by omega), sCA_n (by omega), sCA_n (by omega), sCA_n (by omega), sCA_s hi, sCA_n (by omega)]; exact r4 i hi
  have x3 : ∀ i, i < 6 → gA X (t + 3) i = cK K i := fun i hi => by
    rw [hX, sCA_n (by omega), sCA_n (by omega), sCA_n (by omega), sCA_n (by omega), sCA_s hi, sCA_n (by omega), sCA_n (by omega)]; exact (k4 i hi).1
  have x4 : ∀ i, i < 6 → gA X (t + 4) i = cV K i := fun i hi => by
    rw [hX, sCA_n (by omega), sCA_n (by omega), sCA_n (by omega), sCA_s hi, sCA_n (by omega), sCA_n (by omega), sCA_n (by omega)]; exact (k4 i hi).2.1
  have x5 : ∀ i, i < 6 → gA X (t + 5) i = cC K i := fun i hi => by
    rw [hX, sCA_n (by omega), sCA_n (by omega), sCA_s hi, sCA_n (by omega), sCA_n (by omega), sCA_n (by omega), sCA_n (by omega)]; exact (k4 i hi).2.2.1
  have x6 : ∀ i, i < 6 → gA X (t + 6) i = wK w i := fun i hi => by
    rw [hX, sCA_n (by omega), sCA_s hi, sCA_n (by omega), sCA_n (by omega), sCA_n (by omega), sCA_n (by omega), sCA_n (by omega)]; exact r5 i hi
  have x8 : ∀ i, i < 24 → gA X (t + 8) i = cR K i := fun i hi => by
    rw [hX, sCA_s hi, sCA_n (by omega), sCA_n (by omega), sCA_n (by omega), sCA_n (by omega), sCA_n (by omega), sCA_n (by omega)]; exact k5 i hi
  have xA : ∀ a, ¬ (t + 1 ≤ a ∧ a ≤ t + 8) → gA X a = gA v a := fun a ha => by
    rw [hX, sCA_n (by omega), sCA_n (by omega), sCA_n (by omega), sCA_n (by omega), sCA_n (by omega), sCA_n (by omega), sCA_n (by omega)]
  have xI : gI X = gI v := by rw [hX]; rfl
  have xR : gR X = gR v := by rw [hX]; rfl
  have xL : gL X = gL v := by rw [hX]; rfl
  have xn : X.1 = v.1 := by rw [hX]; rfl
  clear hX
  have h := while_F (body := fun s : Int32 × Mem => f_X6_becomeLike_L107 t p s.1 s.2) 6 (fun i s => ∃ f, s = (nI i, sAr X (t + 7) f) ∧ ∀ j, j < i → f j = cO K j) (fun r => ∃ v', r = ((), v') ∧ CT v' t K w ∧ Agr (Sb t) TT v v' ∧ gR v' t 13 = gR v p 13) (s := ((0 : Int32), X)) (by decide) ⟨gA X (t + 7), by rw [sAr_self]; rfl, fun j hj => absurd hj (Nat.not_lt_zero j)⟩ ?_ ?_
  · obtain ⟨r, h1, v', rfl, h2⟩ := h
    exact ⟨v', h1, h2⟩
  · rintro i s hi ⟨f, rfl, hf⟩
    refine Or.inl ?_
    show ∃ s', f_X6_becomeLike_L107 t p (nI i) (sAr X (t + 7) f) = some (Sum.inl s') ∧ _
    unfold f_X6_becomeLike_L107
    obtain ⟨b, hbv⟩ := hO i hi
    rw [if_neg (by (simp (disch := omega) only [le_I, lt_I, eq_I, nI_toInt, Int32.reduceToInt, ne_eq] <;> omega)), gin_nI hi (by decide), gin_nI hi (by decide), nI_clamp (by omega), gA_sAr_n (by omega), xA (p + 7) (by omega), (k4 i hi).2.2.2, hbv, nar_b, sA_sAr, nI_1]
    refine ⟨_, rfl, _, rfl, fun j hj => ?_⟩
    rw [upd_eq]
    by_cases q : j = i
    · rw [if_pos q, q, hbv]
    · rw [if_neg q]; exact hf j (by omega)
  · rintro s ⟨f, rfl, hf⟩
    refine ⟨_, ?_, sR (sI (sI (sI (sI (sAr X (t + 7) f) t 9 (gI v p 9)) t 10 (gI v p 10)) t 11 (gI v p 11)) t 12 (gI v p 12)) t 13 (gR v p 13), rfl, ?_, ?_, ?_⟩
    · show f_X6_becomeLike_L107 t p (nI 6) (sAr X (t + 7) f) = _
      unfold f_X6_becomeLike_L107
      rw [if_pos (by (simp (disch := omega) only [le_I, lt_I, eq_I, nI_toInt, Int32.reduceToInt, ne_eq] <;> omega))]
      simp only [gI_sI_n hpt, gR_sI, gI_sAr, gR_sAr, xI, xR]
    · have hA : gA (sR (sI (sI (sI (sI (sAr X (t + 7) f) t 9 (gI v p 9)) t 10 (gI v p 10)) t 11 (gI v p 11)) t 12 (gI v p 12)) t 13 (gR v p 13)) = gA (sAr X (t + 7) f) := rfl
      have hI : ∀ k, gI (sR (sI (sI (sI (sI (sAr X (t + 7) f) t 9 (gI v p 9)) t 10 (gI v p 10)) t 11 (gI v p 11)) t 12 (gI v p 12)) t 13 (gR v p 13)) t k = if k = 12 then gI v p 12 else if k = 11 then gI v p 11 else if k = 10 then gI v p 10 else if k = 9 then gI v p 9 else gI v t k := by
        intro k
        rw [gI_sR, gI_sI, gI_sI, gI_sI, gI_sI, gI_sAr, xI]
        simp only [true_and]
      have hIb : ∀ k, gI (sR (sI (sI (sI (sI (sAr X (t + 7) f) t 9 (gI v p 9)) t 10 (gI v p 10)) t 11 (gI v p 11)) t 12 (gI v p 12)) t 13 (gR v p 13)) (gR v p 13) k = gI v (gR v p 13) k := by
        intro k
        rw [gI_sR, gI_sI_n hb1, gI_sI_n hb1, gI_sI_n hb1, gI_sI_n hb1, gI_sAr, xI]
      have hR : gR (sR (sI (sI (sI (sI (sAr X (t + 7) f) t 9 (gI v p 9)) t 10 (gI v p 10)) t 11 (gI v p 11)) t 12 (gI v p 12)) t 13 (gR v p 13)) t 13 = gR v p 13 := by rw [gR_sR, if_pos ⟨rfl, rfl⟩]
      have hn : (sR (sI (sI (sI (sI (sAr X (t + 7) f) t 9 (gI v p 9)) t 10 (gI v p 10)) t 11 (gI v p 11)) t 12 (gI v p 12)) t 13 (gR v p 13)).1 = v.1 := xn
      generalize sR (sI (sI (sI (sI (sAr X (t + 7) f) t 9 (gI v p 9)) t 10 (gI v p 10)) t 11 (gI v p 11)) t 12 (gI v p 12)) t 13 (gR v p 13) = W at hA hI hIb hR hn
      have hbb : gA W (gR v p 13 + 1) = gA v (gR v p 13 + 1) := by
        have q := fun j h1 h2 => hb2 j h1 h2
        rw [hA, gA_sAr_n (q 7 (by decide) (by decide)), xA _ (fun z => q (gR v p 13 + 1 - t) (by omega) (by omega) (by omega))]
      refine ⟨⟨⟨k1, ?_⟩, fun i hi => ?_, fun i hi => ⟨?_, ?_, ?_, ?_⟩, fun i hi => ?_, ?_, k7, ?_⟩, ?_, ?_, ?_, fun i hi => ?_, fun i hi => ?_⟩
      · rw [hI]; exact k2
      · rw [hA, gA_sAr_n (by omega)]; exact x1 i hi
      · rw [hA, gA_sAr_n (by omega)]; exact x3 i hi
      · rw [hA, gA_sAr_n (by omega)]; exact x4 i hi
      · rw [hA, gA_sAr_n (by omega)]; exact x5 i hi
      · rw [hA, gA_sAr_s]; exact hf i hi
      · rw [hA, gA_sAr_n (by omega)]; exact x8 i hi
      · rw [hR]; exact k6.of (hIb 1) (hIb 2) hbb
      · rw [hR, hn]; exact k8
      · rw [hI]; exact r1
      · rw [hI]; exact r2
      · rw [hI]; exact r3
      · rw [hA, gA_sAr_n (by omega)]; exact x2 i hi
      · rw [hA, gA_sAr_n (by omega)]; exact x6 i hi
    · refine ⟨xn, fun x hx => ⟨?_, ?_, ?_, ?_⟩, fun k _ => ?_⟩
      · funext k
        rw [gI_sR, gI_sI_n hx.1, gI_sI_n hx.1, gI_sI_n hx.1, gI_sI_n hx.1, gI_sAr, xI]
      · funext k
        rw [gR_sR, if_neg (fun q => hx.1 q.1)]
        show gR X x k = _
        rw [xR]
      · show gA (sAr X (t + 7) f) x = _
        rw [gA_sAr_n (by unfold Sb at hx; omega), xA x hx.2]
      · show gL X x = _
        rw [xL]
      · have hx : 82 ≠ t := fun q => ht82.1 q.symm
        rw [gI_sR, gI_sI_n hx, gI_sI_n hx, gI_sI_n hx, gI_sI_n hx, gI_sAr, xI]
    · rw [gR_sR, if_pos ⟨rfl, rfl⟩]
/-! save, putBack -/
def SV (v : Mem) (K : gK8) (w : gW5) : Prop := (∀ i, i < 6 → bI (bit (gI v 82 30) i) = cO K i) ∧ gI v 82 31 = wS w ∧ gI v 82 32 = wP w ∧ gI v 82 33 = wM w ∧ (∀ i, i < 6 → gA v 100 i = cC K i ∧ gA v 101 i = wK w i) ∧ ∀ i, i < 8 → gA v 102 i = wO w i
theorem SV.agr {S F : Nat → Prop} {u v : Mem} {K : gK8} {w : gW5} (hk : Agr S F u v) (hS : S 100 ∧ S 101 ∧ S 102) (hF : F 30 ∧ F 31 ∧ F 32 ∧ F 33) (h : SV u K w) : SV v K w := by
  unfold SV at h ⊢
  rw [hk.2.2 30 hF.1, hk.2.2 31 hF.2.1, hk.2.2 32 hF.2.2.1, hk.2.2 33 hF.2.2.2, hk.A hS.1, hk.A hS.2.1, hk.A hS.2.2]
  exact h
def Ss (x : Nat) : Prop := x ≠ 82 ∧ ¬ (100 ≤ x ∧ x ≤ 102)
def Fs (k : Nat) : Prop := ¬ (30 ≤ k ∧ k ≤ 33)
theorem saveM {v : Mem} {K : gK8} {w : gW5} (h : CM v K w) : ∃ v', f_X8_save v = some ((), v') ∧ CM v' K w ∧ SV v' K w ∧ Agr Ss Fs v v' := by
  have h0 := h
  obtain ⟨⟨⟨k1, k2⟩, k3, k4, k5, k6, k7⟩, r1, r2, r3, r4, r5⟩ := h
  unfold f_X8_save
  simp only [gI_sI_k (show 2 ≠ 30 by decide), gI_sI_k (show 3 ≠ 31 by decide), gI_sI_k (show 3 ≠ 30 by decide), gI_sI_k (show 4 ≠ 32 by decide), gI_sI_k (show 4 ≠ 31 by decide), gI_sI_k (show 4 ≠ 30 by decide)]
  obtain ⟨y, hy⟩ : ∃ y, y = sI (sI (sI (sI v 82 30 (gI v 82 1)) 82 31 (gI v 82 2)) 82 32 (gI v 82 3)) 82 33 (gI v 82 4) := ⟨_, rfl⟩
  rw [← hy]
  have hg : Agr Ss Fs v y := by
    rw [hy]
    exact ((((Agr.rf _ _ _).si (by unfold Ss; omega) (Or.inr (by unfold Fs; omega))).si (by unfold Ss; omega) (Or.inr (by unfold Fs; omega))).si (by unfold Ss; omega) (Or.inr (by unfold Fs; omega))).si (by unfold Ss; omega) (Or.inr (by unfold Fs; omega))
  have y30 : gI y 82 30 = gI v 82 1 := by rw [hy, gI_sI_k (by decide), gI_sI_k (by decide), gI_sI_k (by decide), gI_sI_s]
  have y31 : gI y 82 31 = gI v 82 2 := by rw [hy, gI_sI_k (by decide), gI_sI_k (by decide), gI_sI_s]
  have y32 : gI y 82 32 = gI v 82 3 := by rw [hy, gI_sI_k (by decide), gI_sI_s]
  have y33 : gI y 82 33 = gI v 82 4 := by rw [hy, gI_sI_s]
  have y85 : gA y 85 = gA v 85 := hg.A (by unfold Ss; omega)
  have y86 : gA y 86 = gA v 86 := hg.A (by unfold Ss; omega)
  have y88 : gA y 88 = gA v 88 := hg.A (by unfold Ss; omega)
  clear hy
  have h := while_F (body := fun s : Int32 × Mem => f_X8_save_L34 s.1 s.2) 6 (fun i s => ∃ f g, s = (nI i, sAr (sAr y 100 f) 101 g) ∧ ∀ j, j < i → f j = gA v 85 j ∧ g j = gA v 86 j) (fun r => ∃ f g o, r = ((), sAr (sAr (sAr y 100 f) 101 g) 102 o) ∧ (∀ j, j < 6 → f j = gA v 85 j ∧ g j = gA v 86 j) ∧ ∀ j, j < 8 → o j = gA v 88 j) (s := ((0 : Int32), y)) (by decide) ⟨gA y 100, gA y 101, by
    have e : gA y 101 = gA (sAr y 100 (gA y 100)) 101 := (gA_sAr_n (by decide)).symm
    rw [e, sAr_self, sAr_self]; rfl, fun j hj => absurd hj (Nat.not_lt_zero j)⟩ ?_ ?_
  · obtain ⟨r, h1, f, g, o, rfl, hf, ho⟩ := h
    have hg2 : Agr Ss Fs v (sAr (sAr (sAr y 100 f) 101 g) 102 o) := ((hg.sar (by unfold Ss; omega)).sar (by unfold Ss; omega)).sar (by unfold Ss; omega)
    refine ⟨_, h1, h0.agr hg2 (fun x hx => by unfold Ss; omega) (fun k hk => by unfold Fs; omega), ⟨fun i hi => ?_, y31.trans r1, y32.trans r2, y33.trans r3, fun i hi => ⟨?_, ?_⟩, fun i hi => ?_⟩, hg2⟩
    · show bI (bit (gI y 82 30) i) = _
      rw [y30]; exact (k4 i hi).2.2.2
    · rw [gA_sAr_n (by decide), gA_sAr_n (by decide), gA_sAr_s, (hf i hi).1]; exact (k4 i hi).2.2.1
    · rw [gA_sAr_n (by decide), gA_sAr_s, (hf i hi).2]; exact r5 i hi
    · rw [gA_sAr_s, ho i hi]; exact r4 i hi
  · rintro i s hi ⟨f, g, rfl, hf⟩
    refine Or.inl ?_
    show ∃ s', f_X8_save_L34 (nI i) (sAr (sAr y 100 f) 101 g) = some (Sum.inl s') ∧ _
    unfold f_X8_save_L34
    simp only [gin_nI hi (show 6 ≤ 2147483648 by decide), nI_clamp (show i < 2 ^ 31 by omega)]
    rw [if_neg (by (simp (disch := omega) only [le_I, lt_I, eq_I, nI_toInt, Int32.reduceToInt, ne_eq] <;> omega)), gA_sAr_n (show 85 ≠ 101 by decide), gA_sAr_n (show 85 ≠ 100 by decide), y85, gA_sA_n (show 86 ≠ 100 by decide), gA_sAr_n (show 86 ≠ 101 by decide), gA_sAr_n (show 86 ≠ 100 by decide), y86, sA_swap _ _ _ (show 101 ≠ 100 by decide), sA_sAr, sA_sAr, nI_1]
    refine ⟨_, rfl, _, _, rfl, fun j hj => ?_⟩
    rw [upd_eq, upd_eq]
    by_cases q : j = i
    · rw [if_pos q, if_pos q, q]; exact ⟨rfl, rfl⟩
    · rw [if_neg q, if_neg q]; exact hf j (by omega)
  · rintro s ⟨f, g, rfl, hf⟩
    have z88 : gA (sAr (sAr y 100 f) 101 g) 88 = gA v 88 := by rw [gA_sAr_n (by decide), gA_sAr_n (by decide), y88]
    generalize hz : sAr (sAr y 100 f) 101 g = z at z88
    have h := while_F (body := fun s : Int32 × Mem => f_X8_save_L72 s.1 s.2) 8 (fun i s => ∃ o, s = (nI i, sAr z 102 o) ∧ ∀ j, j < i → o j = gA v 88 j) (fun r => ∃ o, r = Sum.inr ((), sAr z 102 o) ∧ ∀ j, j < 8 → o j = gA v 88 j) (s := ((0 : Int32), z)) (by decide) ⟨gA z 102, by rw [sAr_self]; rfl, fun j hj => absurd hj (Nat.not_lt_zero j)⟩ ?_ ?_
    · obtain ⟨r, h1, o, rfl, ho⟩ := h
      refine ⟨_, ?_, f, g, o, by rw [hz], hf, ho⟩
      show f_X8_save_L34 (nI 6) z = _
      unfold f_X8_save_L34
      rw [if_pos (by (simp (disch := omega) only [le_I, lt_I, eq_I, nI_toInt, Int32.reduceToInt, ne_eq] <;> omega))]
      exact h1
    · rintro i s hi ⟨o, rfl, ho⟩
      refine Or.inl ?_
      show ∃ s', f_X8_save_L72 (nI i) (sAr z 102 o) = some (Sum.inl s') ∧ _
      unfold f_X8_save_L72
      rw [if_neg (by (simp (disch := omega) only [le_I, lt_I, eq_I, nI_toInt, Int32.reduceToInt, ne_eq] <;> omega)), gin_nI hi (by decide), gin_nI hi (by decide), nI_clamp (by omega), gA_sAr_n (by decide), z88, sA_sAr, nI_1]
      refine ⟨_, rfl, _, rfl, fun j hj => ?_⟩
      rw [upd_eq]
      by_cases q : j = i
      · rw [if_pos q, q]
      · rw [if_neg q]; exact ho j (by omega)
    · rintro s ⟨o, rfl, ho⟩
      refine ⟨_, ?_, o, rfl, ho⟩
      show f_X8_save_L72 (nI 8) (sAr z 102 o) = _
      unfold f_X8_save_L72
      rw [if_pos (by (simp (disch := omega) only [le_I, lt_I, eq_I, nI_toInt, Int32.reduceToInt, ne_eq] <;> omega))]
def sameK (K K' : gK8) : Prop := cN K' = cN K ∧ (∀ i, i < 8 → cH K' i = cH K i) ∧ (∀ i, i < 6 → cK K' i = cK K i ∧ cV K' i = cV K i) ∧ (∀ i, i < 24 → cR K' i = cR K i) ∧ cP K' = cP K
theorem sameK.rf (K : gK8) : sameK K K := ⟨rfl, fun _ _ => rfl, fun _ _ => ⟨rfl, rfl⟩, fun _ _ => rfl, rfl⟩
def Sp (x : Nat) : Prop := x ≠ 82 ∧ x ≠ 85 ∧ x ≠ 86 ∧ x ≠ 88
def Fp (k : Nat) : Prop := k = 0 ∨ 5 ≤ k
theorem putM {v : Mem} {K K' : gK8} {w w' : gW5} (h : CM v K' w') (hs : SV v K w) (hK : sameK K K') : ∃ v', f_X8_putBack v = some ((), v') ∧ CM v' K w ∧ SV v' K w ∧ Agr Sp Fp v v' := by
  have hs0 := hs
  obtain ⟨⟨⟨k1, k2⟩, k3, k4, k5, k6, k7⟩, -⟩ := h
  obtain ⟨s1, s2, s3, s4, s5, s6⟩ := hs
  obtain ⟨q1, q2, q3, q4, q5⟩ := hK
  unfold f_X8_putBack
  simp only [gI_sI_k (show 31 ≠ 1 by decide), gI_sI_k (show 32 ≠ 2 by decide), gI_sI_k (show 32 ≠ 1 by decide), gI_sI_k (show 33 ≠ 3 by decide), gI_sI_k (show 33 ≠ 2 by decide), gI_sI_k (show 33 ≠ 1 by decide)]
  obtain ⟨y, hy⟩ : ∃ y, y = sI (sI (sI (sI v 82 1 (gI v 82 30)) 82 2 (gI v 82 31)) 82 3 (gI v 82 32)) 82 4 (gI v 82 33) := ⟨_, rfl⟩
  rw [← hy]
  have hg : Agr Sp Fp v y := by
    rw [hy]
    exact ((((Agr.rf _ _ _).si (by unfold Sp; omega) (Or.inr (by unfold Fp; omega))).si (by unfold Sp; omega) (Or.inr (by unfold Fp; omega))).si (by unfold Sp; omega) (Or.inr (by unfold Fp; omega))).si (by unfold Sp; omega) (Or.inr (by unfold Fp; omega))
  have y1 : gI y 82 1 = gI v 82 30 := by rw [hy, gI_sI_k (by decide), gI_sI_k (by decide), gI_sI_k (by decide), gI_sI_s]
  have y2 : gI y 82 2 = gI v 82 31 := by rw [hy, gI_sI_k (by decide), gI_sI_k (by decide), gI_sI_s]
  have y3 : gI y 82 3 = gI v 82 32 := by rw [hy, gI_sI_k (by decide), gI_sI_s]
  have y4 : gI y 82 4 = gI v 82 33 := by rw [hy, gI_sI_s]
  have y100 : gA y 100 = gA v 100 := hg.A (by unfold Sp; omega)
  have y101 : gA y 101 = gA v 101 := hg.A (by unfold Sp; omega)
  have y102 : gA y 102 = gA v 102 := hg.A (by unfold Sp; omega)
  clear hy
  have h := while_F (body := fun s : Int32 × Mem => f_X8_putBack_L34 s.1 s.2) 6 (fun i s => ∃ f g, s = (nI i, sAr (sAr y 85 f) 86 g) ∧ ∀ j, j < i → f j = cC K j ∧ g j = wK w j) (fun r => ∃ f g o, r = ((), sAr (sAr (sAr y 85 f) 86 g) 88 o) ∧ (∀ j, j < 6 → f j = cC K j ∧ g j = wK w j) ∧ ∀ j, j < 8 → o j = wO w j) (s := ((0 : Int32), y)) (by decide) ⟨gA y 85, gA y 86, by
    have e : gA y 86 = gA (sAr y 85 (gA y 85)) 86 := (gA_sAr_n (by decide)).symm
    rw [e, sAr_self, sAr_self]; rfl, fun j hj => absurd hj (Nat.not_lt_zero j)⟩ ?_ ?_
  · obtain ⟨r, h1, f, g, o, rfl, hf, ho⟩ := h
    have hg2 : Agr Sp Fp v (sAr (sAr (sAr y 85 f) 86 g) 88 o) := ((hg.sar (by unfold Sp; omega)).sar (by unfold Sp; omega)).sar (by unfold Sp; omega)
    refine ⟨_, h1, ⟨⟨⟨q1 ▸ k1, ?_⟩, fun i hi => ?_, fun i hi => ⟨?_, ?_, ?_, ?_⟩, fun i hi => ?_, ?_, q5 ▸ k7⟩, y2.trans s2, y3.trans s3, y4.trans s4, fun i hi => ?_, fun i hi => ?_⟩, hs0.agr hg2 (by unfold Sp; omega) (by unfold Fp; omega), hg2⟩
    · rw [hg2.2.2 0 (by unfold Fp; omega), k2, q1]
    · rw [hg2.A (by unfold Sp; omega), k3 i hi, q2 i hi]
    · rw [hg2.A (by unfold Sp; omega), (k4 i hi).1, (q3 i hi).1]
    · rw [hg2.A (by unfold Sp; omega), (k4 i hi).2.1, (q3 i hi).2]
    · rw [gA_sAr_n (by decide), gA_sAr_n (by decide), gA_sAr_s]; exact (hf i hi).1
    · show bI (bit (gI y 82 1) i) = _
      rw [y1]; exact s1 i hi
    · rw [hg2.A (by unfold Sp; omega), k5 i hi, q4 i hi]
    · rw [← q5]; exact k6.agr hg2 (fun x h1 h2 => by unfold Sp; omega) (by unfold Fp; omega)
    · rw [gA_sAr_s]; exact ho i hi
    · rw [gA_sAr_n (by decide), gA_sAr_s]; exact (hf i hi).2
  · rintro i s hi ⟨f, g, rfl, hf⟩
    refine Or.inl ?_
    show ∃ s', f_X8_putBack_L34 (nI i) (sAr (sAr y 85 f) 86 g) = some (Sum.inl s') ∧ _
    unfold f_X8_putBack_L34
    simp only [gin_nI hi (show 6 ≤ 2147483648 by decide), nI_clamp (show i < 2 ^ 31 by omega)]
    rw [if_neg (by (simp (disch := omega) only [le_I, lt_I, eq_I, nI_toInt, Int32.reduceToInt, ne_eq] <;> omega)), gA_sAr_n (show 100 ≠ 86 by decide), gA_sAr_n (show 100 ≠ 85 by decide), y100, gA_sA_n (show 101 ≠ 85 by decide), gA_sAr_n (show 101 ≠ 86 by decide), gA_sAr_n (show 101 ≠ 85 by decide), y101, sA_swap _ _ _ (show 86 ≠ 85 by decide), sA_sAr, sA_sAr, nI_1]
    refine ⟨_, rfl, _, _, rfl, fun j hj => ?_⟩
    rw [upd_eq, upd_eq]
    by_cases q : j = i
    · rw [if_pos q, if_pos q, q]; exact s5 i hi
    · rw [if_neg q, if_neg q]; exact hf j (by omega)
  · rintro s ⟨f, g, rfl, hf⟩
    have z102 : gA (sAr (sAr y 85 f) 86 g) 102 = gA v 102 := by rw [gA_sAr_n (by decide), gA_sAr_n (by decide), y102]
    generalize hz : sAr (sAr y 85 f) 86 g = z at z102
    have h := while_F (body := fun s : Int32 × Mem => f_X8_putBack_L72 s.1 s.2) 8 (fun i s => ∃ o, s = (nI i, sAr z 88 o) ∧ ∀ j, j < i → o j = wO w j) (fun r => ∃ o, r = Sum.inr ((), sAr z 88 o) ∧ ∀ j, j < 8 → o j = wO w j) (s := ((0 : Int32), z)) (by decide) ⟨gA z 88, by rw [sAr_self]; rfl, fun j hj => absurd hj (Nat.not_lt_zero j)⟩ ?_ ?_
    · obtain ⟨r, h1, o, rfl, ho⟩ := h
      refine ⟨_, ?_, f, g, o, by rw [hz], hf, ho⟩
      show f_X8_putBack_L34 (nI 6) z = _
      unfold f_X8_putBack_L34
      rw [if_pos (by (simp (disch := omega) only [le_I, lt_I, eq_I, nI_toInt, Int32.reduceToInt, ne_eq] <;> omega))]
      exact h1
    · rintro i s hi ⟨o, rfl, ho⟩
      refine Or.inl ?_
      show ∃ s', f_X8_putBack_L72 (nI i) (sAr z 88 o) = some (Sum.inl s') ∧ _
      unfold f_X8_putBack_L72
      rw [if_neg (by (simp (disch := omega) only [le_I, lt_I, eq_I, nI_toInt, Int32.reduceToInt, ne_eq] <;> omega)), gin_nI hi (by decide), gin_nI hi (by decide), nI_clamp (by omega), gA_sAr_n (by decide), z102, sA_sAr, nI_1]
      refine ⟨_, rfl, _, rfl, fun j hj => ?_⟩
      rw [upd_eq]
      by_cases q : j = i
      · rw [if_pos q, q]; exact s6 i hi
      · rw [if_neg q]; exact ho j (by omega)
    · rintro s ⟨o, rfl, ho⟩
      refine ⟨_, ?_, o, rfl, ho⟩
      show f_X8_putBack_L72 (nI 8) (sAr z 88 o) = _
      unfold f_X8_putBack_L72
      rw [if_pos (by (simp (disch := omega) only [le_I, lt_I, eq_I, nI_toInt, Int32.reduceToInt, ne_eq] <;> omega))]
