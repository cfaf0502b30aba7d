/-! WHAT A METHOD LEAVES ALONE: the places in S, of the reference's object the fields in F -/
def Agr (S F : Nat → Prop) (u v : Mem) : Prop := v.1 = u.1 ∧ (∀ x, S x → gI v x = gI u x ∧ gR v x = gR u x ∧ gA v x = gA u x ∧ gL v x = gL u x) ∧ ∀ k, F k → gI v 82 k = gI u 82 k
theorem Agr.rf (S F : Nat → Prop) (u : Mem) : Agr S F u u := ⟨rfl, fun _ _ => ⟨rfl, rfl, rfl, rfl⟩, fun _ _ => rfl⟩
theorem Agr.trans {S F : Nat → Prop} {u v x : Mem} (h : Agr S F u v) (h2 : Agr S F v x) : Agr S F u x :=
  ⟨h2.1.trans h.1, fun y hy => ⟨(h2.2.1 y hy).1.trans (h.2.1 y hy).1, (h2.2.1 y hy).2.1.trans (h.2.1 y hy).2.1, (h2.2.1 y hy).2.2.1.trans (h.2.1 y hy).2.2.1, (h2.2.1 y hy).2.2.2.trans (h.2.1 y hy).2.2.2⟩, fun k hk => (h2.2.2 k hk).trans (h.2.2 k hk)⟩
theorem Agr.si {S F : Nat → Prop} {u v : Mem} (h : Agr S F u v) {t k : Nat} {x : Int32} (h1 : ¬ S t) (h2 : t ≠ 82 ∨ ¬ F k) : Agr S F u (sI v t k x) := by
  refine h.trans ⟨rfl, fun y hy => ⟨?_, rfl, rfl, rfl⟩, fun j hj => ?_⟩
  · funext j
    have hn : ¬ (y = t ∧ j = k) := fun q => h1 (q.1 ▸ hy)
    rw [gI_sI, if_neg hn]
  · rw [gI_sI, if_neg]
    rintro ⟨rfl, rfl⟩
    rcases h2 with q | q
    · exact q rfl
    · exact q hj
theorem Agr.sar {S F : Nat → Prop} {u v : Mem} (h : Agr S F u v) {a : Nat} {f : Nat → Int32} (h1 : ¬ S a) : Agr S F u (sAr v a f) :=
  h.trans ⟨rfl, fun y hy => ⟨rfl, rfl, gA_sAr_n (fun q => h1 (q ▸ hy)), rfl⟩, fun _ _ => rfl⟩
theorem Agr.sa {S F : Nat → Prop} {u v : Mem} (h : Agr S F u v) {a i : Nat} {x : Int32} (h1 : ¬ S a) : Agr S F u (sA v a i x) := h.sar h1
theorem Agr.slr {S F : Nat → Prop} {u v : Mem} (h : Agr S F u v) {a : Nat} {f : Nat → Int64} (h1 : ¬ S a) : Agr S F u (sLr v a f) :=
  h.trans ⟨rfl, fun y hy => ⟨rfl, rfl, rfl, by
    have hn : ¬ y = a := fun q => h1 (q ▸ hy)
    rw [gL_sLr, if_neg hn]⟩, fun _ _ => rfl⟩
theorem Agr.sl {S F : Nat → Prop} {u v : Mem} (h : Agr S F u v) {a i : Nat} {x : Int64} (h1 : ¬ S a) : Agr S F u (sL v a i x) := h.slr h1
theorem Agr.I {S F : Nat → Prop} {u v : Mem} (h : Agr S F u v) {x : Nat} (hx : S x) (k : Nat) : gI v x k = gI u x k := by rw [(h.2.1 x hx).1]
theorem Agr.A {S F : Nat → Prop} {u v : Mem} (h : Agr S F u v) {x : Nat} (hx : S x) : gA v x = gA u x := (h.2.1 x hx).2.2.1
theorem Agr.L {S F : Nat → Prop} {u v : Mem} (h : Agr S F u v) {x : Nat} (hx : S x) : gL v x = gL u x := (h.2.1 x hx).2.2.2
theorem Agr.R {S F : Nat → Prop} {u v : Mem} (h : Agr S F u v) {x : Nat} (hx : S x) (k : Nat) : gR v x k = gR u x k := by rw [(h.2.1 x hx).2.1]
theorem NOW.agr {S F : Nat → Prop} {u v : Mem} {K : gK8} {w : gW5} (hk : Agr S F u v) (hS : ∀ x, (1 ≤ x ∧ x ≤ 9) ∨ (83 ≤ x ∧ x ≤ 89) → S x) (hF : ∀ k, k ≤ 4 → F k) (h : NOW u K w) : NOW v K w := by
  unfold NOW KC0 WC at h ⊢
  simp only [hk.I (hS 1 (by decide)), hk.A (hS (1 + 1) (by decide)), hk.A (hS (1 + 2) (by decide)), hk.A (hS (1 + 3) (by decide)), hk.A (hS (1 + 4) (by decide)), hk.A (hS (1 + 5) (by decide)), hk.A (hS (1 + 6) (by decide)), hk.A (hS (1 + 7) (by decide)), hk.A (hS (1 + 8) (by decide)), hk.A (hS 83 (by decide)), hk.A (hS 84 (by decide)), hk.A (hS 85 (by decide)), hk.A (hS 86 (by decide)), hk.A (hS 87 (by decide)), hk.A (hS 88 (by decide)), hk.A (hS 89 (by decide)), hk.2.2 0 (hF 0 (by decide)), hk.2.2 1 (hF 1 (by decide)), hk.2.2 2 (hF 2 (by decide)), hk.2.2 3 (hF 3 (by decide)), hk.2.2 4 (hF 4 (by decide))]
  exact h
theorem PROG.agr {S F : Nat → Prop} {u v : Mem} {B : Nat} {pgs : Nat → gPg} (hk : Agr S F u v) (h0 : gI v 0 7 = gI u 0 7) (hS : ∀ x, x = 11 ∨ x = 12 ∨ x = 65 ∨ x = 66 ∨ 129 ≤ x ∨ (91 ≤ x ∧ x ≤ 96) ∨ x = 98 → S x) (hF : F 12) (hR : gR v 63 3 = gR u 63 3) (h : PROG u B pgs) : PROG v B pgs := by
  obtain ⟨h1, h2, h3, h4, h5, h6, h7, h8⟩ := h
  refine ⟨h1, h0.trans h2, (hk.2.2 12 hF).trans h3, hk.1.trans h4, hR.trans h5, h6.of (hk.I (hS 11 (by decide)) 1) (hk.I (hS 11 (by decide)) 2) (hk.A (hS 12 (by decide))), fun k hkB => ?_, fun i hi => by rw [hk.A (hS 98 (by decide))]; exact h8 i hi⟩
  obtain ⟨a, b, c⟩ := h7 k hkB
  have hb := bid_at k
  exact ⟨a, b.of (hk.I (hS _ (by omega)) 1) (hk.I (hS _ (by omega)) 2) (hk.A (hS _ (by omega))), c.of fun a q1 q2 => hk.A (hS a (by omega))⟩
theorem TXT.agr {S F : Nat → Prop} {u v : Mem} (hk : Agr S F u v) (hS : S 63 ∧ S 64 ∧ S 90) (hF : F 14) (h : TXT u) : TXT v := by
  unfold TXT at h ⊢
  rw [hk.I hS.1 1, hk.2.2 14 hF, hk.A hS.2.1, hk.A hS.2.2]
  exact h
theorem NTS.agr {S F : Nat → Prop} {u v : Mem} {N : Nat} (hk : Agr S F u v) (hS : ∀ x, (38 ≤ x ∧ x ≤ 49) ∨ (103 ≤ x ∧ x ≤ 109) → S x) (hF : F 37 ∧ F 41 ∧ F 42) (h : NTS u N) : NTS v N := by
  unfold NTS at h ⊢
  rw [hk.I (hS 38 (by decide)) 3, hk.I (hS 42 (by decide)) 3, hk.I (hS 46 (by decide)) 3, hk.I (hS 38 (by decide)) 4, hk.I (hS 42 (by decide)) 4, hk.I (hS 46 (by decide)) 4, hk.2.2 37 hF.1, hk.2.2 41 hF.2.1, hk.2.2 42 hF.2.2, hk.A (hS 39 (by decide)), hk.A (hS 40 (by decide)), hk.A (hS 41 (by decide)), hk.A (hS 43 (by decide)), hk.A (hS 44 (by decide)), hk.A (hS 45 (by decide)), hk.A (hS 47 (by decide)), hk.A (hS 48 (by decide)), hk.A (hS 103 (by decide)), hk.A (hS 104 (by decide)), hk.A (hS 105 (by decide)), hk.A (hS 106 (by decide)), hk.A (hS 107 (by decide)), hk.A (hS 108 (by decide)), hk.A (hS 109 (by decide))]
  exact h
theorem STG.agr {S F : Nat → Prop} {u v : Mem} (hk : Agr S F u v) (hS : S 67 ∧ S 68 ∧ S 124) (hF : F 71) (h : STG u) : STG v := by
  unfold STG at h ⊢
  rw [hk.I hS.1 1, hk.2.2 71 hF, hk.A hS.2.1, hk.A hS.2.2]
  exact h
theorem TAP.agr {S F : Nat → Prop} {u v : Mem} (hk : Agr S F u v) (hS : ∀ x, (70 ≤ x ∧ x ≤ 81) ∨ (125 ≤ x ∧ x ≤ 127) → S x) (h : TAP u) : TAP v := by
  intro j hj
  rw [hk.I (hS (70 + 2 * j) (by omega)) 1, hk.I (hS (70 + 2 * j) (by omega)) 2, hk.A (hS 125 (by decide)), hk.A (hS 126 (by decide)), hk.L (hS (71 + 2 * j) (by omega)), hk.L (hS 127 (by decide))]
  exact h j hj
theorem IMG.agr {S F : Nat → Prop} {u v : Mem} {B : Nat} {pgs : Nat → gPg} (hk : Agr S F u v) (h05 : gI v 0 5 = gI u 0 5) (hS : ∀ x, (25 ≤ x ∧ x ≤ 33) ∨ (51 ≤ x ∧ x ≤ 62) ∨ (110 ≤ x ∧ x ≤ 123) → S x) (hF : ∀ k, 47 ≤ k ∧ k ≤ 56 → F k) (h : IMG u B pgs) : IMG v B pgs := by
  unfold IMG at h ⊢
  unfold KC0 WC at h ⊢
  simp only [h05, hk.2.2 47 (hF 47 (by decide)), hk.2.2 48 (hF 48 (by decide)), hk.2.2 49 (hF 49 (by decide)), hk.2.2 50 (hF 50 (by decide)), hk.2.2 51 (hF 51 (by decide)), hk.2.2 52 (hF 52 (by decide)), hk.2.2 53 (hF 53 (by decide)), hk.2.2 54 (hF 54 (by decide)), hk.2.2 55 (hF 55 (by decide)), hk.2.2 56 (hF 56 (by decide)), hk.I (hS 25 (by decide)), hk.I (hS 51 (by decide)), hk.I (hS 55 (by decide)), hk.I (hS 59 (by decide)), hk.R (hS 25 (by decide))]
  simp only [hk.A (hS (25 + 1) (by decide)), hk.A (hS (25 + 2) (by decide)), hk.A (hS (25 + 3) (by decide)), hk.A (hS (25 + 4) (by decide)), hk.A (hS (25 + 5) (by decide)), hk.A (hS (25 + 6) (by decide)), hk.A (hS (25 + 7) (by decide)), hk.A (hS (25 + 8) (by decide)), hk.A (hS 110 (by decide)), hk.A (hS 111 (by decide)), hk.A (hS 112 (by decide)), hk.A (hS 113 (by decide)), hk.A (hS 114 (by decide)), hk.A (hS 115 (by decide)), hk.A (hS 116 (by decide)), hk.A (hS 117 (by decide)), hk.A (hS 118 (by decide)), hk.A (hS 119 (by decide)), hk.A (hS 120 (by decide)), hk.A (hS 121 (by decide)), hk.A (hS 122 (by decide)), hk.A (hS 123 (by decide)), hk.A (hS 52 (by decide)), hk.A (hS 53 (by decide)), hk.A (hS 54 (by decide)), hk.A (hS 56 (by decide)), hk.A (hS 57 (by decide)), hk.A (hS 58 (by decide)), hk.A (hS 60 (by decide)), hk.A (hS 61 (by decide))]
  exact h
/-! the kinds of writes -/
def SN (x : Nat) : Prop := ¬ (38 ≤ x ∧ x ≤ 49) ∧ ¬ (103 ≤ x ∧ x ≤ 109) ∧ x ≠ 82
def FN (k : Nat) : Prop := k ≠ 37 ∧ k ≠ 41 ∧ k ≠ 42
def STx (x : Nat) : Prop := x ≠ 63 ∧ x ≠ 64 ∧ x ≠ 90 ∧ x ≠ 82
def FT (k : Nat) : Prop := k ≠ 14 ∧ k ≠ 15 ∧ k ≠ 16
def SS (x : Nat) : Prop := x ≠ 67 ∧ x ≠ 68 ∧ x ≠ 124 ∧ x ≠ 82
def FS (k : Nat) : Prop := k ≠ 71
def SP (x : Nat) : Prop := ¬ (70 ≤ x ∧ x ≤ 81) ∧ ¬ (125 ≤ x ∧ x ≤ 128)
theorem InvA.notes {u v : Mem} {K : gK8} {w : gW5} {B : Nat} {pgs : Nat → gPg} (h : InvA u K w B pgs) (hk : Agr SN FN u v) (hn : NTS v (cN K)) : InvA v K w B pgs := by
  obtain ⟨h1, h2, h3, h4, h5, h6, h7, h8⟩ := h
  refine ⟨h1.agr hk (fun x _ => by unfold SN; omega) (fun k _ => by unfold FN; omega), h2.agr hk (hk.I (by unfold SN; omega) 7) (fun x _ => by unfold SN; omega) (by unfold FN; omega) (hk.R (by unfold SN; omega) 3), ?_, h4.agr hk (by unfold SN; omega) (by unfold FN; omega), hn, h6.agr hk (by unfold SN; omega) (by unfold FN; omega), h7.agr hk (fun x _ => by unfold SN; omega), h8.agr hk (hk.I (by unfold SN; omega) 5) (fun x _ => by unfold SN; omega) (fun k _ => by unfold FN; omega)⟩
  rw [hk.2.2 13 (by unfold FN; omega), hk.R (by unfold SN; omega) 13]
  exact h3
theorem InvA.text {u v : Mem} {K : gK8} {w : gW5} {B : Nat} {pgs : Nat → gPg} (h : InvA u K w B pgs) (hk : Agr STx FT u v) (hR : gR v 63 3 = gR u 63 3) (hn : TXT v) : InvA v K w B pgs := by
  obtain ⟨h1, h2, h3, h4, h5, h6, h7, h8⟩ := h
  refine ⟨h1.agr hk (fun x _ => by unfold STx; omega) (fun k _ => by unfold FT; omega), h2.agr hk (hk.I (by unfold STx; omega) 7) (fun x _ => by unfold STx; omega) (by unfold FT; omega) hR, ?_, hn, h5.agr hk (fun x _ => by unfold STx; omega) (by unfold FT; omega), h6.agr hk (by unfold STx; omega) (by unfold FT; omega), h7.agr hk (fun x _ => by unfold STx; omega), h8.agr hk (hk.I (by unfold STx; omega) 5) (fun x _ => by unfold STx; omega) (fun k _ => by unfold FT; omega)⟩
  rw [hk.2.2 13 (by unfold FT; omega), hk.R (by unfold STx; omega) 13]
  exact h3
theorem InvA.stage {u v : Mem} {K : gK8} {w : gW5} {B : Nat} {pgs : Nat → gPg} (h : InvA u K w B pgs) (hk : Agr SS FS u v) (hn : STG v) : InvA v K w B pgs := by
  obtain ⟨h1, h2, h3, h4, h5, h6, h7, h8⟩ := h
  refine ⟨h1.agr hk (fun x _ => by unfold SS; omega) (fun k _ => by unfold FS; omega), h2.agr hk (hk.I (by unfold SS; omega) 7) (fun x _ => by unfold SS; omega) (by unfold FS; omega) (hk.R (by unfold SS; omega) 3), ?_, h4.agr hk (by unfold SS; omega) (by unfold FS; omega), h5.agr hk (fun x _ => by unfold SS; omega) (by unfold FS; omega), hn, h7.agr hk (fun x _ => by unfold SS; omega), h8.agr hk (hk.I (by unfold SS; omega) 5) (fun x _ => by unfold SS; omega) (fun k _ => by unfold FS; omega)⟩
  rw [hk.2.2 13 (by unfold FS; omega), hk.R (by unfold SS; omega) 13]
  exact h3
theorem InvA.tape {u v : Mem} {K : gK8} {w : gW5} {B : Nat} {pgs : Nat → gPg} (h : InvA u K w B pgs) (hk : Agr SP (fun _ => True) u v) (hn : TAP v) : InvA v K w B pgs := by
  obtain ⟨h1, h2, h3, h4, h5, h6, h7, h8⟩ := h
  refine ⟨h1.agr hk (fun x _ => by unfold SP; omega) (fun k _ => trivial), h2.agr hk (hk.I (by unfold SP; omega) 7) (fun x _ => by unfold SP; omega) trivial (hk.R (by unfold SP; omega) 3), ?_, h4.agr hk (by unfold SP; omega) trivial, h5.agr hk (fun x _ => by unfold SP; omega) ⟨trivial, trivial, trivial⟩, h6.agr hk (by unfold SP; omega) trivial, hn, h8.agr hk (hk.I (by unfold SP; omega) 5) (fun x _ => by unfold SP; omega) (fun k _ => trivial)⟩
  rw [hk.2.2 13 trivial, hk.R (by unfold SP; omega) 13]
  exact h3
