theorem bt : ¬ bI true = 0 := by decide
theorem bf : bI false = 0 := rfl
def okS (u : Mem) (a : Option (Int32 × Mem)) (b : Mem → Option (Int32 × Mem)) : Prop := ∃ r u1 u2, a = some (r, u1) ∧ b u1 = some (r, u2) ∧ Inv u2
theorem seat_v {u : Mem} {K : gK8} {w : gW5} {i d : Nat} (h : NOW u K w) (hi : i < 6) (hd : d < 4) : NOW (sA (sA u 6 i (nI d)) 85 i (nI d)) (cN K, cH K, cK K, cV K, upd (cC K) i (nI d), cO K, cR K, cP K) w := by
  obtain ⟨⟨a1, a2, a3, a4⟩, a5, ⟨b1, b2, b3, b4⟩, b5, ⟨c1, c2, c3, c4, c5⟩⟩ := h
  refine ⟨⟨a1, a2, fun j hj => ⟨(a3 j hj).1, (a3 j hj).2.1, ?_, (a3 j hj).2.2.2⟩, a4⟩, a5, ⟨b1, b2, fun j hj => ⟨(b3 j hj).1, (b3 j hj).2.1, ?_, (b3 j hj).2.2.2⟩, b4⟩, b5, c1, ?_, c3, c4, c5⟩
  · exact upd_cong (fun j hj => (a3 j hj).2.2.1) rfl j hj
  · exact upd_cong (fun j hj => (b3 j hj).2.2.1) rfl j hj
  · intro j hj
    show ∃ c, c < 4 ∧ (if j = i then nI d else cC K j) = nI c
    split
    · exact ⟨d, hd, rfl⟩
    · exact c2 j hj
theorem keep_seat {u : Mem} {i : Nat} {x y : Int32} : Keep u (sA (sA u 6 i x) 85 i y) :=
  ⟨rfl, fun _ _ => rfl, rfl, fun _ _ _ _ _ => rfl, fun a h1 h2 h3 h4 => by
    show gA (sAr (sAr u 6 _) 85 _) a = _
    rw [gA_sAr_n (by omega), gA_sAr_n (by omega)]⟩
theorem st_seat {u : Mem} (hI : Inv u) (p c : Int32) : okS u (f_X7_seat p c u) (f_X8_seat p c) := by
  have hI0 := hI
  obtain ⟨K, w, B, pgs, hA⟩ := hI
  obtain ⟨⟨hn6, hn1⟩, a2, a3, a4⟩ := hA.1.1
  have hm1 := hA.1.2.2.1.1
  have b3 := hA.1.2.2.1.2.2.1
  unfold f_X7_seat
  rw [pbind_of (isPerson_eq hn6 hn1)]
  cases hp : wn p (cN K)
  · exact ⟨_, _, _, if_pos bf, (pbind_of (isOne_eq hn6 hm1)).trans (by rw [hp]; exact if_pos bf), hI0⟩
  · rw [if_neg bt, pbind_of (isWithin_eq (N := 4) rfl)]
    cases hc : wn c 4
    · exact ⟨_, _, _, if_pos bf, (pbind_of (isOne_eq hn6 hm1)).trans (by rw [hp, if_neg bt, pbind_of isCarriage_eq, hc]; exact if_pos bf), hI0⟩
    · obtain ⟨i, hi, rfl⟩ := wn_of hp
      obtain ⟨d, hd, rfl⟩ := wn_of hc
      rw [if_neg bt, gin_nI (show i < 6 by omega) (by decide), gin_nI (show i < 6 by omega) (by decide), nI_clamp (by omega)]
      have hI2 : Inv (sA (sA u 6 i (nI d)) 85 i (nI d)) := ⟨_, w, B, pgs, hA.keep keep_seat (seat_v hA.1 (by omega) hd) rfl rfl⟩
      refine ⟨_, _, _, rfl, ?_, hI2⟩
      unfold f_X8_seat
      rw [pbind_of (isOne_eq (u := sA u 6 i (nI d)) hn6 hm1), hp, if_neg bt, pbind_of isCarriage_eq, hc, if_neg bt, gin_nI (show i < 6 by omega) (by decide), gin_nI (show i < 6 by omega) (by decide), nI_clamp (show i < 2 ^ 31 by omega)]
      have e : gA (sA u 6 i (nI d)) 85 i = gA u 6 i := ((b3 i (by omega)).2.2.1).trans ((a3 i (by omega)).2.2.1).symm
      rw [e]

theorem rng_k {K : gK8} {w : gW5} {k : Nat → Int32} (h : rng K w) (hk : ∀ i, i < 6 → ∃ z, z < 256 ∧ k i = nI z) : rng K (wS w, wP w, wM w, wO w, k) := ⟨h.1, h.2.1, hk, h.2.2.2.1, h.2.2.2.2.1, h.2.2.2.2.2⟩
theorem know_v {u : Mem} {K : gK8} {w : gW5} {i d : Nat} (h : NOW u K w) (hi : i < 6) (hd : d < 256) : NOW (sA (sA u 7 i (nI d)) 86 i (nI d)) K (wS w, wP w, wM w, wO w, upd (wK w) i (nI d)) := by
  obtain ⟨a, ⟨a1, a2, a3, a4, a5⟩, b, ⟨b1, b2, b3, b4, b5⟩, c⟩ := h
  refine ⟨a, ⟨a1, a2, a3, a4, fun j hj => upd_cong a5 rfl j hj⟩, b, ⟨b1, b2, b3, b4, fun j hj => upd_cong b5 rfl j hj⟩, rng_k c ?_⟩
  intro j hj
  show ∃ c, c < 256 ∧ (if j = i then nI d else wK w j) = nI c
  split
  · exact ⟨d, hd, rfl⟩
  · exact c.2.2.1 j hj
theorem keep_know {u : Mem} {i : Nat} {x y : Int32} : Keep u (sA (sA u 7 i x) 86 i y) :=
  ⟨rfl, fun _ _ => rfl, rfl, fun _ _ _ _ _ => rfl, fun a h1 h2 h3 h4 => by
    show gA (sAr (sAr u 7 _) 86 _) a = _
    rw [gA_sAr_n (by omega), gA_sAr_n (by omega)]⟩
theorem st_know {u : Mem} (hI : Inv u) (p c : Int32) : okS u (f_X7_know p c u) (f_X8_know p c) := by
  have hI0 := hI
  obtain ⟨K, w, B, pgs, hA⟩ := hI
  obtain ⟨⟨hn6, hn1⟩, -⟩ := hA.1.1
  have hm1 := hA.1.2.2.1.1
  have a5 := hA.1.2.1.2.2.2.2
  have b5 := hA.1.2.2.2.1.2.2.2.2
  unfold f_X7_know
  rw [pbind_of (isPerson_eq hn6 hn1)]
  cases hp : wn p (cN K)
  · exact ⟨_, _, _, if_pos bf, (pbind_of (isOne_eq hn6 hm1)).trans (by rw [hp]; exact if_pos bf), hI0⟩
  · rw [if_neg bt, pbind_of (isUpTo_eq (N := 256) rfl)]
    cases hc : wn c 256
    · exact ⟨_, _, _, if_pos bf, (pbind_of (isOne_eq hn6 hm1)).trans (by rw [hp, if_neg bt, pbind_of isTales_eq, hc]; exact if_pos bf), hI0⟩
    · obtain ⟨i, hi, rfl⟩ := wn_of hp
      obtain ⟨d, hd, rfl⟩ := wn_of hc
      rw [if_neg bt, gin_nI (show i < 6 by omega) (by decide), gin_nI (show i < 6 by omega) (by decide), nI_clamp (by omega)]
      have hI2 : Inv (sA (sA u 7 i (nI d)) 86 i (nI d)) := ⟨_, _, B, pgs, hA.keep keep_know (know_v hA.1 (by omega) hd) rfl rfl⟩
      refine ⟨_, _, _, rfl, ?_, hI2⟩
      unfold f_X8_know
      rw [pbind_of (isOne_eq (u := sA u 7 i (nI d)) hn6 hm1), hp, if_neg bt, pbind_of isTales_eq, hc, if_neg bt, gin_nI (show i < 6 by omega) (by decide), gin_nI (show i < 6 by omega) (by decide), nI_clamp (show i < 2 ^ 31 by omega)]
      have e : gA (sA u 7 i (nI d)) 86 i = gA u 7 i := (b5 i (by omega)).trans (a5 i (by omega)).symm
      rw [e]
theorem asNum_eq {x : Int32} {b : Bool} (h : x = bI b) : f_X7_asNumber x = some x := by
  subst h
  cases b <;> rfl
/-! leave -/
def offM (off : Int32) (i : Nat) (b : Bool) : Int32 := if b = true then off ||| ((1 : Int32) <<< (nI i &&& 31)) else off &&& (((1 : Int32) <<< (nI i &&& 31)) ^^^ (-1 : Int32))
theorem offM_bit {off : Int32} {i j : Nat} {b : Bool} (hi : i < 32) (hj : j < 32) : bit (offM off i b) j = if j = i then b else bit off j := by
  unfold offM
  cases b
  · rw [if_neg (by decide), bit_and _ _ hj, bit_nsh hi hj]
    by_cases h : j = i <;> simp [h]
  · rw [if_pos rfl, bit_or _ _ hj, bit_sh hi hj]
    by_cases h : j = i <;> simp [h]
theorem leave_v {u : Mem} {K : gK8} {w : gW5} {i : Nat} {b : Bool} (h : NOW u K w) (hi : i < cN K) : NOW (sI (sA u 8 i (bI b)) 82 1 (offM (gI u 82 1) i b)) (cN K, cH K, cK K, cV K, cC K, upd (cO K) i (bI b), cR K, cP K) w := by
  obtain ⟨⟨a1, a2, a3, a4⟩, a5, ⟨b1, b2, b3, b4⟩, b5, ⟨c1, c2, c3, c4, c5⟩⟩ := h
  have h6 := a1.1
  refine ⟨⟨a1, a2, fun j hj => ⟨(a3 j hj).1, (a3 j hj).2.1, (a3 j hj).2.2.1, ?_⟩, a4⟩, a5, ⟨b1, b2, fun j hj => ⟨(b3 j hj).1, (b3 j hj).2.1, (b3 j hj).2.2.1, ?_⟩, b4⟩, b5, c1, c2, c3, ?_, c5⟩
  · exact upd_cong (fun j hj => (a3 j hj).2.2.2) rfl j hj
  · show bI (bit (offM (gI u 82 1) i b) j) = if j = i then bI b else cO K j
    rw [offM_bit (by omega) (by omega)]
    by_cases q : j = i
    · rw [if_pos q, if_pos q]
    · rw [if_neg q, if_neg q]; exact (b3 j hj).2.2.2
  · intro j hj hn
    show (if j = i then bI b else cO K j) = 0
    have hn : cN K ≤ j := hn
    rw [if_neg (by omega)]
    exact c4 j hj hn
theorem keep_leave {u : Mem} {i : Nat} {x y : Int32} : Keep u (sI (sA u 8 i x) 82 1 y) :=
  ⟨rfl, fun _ _ => rfl, rfl, fun x k h1 h2 h3 => by rw [gI_sI, if_neg (by omega)]; rfl, fun a h1 h2 h3 h4 => by
    show gA (sAr u 8 _) a = _
    rw [gA_sAr_n (by omega)]⟩
theorem st_leave {u : Mem} (hI : Inv u) (p : Int32) (b : Bool) : okS u (f_X7_leave p (bI b) u) (f_X8_leave p (bI b)) := by
  have hI0 := hI
  obtain ⟨K, w, B, pgs, hA⟩ := hI
  obtain ⟨⟨hn6, hn1⟩, -, a3, -⟩ := hA.1.1
  have hm1 := hA.1.2.2.1.1
  have b3 := hA.1.2.2.1.2.2.1
  unfold f_X7_leave
  rw [pbind_of (isPerson_eq hn6 hn1)]
  cases hp : wn p (cN K)
  · exact ⟨_, _, _, if_pos bf, (pbind_of (isOne_eq hn6 hm1)).trans (by rw [hp]; exact if_pos bf), hI0⟩
  · obtain ⟨i, hi, rfl⟩ := wn_of hp
    have ha : gA u 8 i = bI (bit (gI u 82 1) i) := ((a3 i (by omega)).2.2.2).trans ((b3 i (by omega)).2.2.2).symm
    have hnar : vp_nar .boolean (bI b) = bI b := by cases b <;> decide
    rw [if_neg bt, gin_nI (show i < 6 by omega) (by decide), gin_nI (show i < 6 by omega) (by decide), nI_clamp (by omega), pbind_of (asNum_eq ha), hnar, ha]
    have hI2 : Inv (sI (sA u 8 i (bI b)) 82 1 (offM (gI u 82 1) i b)) := ⟨_, w, B, pgs, hA.keep keep_leave (leave_v hA.1 hi) rfl rfl⟩
    refine ⟨_, _, _, rfl, ?_, hI2⟩
    have hg : f_X8_goes (nI i) (bI b) (sA u 8 i (bI b)) = some ((), sI (sA u 8 i (bI b)) 82 1 (offM (gI u 82 1) i b)) := by
      unfold f_X8_goes offM
      cases b <;> rfl
    unfold f_X8_leave
    rw [pbind_of (isOne_eq (u := sA u 8 i (bI b)) hn6 hm1), hp, if_neg bt, show gI (sA u 8 i (bI b)) 82 1 = gI u 82 1 from rfl, pbind_of (hasM _ _)]
    cases bit (gI u 82 1) i
    · rw [if_pos bf, obind_of hg]; rfl
    · rw [if_neg bt, obind_of hg]; rfl
/-! set -/
theorem upd_in {f : Nat → Int32} {N M i : Nat} {x : Int32} (h : ∀ j, j < N → ∃ k, k < M ∧ f j = nI k) (hx : ∃ k, k < M ∧ x = nI k) : ∀ j, j < N → ∃ k, k < M ∧ upd f i x j = nI k := by
  intro j hj
  rw [upd_eq]
  split
  · exact hx
  · exact h j hj
theorem heat_v {u : Mem} {K : gK8} {w : gW5} {i : Nat} {x : Int32} (h : NOW u K w) (hx : ∃ k, k < 10 ∧ x = nI k) : NOW (sA (sA u 2 i x) 89 i x) (cN K, upd (cH K) i x, cK K, cV K, cC K, cO K, cR K, cP K) w := by
  obtain ⟨⟨a1, a2, a3, a4⟩, a5, ⟨b1, b2, b3, b4⟩, b5, ⟨c1, c2, c3, c4, c5, d1, d⟩⟩ := h
  exact ⟨⟨a1, fun j hj => upd_cong a2 rfl j hj, a3, a4⟩, a5, ⟨b1, fun j hj => upd_cong b2 rfl j hj, b3, b4⟩, b5, c1, c2, c3, c4, c5, upd_in d1 hx, d⟩
theorem keep_heat {u : Mem} {i : Nat} {x y : Int32} : Keep u (sA (sA u 2 i x) 89 i y) :=
  ⟨rfl, fun _ _ => rfl, rfl, fun _ _ _ _ _ => rfl, fun a h1 h2 h3 h4 => by
    show gA (sAr (sAr u 2 _) 89 _) a = _
    rw [gA_sAr_n (by omega), gA_sAr_n (by omega)]⟩
theorem often_v {u : Mem} {K : gK8} {w : gW5} {i : Nat} {x : Int32} (h : NOW u K w) (hx : ∃ k, k < 100 ∧ x = nI k) : NOW (sA (sA u 3 i x) 88 i x) K (wS w, wP w, wM w, upd (wO w) i x, wK w) := by
  obtain ⟨a, ⟨a1, a2, a3, a4, a5⟩, b, ⟨b1, b2, b3, b4, b5⟩, ⟨c1, c2, c3, c4, c5, d1, d2, d⟩⟩ := h
  exact ⟨a, ⟨a1, a2, a3, fun j hj => upd_cong a4 rfl j hj, a5⟩, b, ⟨b1, b2, b3, fun j hj => upd_cong b4 rfl j hj, b5⟩, c1, c2, c3, c4, c5, d1, upd_in d2 hx, d⟩
theorem keep_often {u : Mem} {i : Nat} {x y : Int32} : Keep u (sA (sA u 3 i x) 88 i y) :=
  ⟨rfl, fun _ _ => rfl, rfl, fun _ _ _ _ _ => rfl, fun a h1 h2 h3 h4 => by
    show gA (sAr (sAr u 3 _) 88 _) a = _
    rw [gA_sAr_n (by omega), gA_sAr_n (by omega)]⟩
theorem st_set {u : Mem} (hI : Inv u) (t p x : Int32) : okS u (f_X7_set t p x u) (f_X8_set t p x) := by
  have hI0 := hI
  obtain ⟨K, w, B, pgs, hA⟩ := hI
  have a2 := hA.1.1.2.1
  have b2 := hA.1.2.2.1.2.1
  have a4 := hA.1.2.1.2.2.2.1
  have b4 := hA.1.2.2.2.1.2.2.2.1
  unfold f_X7_set
  rw [pbind_of isTaleC_eq]
  cases ht : wn t 8
  · exact ⟨_, _, _, if_pos bf, (by unfold f_X8_set; rw [pbind_of isTaleM_eq, ht]; exact if_pos bf), hI0⟩
  · rw [if_neg bt, pbind_of (isWithin_eq (N := 2) rfl)]
    cases hp : wn p 2
    · exact ⟨_, _, _, if_pos bf, (by unfold f_X8_set; rw [pbind_of isTaleM_eq, ht, if_neg bt, pbind_of (in_eq (N := 2) rfl), hp]; exact if_pos bf), hI0⟩
    · rw [if_neg bt]
      obtain ⟨i, hi, rfl⟩ := wn_of ht
      by_cases h0 : p = 0
      · rw [if_pos h0, pbind_of (isUpTo_eq (N := 10) rfl)]
        cases hx : wn x 10
        · exact ⟨_, _, _, if_pos bf, (by unfold f_X8_set; rw [pbind_of isTaleM_eq, ht, if_neg bt, pbind_of (in_eq (N := 2) rfl), hp, if_neg bt, if_pos h0, pbind_of (in_eq (N := 10) rfl), hx]; exact if_pos bf), hI0⟩
        · rw [if_neg bt, gin_nI hi (by decide), gin_nI hi (by decide), nI_clamp (by omega)]
          have hI2 : Inv (sA (sA u 2 i x) 89 i x) := ⟨_, _, B, pgs, hA.keep keep_heat (heat_v hA.1 (wn_of hx)) rfl rfl⟩
          refine ⟨_, _, _, rfl, ?_, hI2⟩
          unfold f_X8_set
          rw [pbind_of isTaleM_eq, ht, if_neg bt, pbind_of (in_eq (N := 2) rfl), hp, if_neg bt, if_pos h0, pbind_of (in_eq (N := 10) rfl), hx, if_neg bt, gin_nI hi (by decide), gin_nI hi (by decide), nI_clamp (show i < 2 ^ 31 by omega)]
          have e : gA (sA u 2 i x) 89 i = gA u 2 i := (b2 i hi).trans (a2 i hi).symm
          rw [e]
      · rw [if_neg h0, pbind_of (isUpTo_eq (N := 100) rfl)]
        cases hx : wn x 100
        · exact ⟨_, _, _, if_pos bf, (by unfold f_X8_set; rw [pbind_of isTaleM_eq, ht, if_neg bt, pbind_of (in_eq (N := 2) rfl), hp, if_neg bt, if_neg h0, pbind_of (in_eq (N := 100) rfl), hx]; exact if_pos bf), hI0⟩
        · rw [if_neg bt, gin_nI hi (by decide), gin_nI hi (by decide), nI_clamp (by omega)]
          have hI2 : Inv (sA (sA u 3 i x) 88 i x) := ⟨_, _, B, pgs, hA.keep keep_often (often_v hA.1 (wn_of hx)) rfl rfl⟩
          refine ⟨_, _, _, rfl, ?_, hI2⟩
          unfold f_X8_set
          rw [pbind_of isTaleM_eq, ht, if_neg bt, pbind_of (in_eq (N := 2) rfl), hp, if_neg bt, if_neg h0, pbind_of (in_eq (N := 100) rfl), hx, if_neg bt, gin_nI hi (by decide), gin_nI hi (by decide), nI_clamp (show i < 2 ^ 31 by omega)]
          have e : gA (sA u 3 i x) 88 i = gA u 3 i := (b4 i hi).trans (a4 i hi).symm
          rw [e]
/-! row -/
theorem row_v {u : Mem} {K : gK8} {w : gW5} {i : Nat} {x : Int32} (h : NOW u K w) (hi : i < 4 * cN K) (hx : ∃ k, k < 10 ∧ x = nI k) : NOW (sA (sA u 9 i x) 87 i x) (cN K, cH K, cK K, cV K, cC K, cO K, upd (cR K) i x, cP K) w := by
  obtain ⟨⟨a1, a2, a3, a4⟩, a5, ⟨b1, b2, b3, b4⟩, b5, ⟨c1, c2, c3, c4, c5, c6⟩⟩ := h
  refine ⟨⟨a1, a2, a3, fun j hj => upd_cong a4 rfl j hj⟩, a5, ⟨b1, b2, b3, fun j hj => upd_cong b4 rfl j hj⟩, b5, c1, c2, c3, c4, ?_, c6.1, c6.2.1, c6.2.2.1, upd_in c6.2.2.2.1 hx, c6.2.2.2.2⟩
  intro j hj hn
  have hn : 4 * cN K ≤ j := hn
  show (if j = i then x else cR K j) = 0
  rw [if_neg (by omega)]
  exact c5 j hj hn
theorem keep_row {u : Mem} {i : Nat} {x y : Int32} : Keep u (sA (sA u 9 i x) 87 i y) :=
  ⟨rfl, fun _ _ => rfl, rfl, fun _ _ _ _ _ => rfl, fun a h1 h2 h3 h4 => by
    show gA (sAr (sAr u 9 _) 87 _) a = _
    rw [gA_sAr_n (by omega), gA_sAr_n (by omega)]⟩
theorem st_row {u : Mem} (hI : Inv u) (p t x : Int32) : okS u (f_X7_row p t x u) (f_X8_row p t x) := by
  have hI0 := hI
  obtain ⟨K, w, B, pgs, hA⟩ := hI
  obtain ⟨⟨hn6, hn1⟩, -, a3, a4⟩ := hA.1.1
  have hm1 := hA.1.2.2.1.1
  have b3 := hA.1.2.2.1.2.2.1
  have b4 := hA.1.2.2.1.2.2.2
  unfold f_X7_row
  rw [pbind_of (isPerson_eq hn6 hn1)]
  cases hp : wn p (cN K)
  · exact ⟨_, _, _, if_pos bf, (by unfold f_X8_row; rw [pbind_of (isOne_eq hn6 hm1), hp]; exact if_pos bf), hI0⟩
  · rw [if_neg bt, pbind_of (isWithin_eq (N := 4) rfl)]
    cases ht : wn t 4
    · exact ⟨_, _, _, if_pos bf, (by unfold f_X8_row; rw [pbind_of (isOne_eq hn6 hm1), hp, if_neg bt, pbind_of (in_eq (N := 4) rfl), ht]; exact if_pos bf), hI0⟩
    · rw [if_neg bt, pbind_of (isUpTo_eq (N := 10) rfl)]
      cases hx : wn x 10
      · exact ⟨_, _, _, if_pos bf, (by unfold f_X8_row; rw [pbind_of (isOne_eq hn6 hm1), hp, if_neg bt, pbind_of (in_eq (N := 4) rfl), ht, if_neg bt, pbind_of (in_eq (N := 10) rfl), hx]; exact if_pos bf), hI0⟩
      · obtain ⟨i, hi, rfl⟩ := wn_of hp
        obtain ⟨d, hd, rfl⟩ := wn_of ht
        have e4 : (4 : Int32) * nI i + nI d = nI (4 * i + d) := by rw [show (4 : Int32) = nI 4 from rfl, nI_mul, nI_add]
        have e5 : nI i * (4 : Int32) + nI d = nI (4 * i + d) := by rw [Int32.mul_comm, e4]
        have hM : ∀ v : Mem, gI v 82 0 = nI (cN K) → ∀ y, gA v 83 i = y → f_X8_row (nI i) (nI d) x v = if y = (6 : Int32) then some (gA v 87 (4 * i + d), sA v 87 (4 * i + d) x) else some ((-3 : Int32), v) := by
          intro v hv y hy
          unfold f_X8_row
          rw [pbind_of (isOne_eq hn6 hv), hp, if_neg bt, pbind_of (in_eq (N := 4) rfl), ht, if_neg bt, pbind_of (in_eq (N := 10) rfl), hx, if_neg bt, gin_nI (show i < 6 by omega) (by decide), nI_clamp (by omega), hy, e4, gin_nI (show 4 * i + d < 24 by omega) (by decide), gin_nI (show 4 * i + d < 24 by omega) (by decide), nI_clamp (by omega)]
        rw [if_neg bt, gin_nI (show i < 6 by omega) (by decide), nI_clamp (by omega), e5]
        have hk : gA u 4 i = gA u 83 i := ((a3 i (by omega)).1).trans ((b3 i (by omega)).1).symm
        rw [hk]
        by_cases h6 : gA u 83 i = 6
        · rw [if_pos h6, gin_nI (show 4 * i + d < 24 by omega) (by decide), gin_nI (show 4 * i + d < 24 by omega) (by decide), nI_clamp (by omega)]
          have hI2 : Inv (sA (sA u 9 (4 * i + d) x) 87 (4 * i + d) x) := ⟨_, _, B, pgs, hA.keep keep_row (row_v hA.1 (by omega) (wn_of hx)) rfl rfl⟩
          refine ⟨_, _, _, rfl, ?_, hI2⟩
          refine (hM (sA u 9 (4 * i + d) x) hm1 (gA u 83 i) rfl).trans ?_
          rw [if_pos h6]
          have e : gA (sA u 9 (4 * i + d) x) 87 (4 * i + d) = gA u 9 (4 * i + d) := (b4 _ (by omega)).trans (a4 _ (by omega)).symm
          rw [e]
        · rw [if_neg h6]
          refine ⟨_, _, _, rfl, (hM u hm1 (gA u 83 i) rfl).trans (if_neg h6), hI0⟩
