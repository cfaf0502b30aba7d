theorem bt : ¬ bI true = 0 := by decide
theorem bf : bI false = 0 := rfl
def okS (u : Mem) (a : Option (Int32 × Mem)) (b : Mem → Option (Int32 × Mem)) : Prop := ∃ r u1 u2, a = some (r, u1) ∧ b u1 = some (r, u2) ∧ Inv u2
theorem seat_v {u : Mem} {K : gK8} {w : gW5} {i d : Nat} (h : NOW u K w) (hi : i < 6) (hd : d < 4) : NOW (sA (sA u 6 i (nI d)) 85 i (nI d)) (cN K, cH K, cK K, cV K, upd (cC K) i (nI d), cO K, cR K, cP K) w := by
  obtain ⟨⟨a1, a2, a3, a4⟩, a5, ⟨b1, b2, b3, b4⟩, b5, ⟨c1, c2, c3, c4, c5⟩⟩ := h
  refine ⟨⟨a1, a2, fun j hj => ⟨(a3 j hj).1, (a3 j hj).2.1, ?_, (a3 j hj).2.2.2⟩, a4⟩, a5, ⟨b1, b2, fun j hj => ⟨(b3 j hj).1, (b3 j hj).2.1, ?_, (b3 j hj).2.2.2⟩, b4⟩, b5, c1, ?_, c3, c4, c5⟩
  · exact upd_cong (fun j hj => (a3 j hj).2.2.1) rfl j hj
  · exact upd_cong (fun j hj => (b3 j hj).2.2.1) rfl j hj
  · intro j hj
    show ∃ c, c < 4 ∧ (if j = i then nI d else cC K j) = nI c
    split
    · exact ⟨d, hd, rfl⟩
    · exact c2 j hj
theorem keep_seat {u : Mem} {i : Nat} {x y : Int32} : Keep u (sA (sA u 6 i x) 85 i y) :=
  ⟨rfl, fun _ _ => rfl, rfl, fun _ _ _ _ _ => rfl, fun a h1 h2 h3 h4 => by
    show gA (sAr (sAr u 6 _) 85 _) a = _
    rw [gA_sAr_n (by omega), gA_sAr_n (by omega)]⟩
theorem st_seat {u : Mem} (hI : Inv u) (p c : Int32) : okS u (f_X7_seat p c u) (f_X8_seat p c) := by
  have hI0 := hI
  obtain ⟨K, w, B, pgs, hA⟩ := hI
  obtain ⟨⟨hn6, hn1⟩, a2, a3, a4⟩ := hA.1.1
  have hm1 := hA.1.2.2.1.1
  have b3 := hA.1.2.2.1.2.2.1
  unfold f_X7_seat
  rw [pbind_of (isPerson_eq hn6 hn1)]
  cases hp : wn p (cN K)
  · exact ⟨_, _, _, if_pos bf, (pbind_of (isOne_eq hn6 hm1)).trans (by rw [hp]; exact if_pos bf), hI0⟩
  · rw [if_neg bt, pbind_of (isWithin_eq (N := 4) rfl)]
    cases hc : wn c 4
    · exact ⟨_, _, _, if_pos bf, (pbind_of (isOne_eq hn6 hm1)).trans (by rw [hp, if_neg bt, pbind_of isCarriage_eq, hc]; exact if_pos bf), hI0⟩
    · obtain ⟨i, hi, rfl⟩ := wn_of hp
      obtain ⟨d, hd, rfl⟩ := wn_of hc
      rw [if_neg bt, gin_nI (show i < 6 by omega) (by decide), gin_nI (show i < 6 by omega) (by decide), nI_clamp (by omega)]
      have hI2 : Inv (sA (sA u 6 i (nI d)) 85 i (nI d)) := ⟨_, w, B, pgs, hA.keep keep_seat (seat_v hA.1 (by omega) hd) rfl rfl⟩
      refine ⟨_, _, _, rfl, ?_, hI2⟩
      unfold f_X8_seat
      rw [pbind_of (isOne_eq hn6 hm1), hp, if_neg bt, pbind_of isCarriage_eq, hc, if_neg bt, gin_nI (show i < 6 by omega) (by decide), gin_nI (show i < 6 by omega) (by decide), nI_clamp (by omega)]
      have e : gA (sA u 6 i (nI d)) 85 i = gA u 6 i := ((b3 i (by omega)).2.2.1).trans ((a3 i (by omega)).2.2.1).symm
      rw [e]
