theorem dX7_know_0 : decode cX7_know 0 = .ok (.aload_n 0, 1) := by decide +kernel
theorem dX7_know_1 : decode cX7_know 1 = .ok (.iload_n 1, 1) := by decide +kernel
theorem dX7_know_2 : decode cX7_know 2 = .ok (.invokevirtual 74, 3) := by decide +kernel
theorem dX7_know_5 : decode cX7_know 5 = .ok (.ifCond .ne 5, 3) := by decide +kernel
theorem dX7_know_8 : decode cX7_know 8 = .ok (.iconst (-1), 1) := by decide +kernel
theorem dX7_know_9 : decode cX7_know 9 = .ok (.ireturn, 1) := by decide +kernel
theorem dX7_know_10 : decode cX7_know 10 = .ok (.iload_n 2, 1) := by decide +kernel
theorem dX7_know_11 : decode cX7_know 11 = .ok (.sipush 255, 3) := by decide +kernel
theorem dX7_know_14 : decode cX7_know 14 = .ok (.invokestatic 67, 3) := by decide +kernel
theorem dX7_know_17 : decode cX7_know 17 = .ok (.ifCond .ne 6, 3) := by decide +kernel
theorem dX7_know_20 : decode cX7_know 20 = .ok (.bipush (-2), 2) := by decide +kernel
theorem dX7_know_22 : decode cX7_know 22 = .ok (.ireturn, 1) := by decide +kernel
theorem dX7_know_23 : decode cX7_know 23 = .ok (.aload_n 0, 1) := by decide +kernel
theorem dX7_know_24 : decode cX7_know 24 = .ok (.getfield 12, 3) := by decide +kernel
theorem dX7_know_27 : decode cX7_know 27 = .ok (.getfield 88, 3) := by decide +kernel
theorem dX7_know_30 : decode cX7_know 30 = .ok (.iload_n 1, 1) := by decide +kernel
theorem dX7_know_31 : decode cX7_know 31 = .ok (.iaload, 1) := by decide +kernel
theorem dX7_know_32 : decode cX7_know 32 = .ok (.istore_n 3, 1) := by decide +kernel
theorem dX7_know_33 : decode cX7_know 33 = .ok (.aload_n 0, 1) := by decide +kernel
theorem dX7_know_34 : decode cX7_know 34 = .ok (.getfield 12, 3) := by decide +kernel
theorem dX7_know_37 : decode cX7_know 37 = .ok (.getfield 88, 3) := by decide +kernel
theorem dX7_know_40 : decode cX7_know 40 = .ok (.iload_n 1, 1) := by decide +kernel
theorem dX7_know_41 : decode cX7_know 41 = .ok (.iload_n 2, 1) := by decide +kernel
theorem dX7_know_42 : decode cX7_know 42 = .ok (.iastore, 1) := by decide +kernel
theorem dX7_know_43 : decode cX7_know 43 = .ok (.iload_n 3, 1) := by decide +kernel
theorem dX7_know_44 : decode cX7_know 44 = .ok (.ireturn, 1) := by decide +kernel
def f_X7_know (p1 : Int32) (p2 : Int32) (u : Mem) : Option (Int32 × Mem) := Option.bind (f_X7_isPerson p1 u) (fun r1 => (if r1 = 0 then some ((-1 : Int32), u) else Option.bind (f_X7_isUpTo p2 (255 : Int32)) (fun r3 => (if r3 = 0 then some ((-2 : Int32), u) else gin p1 6 (gin p1 6 (some (gA u 7 p1.toNatClampNeg, sA u 7 p1.toNatClampNeg p2)))))))
set_option maxHeartbeats 4000000 in
set_option maxRecDepth 100000 in
theorem k_X7_know (l : Launch) (D : gDt) (base : Nat) (Z : gZt) (u : Mem) (p1 : Int32) (p2 : Int32) (r : Int32) (u' : Mem) (hf : f_X7_know p1 p2 u = some (r, u')) : Met l yX7_know (gws yX7_know cX7_know 4 (some .int)) (gRm 3 0 0) (gPc D base Z u [.ref (base + 0), .int p1, .int p2]) (gQi D base r u') 0 0 (gF base) := by
  refine Met.ofW (cc := cX7_know) (maxL := 4) (ret := some .int) (by decide) rfl ?_
  intro p e s m args below meth c s₁ B hml hv
  obtain ⟨rfl, C0, hG⟩ := g_enter B hml hv
  have hr := B.returns
  have C0 : gC p s m meth c _ cX7_know 4 RX7 D base Z := C0
  have hx := C0.1
  have hb := C0.2.1
  have hl := lv_entry ([.ref (base + 0), .int p1, .int p2]) (n := 4) (Nat.le_of_ble_eq_true rfl)
  rw [lg_entry_eq]
  generalize (lg_sl ([.ref (base + 0), .int p1, .int p2]) ++ List.replicate (4 - (lg_sl ([.ref (base + 0), .int p1, .int p2])).length) Slot.unset).toArray = ls at hl ⊢
  have hl : lv_has ls 4 [(0, .ref (base + 0)), (1, .int p1), (2, .int p2)] := hl
  obtain ⟨Q, hQ⟩ : ∃ Q, Q = MQ below (gQi D base r u') ([.ref (base + 0), .int p1, .int p2] : List Value).toArray s 0 0 (gF base) := ⟨_, rfl⟩
  rw [← hQ]
  change W p l e (gRm 3 0 0) s m _ below meth c _ _ _ _ _ _
  unfold f_X7_know at hf
  refine lv_aload_n hx hb dX7_know_0 rfl (lv_at hl 0 rfl) ?_
  refine lv_iload_n hx hb dX7_know_1 rfl (lv_at hl 1 rfl) ?_
  obtain ⟨r1, hc1, hf⟩ := pb_s hf
  refine g_doI0 hG (g_runV C0 hG (k_X7_isPerson l D base Z u p1 r1 hc1) m_X7_isPerson v_X7_isPerson w_378 (by decide) (g_recv C0 hG (L0 hG) rfl) rfl hl.1 rfl (Nat.le_of_ble_eq_true rfl) dX7_know_2 ⟨Nat.zero_le _, Nat.zero_le _⟩) (fun H locs hG hk => ?_)
  refine lv_if_ne (tgt := 10) hx hb dX7_know_5 (by decide) (fun c2 => ?_) (fun c2 => ?_)
  · have hf := gif_f c2 hf
    refine lv_iload_n hx hb dX7_know_10 rfl (lv_at hl 2 rfl) ?_
    refine lv_sipush (v := (255 : Int32)) hx hb dX7_know_11 (by decide) ?_
    obtain ⟨r3, hc3, hf⟩ := pb_s hf
    refine g_doI0 hG (g_runS C0 hG (k_X7_isUpTo l D base Z u p2 (255 : Int32) r3 hc3) m_X7_isUpTo s_X7_isUpTo w_367 (by decide) rfl hl.1 rfl (Nat.le_of_ble_eq_true rfl) dX7_know_14 ⟨Nat.zero_le _, Nat.zero_le _⟩) (fun H locs hG hk => ?_)
    refine lv_if_ne (tgt := 23) hx hb dX7_know_17 (by decide) (fun c4 => ?_) (fun c4 => ?_)
    · have hf := gif_f c4 hf
      refine lv_aload_n hx hb dX7_know_23 rfl (lv_at hl 0 rfl) ?_
      refine g_getSa (o := 1) (a := 1) C0 hG (L0 hG) rfl 0 (by decide) rfl rfl w_329 dX7_know_24 ?_
      refine g_getSaN (o := 6) (a := 7) C0 hG (L1 hG) rfl 5 (by decide) rfl rfl w_165 dX7_know_27 ?_
      refine lv_iload_n hx hb dX7_know_30 rfl (lv_at hl 1 rfl) ?_
      obtain ⟨h5, hf⟩ := gin_s hf
      refine g_iald C0 hG (L7 hG) h5 dX7_know_31 ?_
      refine lv_istore_n (lv' := [(3, .int (gA u 7 p1.toNatClampNeg)), (0, .ref (base + 0)), (1, .int p1), (2, .int p2)]) hx hb dX7_know_32 rfl hl (by decide) rfl (fun ls hl => ?_)
      refine lv_aload_n hx hb dX7_know_33 rfl (lv_at hl 1 rfl) ?_
      refine g_getSa (o := 1) (a := 1) C0 hG (L0 hG) rfl 0 (by decide) rfl rfl w_329 dX7_know_34 ?_
      refine g_getSaN (o := 6) (a := 7) C0 hG (L1 hG) rfl 5 (by decide) rfl rfl w_165 dX7_know_37 ?_
      refine lv_iload_n hx hb dX7_know_40 rfl (lv_at hl 2 rfl) ?_
      refine lv_iload_n hx hb dX7_know_41 rfl (lv_at hl 3 rfl) ?_
      obtain ⟨h6, hf⟩ := gin_s hf
      refine g_iast C0 hG (L7 hG) h6 dX7_know_42 (fun H locs hG => ?_)
      refine lv_iload_n hx hb dX7_know_43 rfl (lv_at hl 0 rfl) ?_
      obtain ⟨hr1, hu⟩ := gret_s hf
      subst hr1
      subst hu
      subst hQ
      exact g_iret C0 hG hr dX7_know_44
    · have hf := gif_t c4 hf
      refine lv_bipush (v := (-2 : Int32)) hx hb dX7_know_20 (by decide) ?_
      obtain ⟨hr1, hu⟩ := gret_s hf
      subst hr1
      subst hu
      subst hQ
      exact g_iret C0 hG hr dX7_know_22
  · have hf := gif_t c2 hf
    refine lv_iconst (v := (-1 : Int32)) hx hb dX7_know_8 (by decide) ?_
    obtain ⟨hr1, hu⟩ := gret_s hf
    subst hr1
    subst hu
    subst hQ
    exact g_iret C0 hG hr dX7_know_9
theorem dX7_leave_0 : decode cX7_leave 0 = .ok (.aload_n 0, 1) := by decide +kernel
theorem dX7_leave_1 : decode cX7_leave 1 = .ok (.iload_n 1, 1) := by decide +kernel
theorem dX7_leave_2 : decode cX7_leave 2 = .ok (.invokevirtual 74, 3) := by decide +kernel
theorem dX7_leave_5 : decode cX7_leave 5 = .ok (.ifCond .ne 5, 3) := by decide +kernel
theorem dX7_leave_8 : decode cX7_leave 8 = .ok (.iconst (-1), 1) := by decide +kernel
theorem dX7_leave_9 : decode cX7_leave 9 = .ok (.ireturn, 1) := by decide +kernel
theorem dX7_leave_10 : decode cX7_leave 10 = .ok (.aload_n 0, 1) := by decide +kernel
theorem dX7_leave_11 : decode cX7_leave 11 = .ok (.getfield 12, 3) := by decide +kernel
theorem dX7_leave_14 : decode cX7_leave 14 = .ok (.getfield 91, 3) := by decide +kernel
theorem dX7_leave_17 : decode cX7_leave 17 = .ok (.iload_n 1, 1) := by decide +kernel
theorem dX7_leave_18 : decode cX7_leave 18 = .ok (.baload, 1) := by decide +kernel
theorem dX7_leave_19 : decode cX7_leave 19 = .ok (.istore_n 3, 1) := by decide +kernel
theorem dX7_leave_20 : decode cX7_leave 20 = .ok (.aload_n 0, 1) := by decide +kernel
theorem dX7_leave_21 : decode cX7_leave 21 = .ok (.getfield 12, 3) := by decide +kernel
theorem dX7_leave_24 : decode cX7_leave 24 = .ok (.getfield 91, 3) := by decide +kernel
theorem dX7_leave_27 : decode cX7_leave 27 = .ok (.iload_n 1, 1) := by decide +kernel
theorem dX7_leave_28 : decode cX7_leave 28 = .ok (.iload_n 2, 1) := by decide +kernel
theorem dX7_leave_29 : decode cX7_leave 29 = .ok (.bastore, 1) := by decide +kernel
theorem dX7_leave_30 : decode cX7_leave 30 = .ok (.iload_n 3, 1) := by decide +kernel
theorem dX7_leave_31 : decode cX7_leave 31 = .ok (.invokestatic 95, 3) := by decide +kernel
theorem dX7_leave_34 : decode cX7_leave 34 = .ok (.ireturn, 1) := by decide +kernel
def f_X7_leave (p1 : Int32) (p2 : Int32) (u : Mem) : Option (Int32 × Mem) := Option.bind (f_X7_isPerson p1 u) (fun r1 => (if r1 = 0 then some ((-1 : Int32), u) else gin p1 6 (gin p1 6 (Option.bind (f_X7_asNumber (gA u 8 p1.toNatClampNeg)) (fun r5 => some (r5, sA u 8 p1.toNatClampNeg (vp_nar .boolean p2)))))))
set_option maxHeartbeats 4000000 in
set_option maxRecDepth 100000 in
theorem k_X7_leave (l : Launch) (D : gDt) (base : Nat) (Z : gZt) (u : Mem) (p1 : Int32) (p2 : Int32) (r : Int32) (u' : Mem) (hf : f_X7_leave p1 p2 u = some (r, u')) : Met l yX7_leave (gws yX7_leave cX7_leave 4 (some .int)) (gRm 3 0 0) (gPc D base Z u [.ref (base + 0), .int p1, .int p2]) (gQi D base r u') 0 0 (gF base) := by
  refine Met.ofW (cc := cX7_leave) (maxL := 4) (ret := some .int) (by decide) rfl ?_
  intro p e s m args below meth c s₁ B hml hv
  obtain ⟨rfl, C0, hG⟩ := g_enter B hml hv
  have hr := B.returns
  have C0 : gC p s m meth c _ cX7_leave 4 RX7 D base Z := C0
  have hx := C0.1
  have hb := C0.2.1
  have hl := lv_entry ([.ref (base + 0), .int p1, .int p2]) (n := 4) (Nat.le_of_ble_eq_true rfl)
  rw [lg_entry_eq]
  generalize (lg_sl ([.ref (base + 0), .int p1, .int p2]) ++ List.replicate (4 - (lg_sl ([.ref (base + 0), .int p1, .int p2])).length) Slot.unset).toArray = ls at hl ⊢
  have hl : lv_has ls 4 [(0, .ref (base + 0)), (1, .int p1), (2, .int p2)] := hl
  obtain ⟨Q, hQ⟩ : ∃ Q, Q = MQ below (gQi D base r u') ([.ref (base + 0), .int p1, .int p2] : List Value).toArray s 0 0 (gF base) := ⟨_, rfl⟩
  rw [← hQ]
  change W p l e (gRm 3 0 0) s m _ below meth c _ _ _ _ _ _
  unfold f_X7_leave at hf
  refine lv_aload_n hx hb dX7_leave_0 rfl (lv_at hl 0 rfl) ?_
  refine lv_iload_n hx hb dX7_leave_1 rfl (lv_at hl 1 rfl) ?_
  obtain ⟨r1, hc1, hf⟩ := pb_s hf
  refine g_doI0 hG (g_runV C0 hG (k_X7_isPerson l D base Z u p1 r1 hc1) m_X7_isPerson v_X7_isPerson w_378 (by decide) (g_recv C0 hG (L0 hG) rfl) rfl hl.1 rfl (Nat.le_of_ble_eq_true rfl) dX7_leave_2 ⟨Nat.zero_le _, Nat.zero_le _⟩) (fun H locs hG hk => ?_)
  refine lv_if_ne (tgt := 10) hx hb dX7_leave_5 (by decide) (fun c2 => ?_) (fun c2 => ?_)
  · have hf := gif_f c2 hf
    refine lv_aload_n hx hb dX7_leave_10 rfl (lv_at hl 0 rfl) ?_
    refine g_getSa (o := 1) (a := 1) C0 hG (L0 hG) rfl 0 (by decide) rfl rfl w_329 dX7_leave_11 ?_
    refine g_getSaN (o := 7) (a := 8) C0 hG (L1 hG) rfl 6 (by decide) rfl rfl w_167 dX7_leave_14 ?_
    refine lv_iload_n hx hb dX7_leave_17 rfl (lv_at hl 1 rfl) ?_
    obtain ⟨h3, hf⟩ := gin_s hf
    refine g_zald C0 hG (L8 hG) h3 dX7_leave_18 ?_
    refine lv_istore_n (lv' := [(3, .int (gA u 8 p1.toNatClampNeg)), (0, .ref (base + 0)), (1, .int p1), (2, .int p2)]) hx hb dX7_leave_19 rfl hl (by decide) rfl (fun ls hl => ?_)
    refine lv_aload_n hx hb dX7_leave_20 rfl (lv_at hl 1 rfl) ?_
    refine g_getSa (o := 1) (a := 1) C0 hG (L0 hG) rfl 0 (by decide) rfl rfl w_329 dX7_leave_21 ?_
    refine g_getSaN (o := 7) (a := 8) C0 hG (L1 hG) rfl 6 (by decide) rfl rfl w_167 dX7_leave_24 ?_
    refine lv_iload_n hx hb dX7_leave_27 rfl (lv_at hl 2 rfl) ?_
    refine lv_iload_n hx hb dX7_leave_28 rfl (lv_at hl 3 rfl) ?_
    obtain ⟨h4, hf⟩ := gin_s hf
    refine g_zast C0 hG (L8 hG) h4 dX7_leave_29 (fun H locs hG => ?_)
    refine lv_iload_n hx hb dX7_leave_30 rfl (lv_at hl 0 rfl) ?_
    obtain ⟨r5, hc5, hf⟩ := pb_s hf
    refine g_doI0 hG (g_runS C0 hG (k_X7_asNumber l D base Z (sA u 8 p1.toNatClampNeg (vp_nar .boolean p2)) (gA u 8 p1.toNatClampNeg) r5 hc5) m_X7_asNumber s_X7_asNumber w_382 (by decide) rfl hl.1 rfl (Nat.le_of_ble_eq_true rfl) dX7_leave_31 ⟨Nat.zero_le _, Nat.zero_le _⟩) (fun H locs hG hk => ?_)
    obtain ⟨hr1, hu⟩ := gret_s hf
    subst hr1
    subst hu
    subst hQ
    exact g_iret C0 hG hr dX7_leave_34
  · have hf := gif_t c2 hf
    refine lv_iconst (v := (-1 : Int32)) hx hb dX7_leave_8 (by decide) ?_
    obtain ⟨hr1, hu⟩ := gret_s hf
    subst hr1
    subst hu
    subst hQ
    exact g_iret C0 hG hr dX7_leave_9
theorem dX7_set_0 : decode cX7_set 0 = .ok (.iload_n 1, 1) := by decide +kernel
theorem dX7_set_1 : decode cX7_set 1 = .ok (.invokestatic 107, 3) := by decide +kernel
theorem dX7_set_4 : decode cX7_set 4 = .ok (.ifCond .eq 11, 3) := by decide +kernel
theorem dX7_set_7 : decode cX7_set 7 = .ok (.iload_n 2, 1) := by decide +kernel
theorem dX7_set_8 : decode cX7_set 8 = .ok (.iconst 2, 1) := by decide +kernel
theorem dX7_set_9 : decode cX7_set 9 = .ok (.invokestatic 63, 3) := by decide +kernel
theorem dX7_set_12 : decode cX7_set 12 = .ok (.ifCond .ne 5, 3) := by decide +kernel
theorem dX7_set_15 : decode cX7_set 15 = .ok (.iconst (-1), 1) := by decide +kernel
theorem dX7_set_16 : decode cX7_set 16 = .ok (.ireturn, 1) := by decide +kernel
theorem dX7_set_17 : decode cX7_set 17 = .ok (.iload_n 3, 1) := by decide +kernel
theorem dX7_set_18 : decode cX7_set 18 = .ok (.iload_n 2, 1) := by decide +kernel
theorem dX7_set_19 : decode cX7_set 19 = .ok (.ifCond .ne 8, 3) := by decide +kernel
theorem dX7_set_22 : decode cX7_set 22 = .ok (.bipush 9, 2) := by decide +kernel
theorem dX7_set_24 : decode cX7_set 24 = .ok (.goto 5, 3) := by decide +kernel
theorem dX7_set_27 : decode cX7_set 27 = .ok (.bipush 99, 2) := by decide +kernel
theorem dX7_set_29 : decode cX7_set 29 = .ok (.invokestatic 67, 3) := by decide +kernel
theorem dX7_set_32 : decode cX7_set 32 = .ok (.ifCond .ne 6, 3) := by decide +kernel
theorem dX7_set_35 : decode cX7_set 35 = .ok (.bipush (-2), 2) := by decide +kernel
theorem dX7_set_37 : decode cX7_set 37 = .ok (.ireturn, 1) := by decide +kernel
theorem dX7_set_38 : decode cX7_set 38 = .ok (.iload_n 2, 1) := by decide +kernel
theorem dX7_set_39 : decode cX7_set 39 = .ok (.ifCond .ne 13, 3) := by decide +kernel
theorem dX7_set_42 : decode cX7_set 42 = .ok (.aload_n 0, 1) := by decide +kernel
theorem dX7_set_43 : decode cX7_set 43 = .ok (.getfield 12, 3) := by decide +kernel
theorem dX7_set_46 : decode cX7_set 46 = .ok (.getfield 113, 3) := by decide +kernel
theorem dX7_set_49 : decode cX7_set 49 = .ok (.goto 10, 3) := by decide +kernel
theorem dX7_set_52 : decode cX7_set 52 = .ok (.aload_n 0, 1) := by decide +kernel
theorem dX7_set_53 : decode cX7_set 53 = .ok (.getfield 12, 3) := by decide +kernel
theorem dX7_set_56 : decode cX7_set 56 = .ok (.getfield 116, 3) := by decide +kernel
theorem dX7_set_59 : decode cX7_set 59 = .ok (.astore 4, 2) := by decide +kernel
theorem dX7_set_61 : decode cX7_set 61 = .ok (.aload 4, 2) := by decide +kernel
theorem dX7_set_63 : decode cX7_set 63 = .ok (.iload_n 1, 1) := by decide +kernel
theorem dX7_set_64 : decode cX7_set 64 = .ok (.iaload, 1) := by decide +kernel
theorem dX7_set_65 : decode cX7_set 65 = .ok (.istore 5, 2) := by decide +kernel
theorem dX7_set_67 : decode cX7_set 67 = .ok (.aload 4, 2) := by decide +kernel
theorem dX7_set_69 : decode cX7_set 69 = .ok (.iload_n 1, 1) := by decide +kernel
theorem dX7_set_70 : decode cX7_set 70 = .ok (.iload_n 3, 1) := by decide +kernel
theorem dX7_set_71 : decode cX7_set 71 = .ok (.iastore, 1) := by decide +kernel
theorem dX7_set_72 : decode cX7_set 72 = .ok (.iload 5, 2) := by decide +kernel
theorem dX7_set_74 : decode cX7_set 74 = .ok (.ireturn, 1) := by decide +kernel
def f_X7_set (p1 : Int32) (p2 : Int32) (p3 : Int32) (u : Mem) : Option (Int32 × Mem) := Option.bind (f_X7_isTale p1) (fun r1 => (if r1 = 0 then some ((-1 : Int32), u) else Option.bind (f_X7_isWithin p2 (2 : Int32)) (fun r3 => (if r3 = 0 then some ((-1 : Int32), u) else (if p2 = 0 then Option.bind (f_X7_isUpTo p3 (9 : Int32)) (fun r10 => (if r10 = 0 then some ((-2 : Int32), u) else gin p1 8 (gin p1 8 (some (gA u 2 p1.toNatClampNeg, sA u 2 p1.toNatClampNeg p3))))) else Option.bind (f_X7_isUpTo p3 (99 : Int32)) (fun r6 => (if r6 = 0 then some ((-2 : Int32), u) else gin p1 8 (gin p1 8 (some (gA u 3 p1.toNatClampNeg, sA u 3 p1.toNatClampNeg p3))))))))))
set_option maxHeartbeats 4000000 in
set_option maxRecDepth 100000 in
theorem k_X7_set (l : Launch) (D : gDt) (base : Nat) (Z : gZt) (u : Mem) (p1 : Int32) (p2 : Int32) (p3 : Int32) (r : Int32) (u' : Mem) (hf : f_X7_set p1 p2 p3 u = some (r, u')) : Met l yX7_set (gws yX7_set cX7_set 6 (some .int)) (gRm 3 0 0) (gPc D base Z u [.ref (base + 0), .int p1, .int p2, .int p3]) (gQi D base r u') 0 0 (gF base) := by
  refine Met.ofW (cc := cX7_set) (maxL := 6) (ret := some .int) (by decide) rfl ?_
  intro p e s m args below meth c s₁ B hml hv
  obtain ⟨rfl, C0, hG⟩ := g_enter B hml hv
  have hr := B.returns
  have C0 : gC p s m meth c _ cX7_set 6 RX7 D base Z := C0
  have hx := C0.1
  have hb := C0.2.1
  have hl := lv_entry ([.ref (base + 0), .int p1, .int p2, .int p3]) (n := 6) (Nat.le_of_ble_eq_true rfl)
  rw [lg_entry_eq]
  generalize (lg_sl ([.ref (base + 0), .int p1, .int p2, .int p3]) ++ List.replicate (6 - (lg_sl ([.ref (base + 0), .int p1, .int p2, .int p3])).length) Slot.unset).toArray = ls at hl ⊢
  have hl : lv_has ls 6 [(0, .ref (base + 0)), (1, .int p1), (2, .int p2), (3, .int p3)] := hl
  obtain ⟨Q, hQ⟩ : ∃ Q, Q = MQ below (gQi D base r u') ([.ref (base + 0), .int p1, .int p2, .int p3] : List Value).toArray s 0 0 (gF base) := ⟨_, rfl⟩
  rw [← hQ]
  change W p l e (gRm 3 0 0) s m _ below meth c _ _ _ _ _ _
  unfold f_X7_set at hf
  refine lv_iload_n hx hb dX7_set_0 rfl (lv_at hl 1 rfl) ?_
  obtain ⟨r1, hc1, hf⟩ := pb_s hf
  refine g_doI0 hG (g_runS C0 hG (k_X7_isTale l D base Z u p1 r1 hc1) m_X7_isTale s_X7_isTale w_415 (by decide) rfl hl.1 rfl (Nat.le_of_ble_eq_true rfl) dX7_set_1 ⟨Nat.zero_le _, Nat.zero_le _⟩) (fun H locs hG hk => ?_)
  refine lv_if_eq (tgt := 15) hx hb dX7_set_4 (by decide) (fun c2 => ?_) (fun c2 => ?_)
  · have hf := gif_t c2 hf
    refine lv_iconst (v := (-1 : Int32)) hx hb dX7_set_15 (by decide) ?_
    obtain ⟨hr1, hu⟩ := gret_s hf
    subst hr1
    subst hu
    subst hQ
    exact g_iret C0 hG hr dX7_set_16
  · have hf := gif_f c2 hf
    refine lv_iload_n hx hb dX7_set_7 rfl (lv_at hl 2 rfl) ?_
    refine lv_iconst (v := (2 : Int32)) hx hb dX7_set_8 (by decide) ?_
    obtain ⟨r3, hc3, hf⟩ := pb_s hf
    refine g_doI0 hG (g_runS C0 hG (k_X7_isWithin l D base Z u p2 (2 : Int32) r3 hc3) m_X7_isWithin s_X7_isWithin w_364 (by decide) rfl hl.1 rfl (Nat.le_of_ble_eq_true rfl) dX7_set_9 ⟨Nat.zero_le _, Nat.zero_le _⟩) (fun H locs hG hk => ?_)
    refine lv_if_ne (tgt := 17) hx hb dX7_set_12 (by decide) (fun c4 => ?_) (fun c4 => ?_)
    · have hf := gif_f c4 hf
      refine lv_iload_n hx hb dX7_set_17 rfl (lv_at hl 3 rfl) ?_
      refine lv_iload_n hx hb dX7_set_18 rfl (lv_at hl 2 rfl) ?_
      refine lv_if_ne (tgt := 27) hx hb dX7_set_19 (by decide) (fun c5 => ?_) (fun c5 => ?_)
      · have hf := gif_f c5 hf
        refine lv_bipush (v := (99 : Int32)) hx hb dX7_set_27 (by decide) ?_
        obtain ⟨r6, hc6, hf⟩ := pb_s hf
        refine g_doI0 hG (g_runS C0 hG (k_X7_isUpTo l D base Z u p3 (99 : Int32) r6 hc6) m_X7_isUpTo s_X7_isUpTo w_367 (by decide) rfl hl.1 rfl (Nat.le_of_ble_eq_true rfl) dX7_set_29 ⟨Nat.zero_le _, Nat.zero_le _⟩) (fun H locs hG hk => ?_)
        refine lv_if_ne (tgt := 38) hx hb dX7_set_32 (by decide) (fun c7 => ?_) (fun c7 => ?_)
        · have hf := gif_f c7 hf
          refine lv_iload_n hx hb dX7_set_38 rfl (lv_at hl 2 rfl) ?_
          refine lv_if_ne (tgt := 52) hx hb dX7_set_39 (by decide) (fun _ => ?_) (fun c => absurd c c5)
          refine lv_aload_n hx hb dX7_set_52 rfl (lv_at hl 0 rfl) ?_
          refine g_getSa (o := 1) (a := 1) C0 hG (L0 hG) rfl 0 (by decide) rfl rfl w_329 dX7_set_53 ?_
          refine g_getSaN (o := 2) (a := 3) C0 hG (L1 hG) rfl 1 (by decide) rfl rfl w_157 dX7_set_56 ?_
          refine lv_astore (lv' := [(4, .ref (base + 3)), (0, .ref (base + 0)), (1, .int p1), (2, .int p2), (3, .int p3)]) hx hb dX7_set_59 hl (by decide) rfl (fun ls hl => ?_)
          refine lv_aload hx hb dX7_set_61 (lv_at hl 0 rfl) ?_
          refine lv_iload_n hx hb dX7_set_63 rfl (lv_at hl 2 rfl) ?_
          obtain ⟨h8, hf⟩ := gin_s hf
          refine g_iald C0 hG (L3 hG) h8 dX7_set_64 ?_
          refine lv_istore (lv' := [(5, .int (gA u 3 p1.toNatClampNeg)), (4, .ref (base + 3)), (0, .ref (base + 0)), (1, .int p1), (2, .int p2), (3, .int p3)]) hx hb dX7_set_65 hl (by decide) rfl (fun ls hl => ?_)
          refine lv_aload hx hb dX7_set_67 (lv_at hl 1 rfl) ?_
          refine lv_iload_n hx hb dX7_set_69 rfl (lv_at hl 3 rfl) ?_
          refine lv_iload_n hx hb dX7_set_70 rfl (lv_at hl 5 rfl) ?_
          obtain ⟨h9, hf⟩ := gin_s hf
          refine g_iast C0 hG (L3 hG) h9 dX7_set_71 (fun H locs hG => ?_)
          refine lv_iload hx hb dX7_set_72 (lv_at hl 0 rfl) ?_
          obtain ⟨hr1, hu⟩ := gret_s hf
          subst hr1
          subst hu
          subst hQ
          exact g_iret C0 hG hr dX7_set_74
        · have hf := gif_t c7 hf
          refine lv_bipush (v := (-2 : Int32)) hx hb dX7_set_35 (by decide) ?_
          obtain ⟨hr1, hu⟩ := gret_s hf
          subst hr1
          subst hu
          subst hQ
          exact g_iret C0 hG hr dX7_set_37
      · have hf := gif_t c5 hf
        refine lv_bipush (v := (9 : Int32)) hx hb dX7_set_22 (by decide) ?_
        refine lv_goto (tgt := 29) hx hb dX7_set_24 (by decide) ?_
        obtain ⟨r10, hc10, hf⟩ := pb_s hf
        refine g_doI0 hG (g_runS C0 hG (k_X7_isUpTo l D base Z u p3 (9 : Int32) r10 hc10) m_X7_isUpTo s_X7_isUpTo w_367 (by decide) rfl hl.1 rfl (Nat.le_of_ble_eq_true rfl) dX7_set_29 ⟨Nat.zero_le _, Nat.zero_le _⟩) (fun H locs hG hk => ?_)
        refine lv_if_ne (tgt := 38) hx hb dX7_set_32 (by decide) (fun c11 => ?_) (fun c11 => ?_)
        · have hf := gif_f c11 hf
          refine lv_iload_n hx hb dX7_set_38 rfl (lv_at hl 2 rfl) ?_
          refine lv_if_ne (tgt := 52) hx hb dX7_set_39 (by decide) (fun c => absurd c5 c) (fun _ => ?_)
          refine lv_aload_n hx hb dX7_set_42 rfl (lv_at hl 0 rfl) ?_
          refine g_getSa (o := 1) (a := 1) C0 hG (L0 hG) rfl 0 (by decide) rfl rfl w_329 dX7_set_43 ?_
          refine g_getSaN (o := 1) (a := 2) C0 hG (L1 hG) rfl 0 (by decide) rfl rfl w_155 dX7_set_46 ?_
          refine lv_goto (tgt := 59) hx hb dX7_set_49 (by decide) ?_
          refine lv_astore (lv' := [(4, .ref (base + 2)), (0, .ref (base + 0)), (1, .int p1), (2, .int p2), (3, .int p3)]) hx hb dX7_set_59 hl (by decide) rfl (fun ls hl => ?_)
          refine lv_aload hx hb dX7_set_61 (lv_at hl 0 rfl) ?_
          refine lv_iload_n hx hb dX7_set_63 rfl (lv_at hl 2 rfl) ?_
          obtain ⟨h12, hf⟩ := gin_s hf
          refine g_iald C0 hG (L2 hG) h12 dX7_set_64 ?_
          refine lv_istore (lv' := [(5, .int (gA u 2 p1.toNatClampNeg)), (4, .ref (base + 2)), (0, .ref (base + 0)), (1, .int p1), (2, .int p2), (3, .int p3)]) hx hb dX7_set_65 hl (by decide) rfl (fun ls hl => ?_)
          refine lv_aload hx hb dX7_set_67 (lv_at hl 1 rfl) ?_
          refine lv_iload_n hx hb dX7_set_69 rfl (lv_at hl 3 rfl) ?_
          refine lv_iload_n hx hb dX7_set_70 rfl (lv_at hl 5 rfl) ?_
          obtain ⟨h13, hf⟩ := gin_s hf
          refine g_iast C0 hG (L2 hG) h13 dX7_set_71 (fun H locs hG => ?_)
          refine lv_iload hx hb dX7_set_72 (lv_at hl 0 rfl) ?_
          obtain ⟨hr1, hu⟩ := gret_s hf
          subst hr1
          subst hu
          subst hQ
          exact g_iret C0 hG hr dX7_set_74
        · have hf := gif_t c11 hf
          refine lv_bipush (v := (-2 : Int32)) hx hb dX7_set_35 (by decide) ?_
          obtain ⟨hr1, hu⟩ := gret_s hf
          subst hr1
          subst hu
          subst hQ
          exact g_iret C0 hG hr dX7_set_37
    · have hf := gif_t c4 hf
      refine lv_iconst (v := (-1 : Int32)) hx hb dX7_set_15 (by decide) ?_
      obtain ⟨hr1, hu⟩ := gret_s hf
      subst hr1
      subst hu
      subst hQ
      exact g_iret C0 hG hr dX7_set_16
theorem dX7_row_0 : decode cX7_row 0 = .ok (.aload_n 0, 1) := by decide +kernel
theorem dX7_row_1 : decode cX7_row 1 = .ok (.iload_n 1, 1) := by decide +kernel
theorem dX7_row_2 : decode cX7_row 2 = .ok (.invokevirtual 74, 3) := by decide +kernel
theorem dX7_row_5 : decode cX7_row 5 = .ok (.ifCond .eq 11, 3) := by decide +kernel
theorem dX7_row_8 : decode cX7_row 8 = .ok (.iload_n 2, 1) := by decide +kernel
theorem dX7_row_9 : decode cX7_row 9 = .ok (.iconst 4, 1) := by decide +kernel
theorem dX7_row_10 : decode cX7_row 10 = .ok (.invokestatic 63, 3) := by decide +kernel
theorem dX7_row_13 : decode cX7_row 13 = .ok (.ifCond .ne 5, 3) := by decide +kernel
theorem dX7_row_16 : decode cX7_row 16 = .ok (.iconst (-1), 1) := by decide +kernel
theorem dX7_row_17 : decode cX7_row 17 = .ok (.ireturn, 1) := by decide +kernel
theorem dX7_row_18 : decode cX7_row 18 = .ok (.iload_n 3, 1) := by decide +kernel
theorem dX7_row_19 : decode cX7_row 19 = .ok (.bipush 9, 2) := by decide +kernel
theorem dX7_row_21 : decode cX7_row 21 = .ok (.invokestatic 67, 3) := by decide +kernel
theorem dX7_row_24 : decode cX7_row 24 = .ok (.ifCond .ne 6, 3) := by decide +kernel
theorem dX7_row_27 : decode cX7_row 27 = .ok (.bipush (-2), 2) := by decide +kernel
theorem dX7_row_29 : decode cX7_row 29 = .ok (.ireturn, 1) := by decide +kernel
theorem dX7_row_30 : decode cX7_row 30 = .ok (.aload_n 0, 1) := by decide +kernel
theorem dX7_row_31 : decode cX7_row 31 = .ok (.getfield 12, 3) := by decide +kernel
theorem dX7_row_34 : decode cX7_row 34 = .ok (.getfield 78, 3) := by decide +kernel
theorem dX7_row_37 : decode cX7_row 37 = .ok (.iload_n 1, 1) := by decide +kernel
theorem dX7_row_38 : decode cX7_row 38 = .ok (.iaload, 1) := by decide +kernel
theorem dX7_row_39 : decode cX7_row 39 = .ok (.bipush 6, 2) := by decide +kernel
theorem dX7_row_41 : decode cX7_row 41 = .ok (.if_icmp .eq 6, 3) := by decide +kernel
theorem dX7_row_44 : decode cX7_row 44 = .ok (.bipush (-3), 2) := by decide +kernel
theorem dX7_row_46 : decode cX7_row 46 = .ok (.ireturn, 1) := by decide +kernel
theorem dX7_row_47 : decode cX7_row 47 = .ok (.iload_n 1, 1) := by decide +kernel
theorem dX7_row_48 : decode cX7_row 48 = .ok (.iconst 4, 1) := by decide +kernel
theorem dX7_row_49 : decode cX7_row 49 = .ok (.imul, 1) := by decide +kernel
theorem dX7_row_50 : decode cX7_row 50 = .ok (.iload_n 2, 1) := by decide +kernel
theorem dX7_row_51 : decode cX7_row 51 = .ok (.iadd, 1) := by decide +kernel
theorem dX7_row_52 : decode cX7_row 52 = .ok (.istore 4, 2) := by decide +kernel
theorem dX7_row_54 : decode cX7_row 54 = .ok (.aload_n 0, 1) := by decide +kernel
theorem dX7_row_55 : decode cX7_row 55 = .ok (.getfield 12, 3) := by decide +kernel
theorem dX7_row_58 : decode cX7_row 58 = .ok (.getfield 119, 3) := by decide +kernel
theorem dX7_row_61 : decode cX7_row 61 = .ok (.iload 4, 2) := by decide +kernel
theorem dX7_row_63 : decode cX7_row 63 = .ok (.iaload, 1) := by decide +kernel
theorem dX7_row_64 : decode cX7_row 64 = .ok (.istore 5, 2) := by decide +kernel
theorem dX7_row_66 : decode cX7_row 66 = .ok (.aload_n 0, 1) := by decide +kernel
theorem dX7_row_67 : decode cX7_row 67 = .ok (.getfield 12, 3) := by decide +kernel
theorem dX7_row_70 : decode cX7_row 70 = .ok (.getfield 119, 3) := by decide +kernel
theorem dX7_row_73 : decode cX7_row 73 = .ok (.iload 4, 2) := by decide +kernel
theorem dX7_row_75 : decode cX7_row 75 = .ok (.iload_n 3, 1) := by decide +kernel
theorem dX7_row_76 : decode cX7_row 76 = .ok (.iastore, 1) := by decide +kernel
theorem dX7_row_77 : decode cX7_row 77 = .ok (.iload 5, 2) := by decide +kernel
theorem dX7_row_79 : decode cX7_row 79 = .ok (.ireturn, 1) := by decide +kernel
def f_X7_row (p1 : Int32) (p2 : Int32) (p3 : Int32) (u : Mem) : Option (Int32 × Mem) := Option.bind (f_X7_isPerson p1 u) (fun r1 => (if r1 = 0 then some ((-1 : Int32), u) else Option.bind (f_X7_isWithin p2 (4 : Int32)) (fun r3 => (if r3 = 0 then some ((-1 : Int32), u) else Option.bind (f_X7_isUpTo p3 (9 : Int32)) (fun r5 => (if r5 = 0 then some ((-2 : Int32), u) else gin p1 6 ((if (gA u 4 p1.toNatClampNeg) = (6 : Int32) then gin ((p1 * (4 : Int32)) + p2) 24 (gin ((p1 * (4 : Int32)) + p2) 24 (some (gA u 9 ((p1 * (4 : Int32)) + p2).toNatClampNeg, sA u 9 ((p1 * (4 : Int32)) + p2).toNatClampNeg p3))) else some ((-3 : Int32), u)))))))))
set_option maxHeartbeats 4000000 in
set_option maxRecDepth 100000 in
theorem k_X7_row (l : Launch) (D : gDt) (base : Nat) (Z : gZt) (u : Mem) (p1 : Int32) (p2 : Int32) (p3 : Int32) (r : Int32) (u' : Mem) (hf : f_X7_row p1 p2 p3 u = some (r, u')) : Met l yX7_row (gws yX7_row cX7_row 6 (some .int)) (gRm 3 0 0) (gPc D base Z u [.ref (base + 0), .int p1, .int p2, .int p3]) (gQi D base r u') 0 0 (gF base) := by
  refine Met.ofW (cc := cX7_row) (maxL := 6) (ret := some .int) (by decide) rfl ?_
  intro p e s m args below meth c s₁ B hml hv
  obtain ⟨rfl, C0, hG⟩ := g_enter B hml hv
  have hr := B.returns
  have C0 : gC p s m meth c _ cX7_row 6 RX7 D base Z := C0
  have hx := C0.1
  have hb := C0.2.1
  have hl := lv_entry ([.ref (base + 0), .int p1, .int p2, .int p3]) (n := 6) (Nat.le_of_ble_eq_true rfl)
  rw [lg_entry_eq]
  generalize (lg_sl ([.ref (base + 0), .int p1, .int p2, .int p3]) ++ List.replicate (6 - (lg_sl ([.ref (base + 0), .int p1, .int p2, .int p3])).length) Slot.unset).toArray = ls at hl ⊢
  have hl : lv_has ls 6 [(0, .ref (base + 0)), (1, .int p1), (2, .int p2), (3, .int p3)] := hl
  obtain ⟨Q, hQ⟩ : ∃ Q, Q = MQ below (gQi D base r u') ([.ref (base + 0), .int p1, .int p2, .int p3] : List Value).toArray s 0 0 (gF base) := ⟨_, rfl⟩
  rw [← hQ]
  change W p l e (gRm 3 0 0) s m _ below meth c _ _ _ _ _ _
  unfold f_X7_row at hf
  refine lv_aload_n hx hb dX7_row_0 rfl (lv_at hl 0 rfl) ?_
  refine lv_iload_n hx hb dX7_row_1 rfl (lv_at hl 1 rfl) ?_
  obtain ⟨r1, hc1, hf⟩ := pb_s hf
  refine g_doI0 hG (g_runV C0 hG (k_X7_isPerson l D base Z u p1 r1 hc1) m_X7_isPerson v_X7_isPerson w_378 (by decide) (g_recv C0 hG (L0 hG) rfl) rfl hl.1 rfl (Nat.le_of_ble_eq_true rfl) dX7_row_2 ⟨Nat.zero_le _, Nat.zero_le _⟩) (fun H locs hG hk => ?_)
  refine lv_if_eq (tgt := 16) hx hb dX7_row_5 (by decide) (fun c2 => ?_) (fun c2 => ?_)
  · have hf := gif_t c2 hf
    refine lv_iconst (v := (-1 : Int32)) hx hb dX7_row_16 (by decide) ?_
    obtain ⟨hr1, hu⟩ := gret_s hf
    subst hr1
    subst hu
    subst hQ
    exact g_iret C0 hG hr dX7_row_17
  · have hf := gif_f c2 hf
    refine lv_iload_n hx hb dX7_row_8 rfl (lv_at hl 2 rfl) ?_
    refine lv_iconst (v := (4 : Int32)) hx hb dX7_row_9 (by decide) ?_
    obtain ⟨r3, hc3, hf⟩ := pb_s hf
    refine g_doI0 hG (g_runS C0 hG (k_X7_isWithin l D base Z u p2 (4 : Int32) r3 hc3) m_X7_isWithin s_X7_isWithin w_364 (by decide) rfl hl.1 rfl (Nat.le_of_ble_eq_true rfl) dX7_row_10 ⟨Nat.zero_le _, Nat.zero_le _⟩) (fun H locs hG hk => ?_)
    refine lv_if_ne (tgt := 18) hx hb dX7_row_13 (by decide) (fun c4 => ?_) (fun c4 => ?_)
    · have hf := gif_f c4 hf
      refine lv_iload_n hx hb dX7_row_18 rfl (lv_at hl 3 rfl) ?_
      refine lv_bipush (v := (9 : Int32)) hx hb dX7_row_19 (by decide) ?_
      obtain ⟨r5, hc5, hf⟩ := pb_s hf
      refine g_doI0 hG (g_runS C0 hG (k_X7_isUpTo l D base Z u p3 (9 : Int32) r5 hc5) m_X7_isUpTo s_X7_isUpTo w_367 (by decide) rfl hl.1 rfl (Nat.le_of_ble_eq_true rfl) dX7_row_21 ⟨Nat.zero_le _, Nat.zero_le _⟩) (fun H locs hG hk => ?_)
      refine lv_if_ne (tgt := 30) hx hb dX7_row_24 (by decide) (fun c6 => ?_) (fun c6 => ?_)
      · have hf := gif_f c6 hf
        refine lv_aload_n hx hb dX7_row_30 rfl (lv_at hl 0 rfl) ?_
        refine g_getSa (o := 1) (a := 1) C0 hG (L0 hG) rfl 0 (by decide) rfl rfl w_329 dX7_row_31 ?_
        refine g_getSaN (o := 3) (a := 4) C0 hG (L1 hG) rfl 2 (by decide) rfl rfl w_159 dX7_row_34 ?_
        refine lv_iload_n hx hb dX7_row_37 rfl (lv_at hl 1 rfl) ?_
        obtain ⟨h7, hf⟩ := gin_s hf
        refine g_iald C0 hG (L4 hG) h7 dX7_row_38 ?_
        refine lv_bipush (v := (6 : Int32)) hx hb dX7_row_39 (by decide) ?_
        refine lv_icmp_eq (tgt := 47) hx hb dX7_row_41 (by decide) (fun c8 => ?_) (fun c8 => ?_)
        · have hf := gif_t c8 hf
          refine lv_iload_n hx hb dX7_row_47 rfl (lv_at hl 1 rfl) ?_
          refine lv_iconst (v := (4 : Int32)) hx hb dX7_row_48 (by decide) ?_
          refine lv_imul hx hb dX7_row_49 ?_
          refine lv_iload_n hx hb dX7_row_50 rfl (lv_at hl 2 rfl) ?_
          refine lv_iadd hx hb dX7_row_51 ?_
          refine lv_istore (lv' := [(4, .int ((p1 * (4 : Int32)) + p2)), (0, .ref (base + 0)), (1, .int p1), (2, .int p2), (3, .int p3)]) hx hb dX7_row_52 hl (by decide) rfl (fun ls hl => ?_)
          refine lv_aload_n hx hb dX7_row_54 rfl (lv_at hl 1 rfl) ?_
          refine g_getSa (o := 1) (a := 1) C0 hG (L0 hG) rfl 0 (by decide) rfl rfl w_329 dX7_row_55 ?_
          refine g_getSaN (o := 8) (a := 9) C0 hG (L1 hG) rfl 7 (by decide) rfl rfl w_169 dX7_row_58 ?_
          refine lv_iload hx hb dX7_row_61 (lv_at hl 0 rfl) ?_
          obtain ⟨h9, hf⟩ := gin_s hf
          refine g_iald C0 hG (L9 hG) h9 dX7_row_63 ?_
          refine lv_istore (lv' := [(5, .int (gA u 9 ((p1 * (4 : Int32)) + p2).toNatClampNeg)), (4, .int ((p1 * (4 : Int32)) + p2)), (0, .ref (base + 0)), (1, .int p1), (2, .int p2), (3, .int p3)]) hx hb dX7_row_64 hl (by decide) rfl (fun ls hl => ?_)
          refine lv_aload_n hx hb dX7_row_66 rfl (lv_at hl 2 rfl) ?_
          refine g_getSa (o := 1) (a := 1) C0 hG (L0 hG) rfl 0 (by decide) rfl rfl w_329 dX7_row_67 ?_
          refine g_getSaN (o := 8) (a := 9) C0 hG (L1 hG) rfl 7 (by decide) rfl rfl w_169 dX7_row_70 ?_
          refine lv_iload hx hb dX7_row_73 (lv_at hl 1 rfl) ?_
          refine lv_iload_n hx hb dX7_row_75 rfl (lv_at hl 5 rfl) ?_
          obtain ⟨h10, hf⟩ := gin_s hf
          refine g_iast C0 hG (L9 hG) h10 dX7_row_76 (fun H locs hG => ?_)
          refine lv_iload hx hb dX7_row_77 (lv_at hl 0 rfl) ?_
          obtain ⟨hr1, hu⟩ := gret_s hf
          subst hr1
          subst hu
          subst hQ
          exact g_iret C0 hG hr dX7_row_79
        · have hf := gif_f c8 hf
          refine lv_bipush (v := (-3 : Int32)) hx hb dX7_row_44 (by decide) ?_
          obtain ⟨hr1, hu⟩ := gret_s hf
          subst hr1
          subst hu
          subst hQ
          exact g_iret C0 hG hr dX7_row_46
      · have hf := gif_t c6 hf
        refine lv_bipush (v := (-2 : Int32)) hx hb dX7_row_27 (by decide) ?_
        obtain ⟨hr1, hu⟩ := gret_s hf
        subst hr1
        subst hu
        subst hQ
        exact g_iret C0 hG hr dX7_row_29
    · have hf := gif_t c4 hf
      refine lv_iconst (v := (-1 : Int32)) hx hb dX7_row_16 (by decide) ?_
      obtain ⟨hr1, hu⟩ := gret_s hf
      subst hr1
      subst hu
      subst hQ
      exact g_iret C0 hG hr dX7_row_17
theorem dX7_feed_0 : decode cX7_feed 0 = .ok (.iload_n 1, 1) := by decide +kernel
theorem dX7_feed_1 : decode cX7_feed 1 = .ok (.bipush 127, 2) := by decide +kernel
theorem dX7_feed_3 : decode cX7_feed 3 = .ok (.invokestatic 67, 3) := by decide +kernel
theorem dX7_feed_6 : decode cX7_feed 6 = .ok (.ifCond .ne 6, 3) := by decide +kernel
theorem dX7_feed_9 : decode cX7_feed 9 = .ok (.bipush (-2), 2) := by decide +kernel
theorem dX7_feed_11 : decode cX7_feed 11 = .ok (.ireturn, 1) := by decide +kernel
theorem dX7_feed_12 : decode cX7_feed 12 = .ok (.aload_n 0, 1) := by decide +kernel
theorem dX7_feed_13 : decode cX7_feed 13 = .ok (.getfield 41, 3) := by decide +kernel
theorem dX7_feed_16 : decode cX7_feed 16 = .ok (.iload_n 1, 1) := by decide +kernel
theorem dX7_feed_17 : decode cX7_feed 17 = .ok (.invokevirtual 122, 3) := by decide +kernel
theorem dX7_feed_20 : decode cX7_feed 20 = .ok (.ireturn, 1) := by decide +kernel
def f_X7_feed (p1 : Int32) (u : Mem) : Option (Int32 × Mem) := Option.bind (f_X7_isUpTo p1 (127 : Int32)) (fun r1 => (if r1 = 0 then some ((-2 : Int32), u) else obind (f_X3_write p1 u) (fun r3 u3 => some (r3, u3))))
set_option maxHeartbeats 4000000 in
set_option maxRecDepth 100000 in
theorem k_X7_feed (l : Launch) (D : gDt) (base : Nat) (Z : gZt) (u : Mem) (p1 : Int32) (r : Int32) (u' : Mem) (hf : f_X7_feed p1 u = some (r, u')) : Met l yX7_feed (gws yX7_feed cX7_feed 2 (some .int)) (gRm 2 0 0) (gPc D base Z u [.ref (base + 0), .int p1]) (gQi D base r u') 0 0 (gF base) := by
  refine Met.ofW (cc := cX7_feed) (maxL := 2) (ret := some .int) (by decide) rfl ?_
  intro p e s m args below meth c s₁ B hml hv
  obtain ⟨rfl, C0, hG⟩ := g_enter B hml hv
  have hr := B.returns
  have C0 : gC p s m meth c _ cX7_feed 2 RX7 D base Z := C0
  have hx := C0.1
  have hb := C0.2.1
  have hl := lv_entry ([.ref (base + 0), .int p1]) (n := 2) (Nat.le_of_ble_eq_true rfl)
  rw [lg_entry_eq]
  generalize (lg_sl ([.ref (base + 0), .int p1]) ++ List.replicate (2 - (lg_sl ([.ref (base + 0), .int p1])).length) Slot.unset).toArray = ls at hl ⊢
  have hl : lv_has ls 2 [(0, .ref (base + 0)), (1, .int p1)] := hl
  obtain ⟨Q, hQ⟩ : ∃ Q, Q = MQ below (gQi D base r u') ([.ref (base + 0), .int p1] : List Value).toArray s 0 0 (gF base) := ⟨_, rfl⟩
  rw [← hQ]
  change W p l e (gRm 2 0 0) s m _ below meth c _ _ _ _ _ _
  unfold f_X7_feed at hf
  refine lv_iload_n hx hb dX7_feed_0 rfl (lv_at hl 1 rfl) ?_
  refine lv_bipush (v := (127 : Int32)) hx hb dX7_feed_1 (by decide) ?_
  obtain ⟨r1, hc1, hf⟩ := pb_s hf
  refine g_doI0 hG (g_runS C0 hG (k_X7_isUpTo l D base Z u p1 (127 : Int32) r1 hc1) m_X7_isUpTo s_X7_isUpTo w_367 (by decide) rfl hl.1 rfl (Nat.le_of_ble_eq_true rfl) dX7_feed_3 ⟨Nat.zero_le _, Nat.zero_le _⟩) (fun H locs hG hk => ?_)
  refine lv_if_ne (tgt := 12) hx hb dX7_feed_6 (by decide) (fun c2 => ?_) (fun c2 => ?_)
  · have hf := gif_f c2 hf
    refine lv_aload_n hx hb dX7_feed_12 rfl (lv_at hl 0 rfl) ?_
    refine g_getSa (o := 63) (a := 63) C0 hG (L0 hG) rfl 6 (by decide) rfl rfl w_335 dX7_feed_13 ?_
    refine lv_iload_n hx hb dX7_feed_16 rfl (lv_at hl 1 rfl) ?_
    obtain ⟨r3, u3, hc3, hf⟩ := obind_s hf
    refine g_doI0 hG (g_runVN C0 hG (k_X3_write l D base Z u p1 r3 u3 hc3) m_X3_write v_X3_write w_443 (by decide) (g_recv C0 hG (L63 hG) rfl) rfl hl.1 rfl (Nat.le_of_ble_eq_true rfl) dX7_feed_17 ⟨Nat.zero_le _, Nat.zero_le _⟩) (fun H locs hG hk => ?_)
    obtain ⟨hr1, hu⟩ := gret_s hf
    subst hr1
    subst hu
    subst hQ
    exact g_iret C0 hG hr dX7_feed_20
  · have hf := gif_t c2 hf
    refine lv_bipush (v := (-2 : Int32)) hx hb dX7_feed_9 (by decide) ?_
    obtain ⟨hr1, hu⟩ := gret_s hf
    subst hr1
    subst hu
    subst hQ
    exact g_iret C0 hG hr dX7_feed_11
theorem dX7_branch_0 : decode cX7_branch 0 = .ok (.aload_n 0, 1) := by decide +kernel
theorem dX7_branch_1 : decode cX7_branch 1 = .ok (.getfield 45, 3) := by decide +kernel
theorem dX7_branch_4 : decode cX7_branch 4 = .ok (.bipush 6, 2) := by decide +kernel
theorem dX7_branch_6 : decode cX7_branch 6 = .ok (.if_icmp .lt 6, 3) := by decide +kernel
theorem dX7_branch_9 : decode cX7_branch 9 = .ok (.bipush (-4), 2) := by decide +kernel
theorem dX7_branch_11 : decode cX7_branch 11 = .ok (.ireturn, 1) := by decide +kernel
theorem dX7_branch_12 : decode cX7_branch 12 = .ok (.aload_n 0, 1) := by decide +kernel
theorem dX7_branch_13 : decode cX7_branch 13 = .ok (.getfield 41, 3) := by decide +kernel
theorem dX7_branch_16 : decode cX7_branch 16 = .ok (.invokevirtual 125, 3) := by decide +kernel
theorem dX7_branch_19 : decode cX7_branch 19 = .ok (.istore_n 1, 1) := by decide +kernel
theorem dX7_branch_20 : decode cX7_branch 20 = .ok (.aload_n 0, 1) := by decide +kernel
theorem dX7_branch_21 : decode cX7_branch 21 = .ok (.getfield 41, 3) := by decide +kernel
theorem dX7_branch_24 : decode cX7_branch 24 = .ok (.iconst 0, 1) := by decide +kernel
theorem dX7_branch_25 : decode cX7_branch 25 = .ok (.putfield 129, 3) := by decide +kernel
theorem dX7_branch_28 : decode cX7_branch 28 = .ok (.iload_n 1, 1) := by decide +kernel
theorem dX7_branch_29 : decode cX7_branch 29 = .ok (.ifCond .ne 14, 3) := by decide +kernel
theorem dX7_branch_32 : decode cX7_branch 32 = .ok (.bipush (-10), 2) := by decide +kernel
theorem dX7_branch_34 : decode cX7_branch 34 = .ok (.aload_n 0, 1) := by decide +kernel
theorem dX7_branch_35 : decode cX7_branch 35 = .ok (.getfield 41, 3) := by decide +kernel
theorem dX7_branch_38 : decode cX7_branch 38 = .ok (.getfield 132, 3) := by decide +kernel
theorem dX7_branch_41 : decode cX7_branch 41 = .ok (.isub, 1) := by decide +kernel
theorem dX7_branch_42 : decode cX7_branch 42 = .ok (.ireturn, 1) := by decide +kernel
theorem dX7_branch_43 : decode cX7_branch 43 = .ok (.aload_n 0, 1) := by decide +kernel
theorem dX7_branch_44 : decode cX7_branch 44 = .ok (.getfield 12, 3) := by decide +kernel
theorem dX7_branch_47 : decode cX7_branch 47 = .ok (.aload_n 0, 1) := by decide +kernel
theorem dX7_branch_48 : decode cX7_branch 48 = .ok (.getfield 41, 3) := by decide +kernel
theorem dX7_branch_51 : decode cX7_branch 51 = .ok (.invokevirtual 135, 3) := by decide +kernel
theorem dX7_branch_54 : decode cX7_branch 54 = .ok (.putfield 139, 3) := by decide +kernel
theorem dX7_branch_57 : decode cX7_branch 57 = .ok (.aload_n 0, 1) := by decide +kernel
theorem dX7_branch_58 : decode cX7_branch 58 = .ok (.dup, 1) := by decide +kernel
theorem dX7_branch_59 : decode cX7_branch 59 = .ok (.getfield 45, 3) := by decide +kernel
theorem dX7_branch_62 : decode cX7_branch 62 = .ok (.iconst 1, 1) := by decide +kernel
theorem dX7_branch_63 : decode cX7_branch 63 = .ok (.iadd, 1) := by decide +kernel
theorem dX7_branch_64 : decode cX7_branch 64 = .ok (.putfield 45, 3) := by decide +kernel
theorem dX7_branch_67 : decode cX7_branch 67 = .ok (.aload_n 0, 1) := by decide +kernel
theorem dX7_branch_68 : decode cX7_branch 68 = .ok (.getfield 45, 3) := by decide +kernel
theorem dX7_branch_71 : decode cX7_branch 71 = .ok (.iconst 1, 1) := by decide +kernel
theorem dX7_branch_72 : decode cX7_branch 72 = .ok (.isub, 1) := by decide +kernel
theorem dX7_branch_73 : decode cX7_branch 73 = .ok (.ireturn, 1) := by decide +kernel
def f_X7_branch (u : Mem) : Option (Int32 × Mem) := (if (gI u 0 7) < (6 : Int32) then obind (f_X3_readText u) (fun r2 u2 => (if r2 = 0 then some ((-10 : Int32) - (gI (sI u2 63 1 (0 : Int32)) 63 2), sI u2 63 1 (0 : Int32)) else obind (f_X3_handOver (sI u2 63 1 (0 : Int32))) (fun r4 u4 => some ((gI (sI (sR u4 1 13 r4) 0 7 ((gI (sR u4 1 13 r4) 0 7) + (1 : Int32))) 0 7) - (1 : Int32), sI (sR u4 1 13 r4) 0 7 ((gI (sR u4 1 13 r4) 0 7) + (1 : Int32)))))) else some ((-4 : Int32), u))
set_option maxHeartbeats 4000000 in
set_option maxRecDepth 100000 in
theorem k_X7_branch (l : Launch) (D : gDt) (base : Nat) (Z : gZt) (u : Mem) (r : Int32) (u' : Mem) (hf : f_X7_branch u = some (r, u')) : Met l yX7_branch (gws yX7_branch cX7_branch 2 (some .int)) (gRm 30 2 103) (gPc D base Z u [.ref (base + 0)]) (gQi D base r u') 2 103 (gF base) := by
  refine Met.ofW (cc := cX7_branch) (maxL := 2) (ret := some .int) (by decide) rfl ?_
  intro p e s m args below meth c s₁ B hml hv
  obtain ⟨rfl, C0, hG⟩ := g_enter B hml hv
  have hr := B.returns
  have C0 : gC p s m meth c _ cX7_branch 2 RX7 D base Z := C0
  have hx := C0.1
  have hb := C0.2.1
  have hl := lv_entry ([.ref (base + 0)]) (n := 2) (Nat.le_of_ble_eq_true rfl)
  rw [lg_entry_eq]
  generalize (lg_sl ([.ref (base + 0)]) ++ List.replicate (2 - (lg_sl ([.ref (base + 0)])).length) Slot.unset).toArray = ls at hl ⊢
  have hl : lv_has ls 2 [(0, .ref (base + 0))] := hl
  obtain ⟨Q, hQ⟩ : ∃ Q, Q = MQ below (gQi D base r u') ([.ref (base + 0)] : List Value).toArray s 2 103 (gF base) := ⟨_, rfl⟩
  rw [← hQ]
  change W p l e (gRm 30 2 103) s m _ below meth c _ _ _ _ _ _
  unfold f_X7_branch at hf
  refine lv_aload_n hx hb dX7_branch_0 rfl (lv_at hl 0 rfl) ?_
  refine g_getI C0 hG (L0 hG) rfl 7 (by decide) rfl w_336 dX7_branch_1 ?_
  refine lv_bipush (v := (6 : Int32)) hx hb dX7_branch_4 (by decide) ?_
  refine lv_icmp_lt (tgt := 12) hx hb dX7_branch_6 (by decide) (fun c1 => ?_) (fun c1 => ?_)
  · have hf := gif_t c1 hf
    refine lv_aload_n hx hb dX7_branch_12 rfl (lv_at hl 0 rfl) ?_
    refine g_getSa (o := 63) (a := 63) C0 hG (L0 hG) rfl 6 (by decide) rfl rfl w_335 dX7_branch_13 ?_
    obtain ⟨r2, u2, hc2, hf⟩ := obind_s hf
    refine g_doI0 hG (g_runVN C0 hG (k_X3_readText l D base Z u r2 u2 hc2) m_X3_readText v_X3_readText w_451 (by decide) (g_recv C0 hG (L63 hG) rfl) rfl hl.1 rfl (Nat.le_of_ble_eq_true rfl) dX7_branch_16 ⟨by decide, by decide⟩) (fun H locs hG hk => ?_)
    refine lv_istore_n (lv' := [(1, .int r2), (0, .ref (base + 0))]) hx hb dX7_branch_19 rfl hl (by decide) rfl (fun ls hl => ?_)
    refine lv_aload_n hx hb dX7_branch_20 rfl (lv_at hl 1 rfl) ?_
    refine g_getSa (o := 63) (a := 63) C0 hG (L0 hG) rfl 6 (by decide) rfl rfl w_335 dX7_branch_21 ?_
    refine lv_iconst (v := (0 : Int32)) hx hb dX7_branch_24 (by decide) ?_
    refine g_putIN (ty := .int) C0 hG (L63 hG) rfl 1 (by decide) rfl w_268 rfl (by decide) rfl rfl dX7_branch_25 (fun H locs hG => ?_)
    refine lv_iload_n hx hb dX7_branch_28 rfl (lv_at hl 0 rfl) ?_
    refine lv_if_ne (tgt := 43) hx hb dX7_branch_29 (by decide) (fun c3 => ?_) (fun c3 => ?_)
    · have hf := gif_f c3 hf
      refine lv_aload_n hx hb dX7_branch_43 rfl (lv_at hl 1 rfl) ?_
      refine g_getSa (o := 1) (a := 1) C0 hG (L0 hG) rfl 0 (by decide) rfl rfl w_329 dX7_branch_44 ?_
      refine lv_aload_n hx hb dX7_branch_47 rfl (lv_at hl 1 rfl) ?_
      refine g_getSa (o := 63) (a := 63) C0 hG (L0 hG) rfl 6 (by decide) rfl rfl w_335 dX7_branch_48 ?_
      obtain ⟨r4, u4, hc4, hf⟩ := obind_s hf
      refine g_doQ hG (g_runVN C0 hG (k_X3_handOver l D base Z (sI u2 63 1 (0 : Int32)) r4 u4 hc4) m_X3_handOver v_X3_handOver w_619 (by decide) (g_recv C0 hG (L63 hG) rfl) rfl hl.1 rfl (Nat.le_of_ble_eq_true rfl) dX7_branch_51 ⟨by decide, by decide⟩) (fun H locs hG hk => ?_)
      change W p l e (gRm 30 2 103) s m _ below meth c _ _ _ _ _ (F0 m _ ls (.ref (base + r4) :: _))
      refine g_putRN (ty := .object "GossipTrain$Branch") C0 hG (L1 hG) rfl 13 (by decide) rfl w_180 rfl (by decide) (fun _ => rfl) (fun _ => rfl) dX7_branch_54 (fun H locs hG => ?_)
      refine lv_aload_n hx hb dX7_branch_57 rfl (lv_at hl 1 rfl) ?_
      refine lv_dup hx hb dX7_branch_58 rfl ?_
      refine g_getI C0 hG (L0 hG) rfl 7 (by decide) rfl w_336 dX7_branch_59 ?_
      refine lv_iconst (v := (1 : Int32)) hx hb dX7_branch_62 (by decide) ?_
      refine lv_iadd hx hb dX7_branch_63 ?_
      refine g_putI (ty := .int) C0 hG (L0 hG) rfl 7 (by decide) rfl w_336 rfl (by decide) rfl rfl dX7_branch_64 (fun H locs hG => ?_)
      refine lv_aload_n hx hb dX7_branch_67 rfl (lv_at hl 1 rfl) ?_
      refine g_getI C0 hG (L0 hG) rfl 7 (by decide) rfl w_336 dX7_branch_68 ?_
      refine lv_iconst (v := (1 : Int32)) hx hb dX7_branch_71 (by decide) ?_
      refine lv_isub hx hb dX7_branch_72 ?_
      obtain ⟨hr1, hu⟩ := gret_s hf
      subst hr1
      subst hu
      subst hQ
      refine W.widen (k := 2) (n := 103) (by decide) (by decide) ?_
      exact g_iret C0 hG hr dX7_branch_73
    · have hf := gif_t c3 hf
      refine lv_bipush (v := (-10 : Int32)) hx hb dX7_branch_32 (by decide) ?_
      refine lv_aload_n hx hb dX7_branch_34 rfl (lv_at hl 1 rfl) ?_
      refine g_getSa (o := 63) (a := 63) C0 hG (L0 hG) rfl 6 (by decide) rfl rfl w_335 dX7_branch_35 ?_
      refine g_getIN C0 hG (L63 hG) rfl 2 (by decide) rfl w_270 dX7_branch_38 ?_
      refine lv_isub hx hb dX7_branch_41 ?_
      obtain ⟨hr1, hu⟩ := gret_s hf
      subst hr1
      subst hu
      subst hQ
      refine W.widen (k := 2) (n := 103) (by decide) (by decide) ?_
      exact g_iret C0 hG hr dX7_branch_42
  · have hf := gif_f c1 hf
    refine lv_bipush (v := (-4 : Int32)) hx hb dX7_branch_9 (by decide) ?_
    obtain ⟨hr1, hu⟩ := gret_s hf
    subst hr1
    subst hu
    subst hQ
    refine W.widen (k := 2) (n := 103) (by decide) (by decide) ?_
    exact g_iret C0 hG hr dX7_branch_11
theorem dX7_told_0 : decode cX7_told 0 = .ok (.iload_n 1, 1) := by decide +kernel
theorem dX7_told_1 : decode cX7_told 1 = .ok (.tableswitch 78 0 4 #[35, 43, 54, 62, 70], 35) := by decide +kernel
theorem dX7_told_36 : decode cX7_told 36 = .ok (.aload_n 0, 1) := by decide +kernel
theorem dX7_told_37 : decode cX7_told 37 = .ok (.getfield 12, 3) := by decide +kernel
theorem dX7_told_40 : decode cX7_told 40 = .ok (.getfield 143, 3) := by decide +kernel
theorem dX7_told_43 : decode cX7_told 43 = .ok (.ireturn, 1) := by decide +kernel
theorem dX7_told_44 : decode cX7_told 44 = .ok (.aload_n 0, 1) := by decide +kernel
theorem dX7_told_45 : decode cX7_told 45 = .ok (.getfield 12, 3) := by decide +kernel
theorem dX7_told_48 : decode cX7_told 48 = .ok (.getfield 139, 3) := by decide +kernel
theorem dX7_told_51 : decode cX7_told 51 = .ok (.getfield 146, 3) := by decide +kernel
theorem dX7_told_54 : decode cX7_told 54 = .ok (.ireturn, 1) := by decide +kernel
theorem dX7_told_55 : decode cX7_told 55 = .ok (.aload_n 0, 1) := by decide +kernel
theorem dX7_told_56 : decode cX7_told 56 = .ok (.getfield 12, 3) := by decide +kernel
theorem dX7_told_59 : decode cX7_told 59 = .ok (.getfield 151, 3) := by decide +kernel
theorem dX7_told_62 : decode cX7_told 62 = .ok (.ireturn, 1) := by decide +kernel
theorem dX7_told_63 : decode cX7_told 63 = .ok (.aload_n 0, 1) := by decide +kernel
theorem dX7_told_64 : decode cX7_told 64 = .ok (.getfield 12, 3) := by decide +kernel
theorem dX7_told_67 : decode cX7_told 67 = .ok (.getfield 154, 3) := by decide +kernel
theorem dX7_told_70 : decode cX7_told 70 = .ok (.ireturn, 1) := by decide +kernel
theorem dX7_told_71 : decode cX7_told 71 = .ok (.aload_n 0, 1) := by decide +kernel
theorem dX7_told_72 : decode cX7_told 72 = .ok (.getfield 12, 3) := by decide +kernel
theorem dX7_told_75 : decode cX7_told 75 = .ok (.invokevirtual 157, 3) := by decide +kernel
theorem dX7_told_78 : decode cX7_told 78 = .ok (.ireturn, 1) := by decide +kernel
theorem dX7_told_79 : decode cX7_told 79 = .ok (.iload_n 1, 1) := by decide +kernel
theorem dX7_told_80 : decode cX7_told 80 = .ok (.iconst 1, 1) := by decide +kernel
theorem dX7_told_81 : decode cX7_told 81 = .ok (.invokestatic 103, 3) := by decide +kernel
theorem dX7_told_84 : decode cX7_told 84 = .ok (.invokestatic 107, 3) := by decide +kernel
theorem dX7_told_87 : decode cX7_told 87 = .ok (.ifCond .eq 17, 3) := by decide +kernel
theorem dX7_told_90 : decode cX7_told 90 = .ok (.aload_n 0, 1) := by decide +kernel
theorem dX7_told_91 : decode cX7_told 91 = .ok (.getfield 12, 3) := by decide +kernel
theorem dX7_told_94 : decode cX7_told 94 = .ok (.getfield 113, 3) := by decide +kernel
theorem dX7_told_97 : decode cX7_told 97 = .ok (.iload_n 1, 1) := by decide +kernel
theorem dX7_told_98 : decode cX7_told 98 = .ok (.iconst 1, 1) := by decide +kernel
theorem dX7_told_99 : decode cX7_told 99 = .ok (.invokestatic 103, 3) := by decide +kernel
theorem dX7_told_102 : decode cX7_told 102 = .ok (.iaload, 1) := by decide +kernel
theorem dX7_told_103 : decode cX7_told 103 = .ok (.ireturn, 1) := by decide +kernel
theorem dX7_told_104 : decode cX7_told 104 = .ok (.iload_n 1, 1) := by decide +kernel
theorem dX7_told_105 : decode cX7_told 105 = .ok (.iconst 2, 1) := by decide +kernel
theorem dX7_told_106 : decode cX7_told 106 = .ok (.invokestatic 103, 3) := by decide +kernel
theorem dX7_told_109 : decode cX7_told 109 = .ok (.invokestatic 107, 3) := by decide +kernel
theorem dX7_told_112 : decode cX7_told 112 = .ok (.ifCond .eq 17, 3) := by decide +kernel
theorem dX7_told_115 : decode cX7_told 115 = .ok (.aload_n 0, 1) := by decide +kernel
theorem dX7_told_116 : decode cX7_told 116 = .ok (.getfield 12, 3) := by decide +kernel
theorem dX7_told_119 : decode cX7_told 119 = .ok (.getfield 116, 3) := by decide +kernel
theorem dX7_told_122 : decode cX7_told 122 = .ok (.iload_n 1, 1) := by decide +kernel
theorem dX7_told_123 : decode cX7_told 123 = .ok (.iconst 2, 1) := by decide +kernel
theorem dX7_told_124 : decode cX7_told 124 = .ok (.invokestatic 103, 3) := by decide +kernel
theorem dX7_told_127 : decode cX7_told 127 = .ok (.iaload, 1) := by decide +kernel
theorem dX7_told_128 : decode cX7_told 128 = .ok (.ireturn, 1) := by decide +kernel
theorem dX7_told_129 : decode cX7_told 129 = .ok (.iload_n 1, 1) := by decide +kernel
theorem dX7_told_130 : decode cX7_told 130 = .ok (.iconst 3, 1) := by decide +kernel
theorem dX7_told_131 : decode cX7_told 131 = .ok (.invokestatic 103, 3) := by decide +kernel
theorem dX7_told_134 : decode cX7_told 134 = .ok (.invokestatic 107, 3) := by decide +kernel
theorem dX7_told_137 : decode cX7_told 137 = .ok (.ifCond .eq 18, 3) := by decide +kernel
theorem dX7_told_140 : decode cX7_told 140 = .ok (.aload_n 0, 1) := by decide +kernel
theorem dX7_told_141 : decode cX7_told 141 = .ok (.getfield 12, 3) := by decide +kernel
theorem dX7_told_144 : decode cX7_told 144 = .ok (.iload_n 1, 1) := by decide +kernel
theorem dX7_told_145 : decode cX7_told 145 = .ok (.iconst 3, 1) := by decide +kernel
theorem dX7_told_146 : decode cX7_told 146 = .ok (.invokestatic 103, 3) := by decide +kernel
theorem dX7_told_149 : decode cX7_told 149 = .ok (.invokevirtual 161, 3) := by decide +kernel
theorem dX7_told_152 : decode cX7_told 152 = .ok (.goto 4, 3) := by decide +kernel
theorem dX7_told_155 : decode cX7_told 155 = .ok (.iconst (-1), 1) := by decide +kernel
theorem dX7_told_156 : decode cX7_told 156 = .ok (.ireturn, 1) := by decide +kernel
def f_X7_told (p1 : Int32) (u : Mem) : Option (Int32 × Mem) := (if p1 = (0 : Int32) then some (gI u 1 12, u) else (if p1 = (1 : Int32) then gob u.1 (gR u 1 13) l0 (some (gI u (gR u 1 13) 2, u)) else (if p1 = (2 : Int32) then some (gI u 1 10, u) else (if p1 = (3 : Int32) then some (gI u 1 11, u) else (if p1 = (4 : Int32) then obind (f_X6_ash 1 u) (fun r7 u7 => some (r7, u7)) else Option.bind (f_X7_tenLess p1 (1 : Int32)) (fun r8 => Option.bind (f_X7_isTale r8) (fun r9 => (if r9 = 0 then Option.bind (f_X7_tenLess p1 (2 : Int32)) (fun r11 => Option.bind (f_X7_isTale r11) (fun r12 => (if r12 = 0 then Option.bind (f_X7_tenLess p1 (3 : Int32)) (fun r14 => Option.bind (f_X7_isTale r14) (fun r15 => (if r15 = 0 then some ((-1 : Int32), u) else Option.bind (f_X7_tenLess p1 (3 : Int32)) (fun r17 => Option.bind (f_X6_spread 1 r17 u) (fun r18 => some (r18, u)))))) else Option.bind (f_X7_tenLess p1 (2 : Int32)) (fun r19 => gin r19 8 (some (gA u 3 r19.toNatClampNeg, u)))))) else Option.bind (f_X7_tenLess p1 (1 : Int32)) (fun r21 => gin r21 8 (some (gA u 2 r21.toNatClampNeg, u)))))))))))
set_option maxHeartbeats 4000000 in
set_option maxRecDepth 100000 in
theorem k_X7_told (l : Launch) (D : gDt) (base : Nat) (Z : gZt) (u : Mem) (p1 : Int32) (r : Int32) (u' : Mem) (hf : f_X7_told p1 u = some (r, u')) : Met l yX7_told (gws yX7_told cX7_told 2 (some .int)) (gRm 6 0 0) (gPc D base Z u [.ref (base + 0), .int p1]) (gQi D base r u') 0 0 (gF base) := by
  refine Met.ofW (cc := cX7_told) (maxL := 2) (ret := some .int) (by decide) rfl ?_
  intro p e s m args below meth c s₁ B hml hv
  obtain ⟨rfl, C0, hG⟩ := g_enter B hml hv
  have hr := B.returns
  have C0 : gC p s m meth c _ cX7_told 2 RX7 D base Z := C0
  have hx := C0.1
  have hb := C0.2.1
  have hl := lv_entry ([.ref (base + 0), .int p1]) (n := 2) (Nat.le_of_ble_eq_true rfl)
  rw [lg_entry_eq]
  generalize (lg_sl ([.ref (base + 0), .int p1]) ++ List.replicate (2 - (lg_sl ([.ref (base + 0), .int p1])).length) Slot.unset).toArray = ls at hl ⊢
  have hl : lv_has ls 2 [(0, .ref (base + 0)), (1, .int p1)] := hl
  obtain ⟨Q, hQ⟩ : ∃ Q, Q = MQ below (gQi D base r u') ([.ref (base + 0), .int p1] : List Value).toArray s 0 0 (gF base) := ⟨_, rfl⟩
  rw [← hQ]
  change W p l e (gRm 6 0 0) s m _ below meth c _ _ _ _ _ _
  unfold f_X7_told at hf
  refine lv_iload_n hx hb dX7_told_0 rfl (lv_at hl 1 rfl) ?_
  refine (Decidable.em (p1 = (0 : Int32))).elim (fun c1 => ?_) (fun c1 => ?_)
  · have hf := gif_t c1 hf
    refine lv_tableIn (off := 35) (tgt := 36) hx hb dX7_told_1 (by rw [c1]; decide) (by rw [c1]; decide) (by rw [c1]; rfl) (by decide) ?_
    refine lv_aload_n hx hb dX7_told_36 rfl (lv_at hl 0 rfl) ?_
    refine g_getSa (o := 1) (a := 1) C0 hG (L0 hG) rfl 0 (by decide) rfl rfl w_329 dX7_told_37 ?_
    refine g_getIN C0 hG (L1 hG) rfl 12 (by decide) rfl w_178 dX7_told_40 ?_
    obtain ⟨hr1, hu⟩ := gret_s hf
    subst hr1
    subst hu
    subst hQ
    exact g_iret C0 hG hr dX7_told_43
  · have hf := gif_f c1 hf
    refine (Decidable.em (p1 = (1 : Int32))).elim (fun c2 => ?_) (fun c2 => ?_)
    · have hf := gif_t c2 hf
      refine lv_tableIn (off := 43) (tgt := 44) hx hb dX7_told_1 (by rw [c2]; decide) (by rw [c2]; decide) (by rw [c2]; rfl) (by decide) ?_
      refine lv_aload_n hx hb dX7_told_44 rfl (lv_at hl 0 rfl) ?_
      refine g_getSa (o := 1) (a := 1) C0 hG (L0 hG) rfl 0 (by decide) rfl rfl w_329 dX7_told_45 ?_
      refine g_getDN C0 hG (L1 hG) rfl 13 (by decide) rfl w_180 dX7_told_48 ?_
      obtain ⟨ho3, hf⟩ := gob_s hf
      have hb3 := Nat.le_refl u.1
      refine g_getIN C0 hG (D0_0 ho3 hb3) rfl 2 (by decide) rfl w_143 dX7_told_51 ?_
      obtain ⟨hr1, hu⟩ := gret_s hf
      subst hr1
      subst hu
      subst hQ
      exact g_iret C0 hG hr dX7_told_54
    · have hf := gif_f c2 hf
      refine (Decidable.em (p1 = (2 : Int32))).elim (fun c4 => ?_) (fun c4 => ?_)
      · have hf := gif_t c4 hf
        refine lv_tableIn (off := 54) (tgt := 55) hx hb dX7_told_1 (by rw [c4]; decide) (by rw [c4]; decide) (by rw [c4]; rfl) (by decide) ?_
        refine lv_aload_n hx hb dX7_told_55 rfl (lv_at hl 0 rfl) ?_
        refine g_getSa (o := 1) (a := 1) C0 hG (L0 hG) rfl 0 (by decide) rfl rfl w_329 dX7_told_56 ?_
        refine g_getIN C0 hG (L1 hG) rfl 10 (by decide) rfl w_174 dX7_told_59 ?_
        obtain ⟨hr1, hu⟩ := gret_s hf
        subst hr1
        subst hu
        subst hQ
        exact g_iret C0 hG hr dX7_told_62
      · have hf := gif_f c4 hf
        refine (Decidable.em (p1 = (3 : Int32))).elim (fun c5 => ?_) (fun c5 => ?_)
        · have hf := gif_t c5 hf
          refine lv_tableIn (off := 62) (tgt := 63) hx hb dX7_told_1 (by rw [c5]; decide) (by rw [c5]; decide) (by rw [c5]; rfl) (by decide) ?_
          refine lv_aload_n hx hb dX7_told_63 rfl (lv_at hl 0 rfl) ?_
          refine g_getSa (o := 1) (a := 1) C0 hG (L0 hG) rfl 0 (by decide) rfl rfl w_329 dX7_told_64 ?_
          refine g_getIN C0 hG (L1 hG) rfl 11 (by decide) rfl w_176 dX7_told_67 ?_
          obtain ⟨hr1, hu⟩ := gret_s hf
          subst hr1
          subst hu
          subst hQ
          exact g_iret C0 hG hr dX7_told_70
        · have hf := gif_f c5 hf
          refine (Decidable.em (p1 = (4 : Int32))).elim (fun c6 => ?_) (fun c6 => ?_)
          · have hf := gif_t c6 hf
            refine lv_tableIn (off := 70) (tgt := 71) hx hb dX7_told_1 (by rw [c6]; decide) (by rw [c6]; decide) (by rw [c6]; rfl) (by decide) ?_
            refine lv_aload_n hx hb dX7_told_71 rfl (lv_at hl 0 rfl) ?_
            refine g_getSa (o := 1) (a := 1) C0 hG (L0 hG) rfl 0 (by decide) rfl rfl w_329 dX7_told_72 ?_
            obtain ⟨r7, u7, hc7, hf⟩ := obind_s hf
            refine g_doI0 hG (g_runVN C0 hG (k_X6_ash l D base Z u 1 r7 u7 O1 hc7) m_X6_ash v_X6_ash w_628 (by decide) (g_recv C0 hG (L1 hG) rfl) rfl hl.1 rfl (Nat.le_of_ble_eq_true rfl) dX7_told_75 ⟨Nat.zero_le _, Nat.zero_le _⟩) (fun H locs hG hk => ?_)
            obtain ⟨hr1, hu⟩ := gret_s hf
            subst hr1
            subst hu
            subst hQ
            exact g_iret C0 hG hr dX7_told_78
          · have hf := gif_f c6 hf
            refine lv_tableOut (tgt := 79) hx hb dX7_told_1 (by
                have n0 := lv_neT c1 (k := (0 : Int32)) (a := 0) (by decide)
                have n1 := lv_neT c2 (k := (1 : Int32)) (a := 1) (by decide)
                have n2 := lv_neT c4 (k := (2 : Int32)) (a := 2) (by decide)
                have n3 := lv_neT c5 (k := (3 : Int32)) (a := 3) (by decide)
                have n4 := lv_neT c6 (k := (4 : Int32)) (a := 4) (by decide)
                omega) (by decide) ?_
            refine lv_iload_n hx hb dX7_told_79 rfl (lv_at hl 1 rfl) ?_
            refine lv_iconst (v := (1 : Int32)) hx hb dX7_told_80 (by decide) ?_
            obtain ⟨r8, hc8, hf⟩ := pb_s hf
            refine g_doI0 hG (g_runS C0 hG (k_X7_tenLess l D base Z u p1 (1 : Int32) r8 hc8) m_X7_tenLess s_X7_tenLess w_412 (by decide) rfl hl.1 rfl (Nat.le_of_ble_eq_true rfl) dX7_told_81 ⟨Nat.zero_le _, Nat.zero_le _⟩) (fun H locs hG hk => ?_)
            obtain ⟨r9, hc9, hf⟩ := pb_s hf
            refine g_doI0 hG (g_runS C0 hG (k_X7_isTale l D base Z u r8 r9 hc9) m_X7_isTale s_X7_isTale w_415 (by decide) rfl hl.1 rfl (Nat.le_of_ble_eq_true rfl) dX7_told_84 ⟨Nat.zero_le _, Nat.zero_le _⟩) (fun H locs hG hk => ?_)
            refine lv_if_eq (tgt := 104) hx hb dX7_told_87 (by decide) (fun c10 => ?_) (fun c10 => ?_)
            · have hf := gif_t c10 hf
              refine lv_iload_n hx hb dX7_told_104 rfl (lv_at hl 1 rfl) ?_
              refine lv_iconst (v := (2 : Int32)) hx hb dX7_told_105 (by decide) ?_
              obtain ⟨r11, hc11, hf⟩ := pb_s hf
              refine g_doI0 hG (g_runS C0 hG (k_X7_tenLess l D base Z u p1 (2 : Int32) r11 hc11) m_X7_tenLess s_X7_tenLess w_412 (by decide) rfl hl.1 rfl (Nat.le_of_ble_eq_true rfl) dX7_told_106 ⟨Nat.zero_le _, Nat.zero_le _⟩) (fun H locs hG hk => ?_)
              obtain ⟨r12, hc12, hf⟩ := pb_s hf
              refine g_doI0 hG (g_runS C0 hG (k_X7_isTale l D base Z u r11 r12 hc12) m_X7_isTale s_X7_isTale w_415 (by decide) rfl hl.1 rfl (Nat.le_of_ble_eq_true rfl) dX7_told_109 ⟨Nat.zero_le _, Nat.zero_le _⟩) (fun H locs hG hk => ?_)
              refine lv_if_eq (tgt := 129) hx hb dX7_told_112 (by decide) (fun c13 => ?_) (fun c13 => ?_)
              · have hf := gif_t c13 hf
                refine lv_iload_n hx hb dX7_told_129 rfl (lv_at hl 1 rfl) ?_
                refine lv_iconst (v := (3 : Int32)) hx hb dX7_told_130 (by decide) ?_
                obtain ⟨r14, hc14, hf⟩ := pb_s hf
                refine g_doI0 hG (g_runS C0 hG (k_X7_tenLess l D base Z u p1 (3 : Int32) r14 hc14) m_X7_tenLess s_X7_tenLess w_412 (by decide) rfl hl.1 rfl (Nat.le_of_ble_eq_true rfl) dX7_told_131 ⟨Nat.zero_le _, Nat.zero_le _⟩) (fun H locs hG hk => ?_)
                obtain ⟨r15, hc15, hf⟩ := pb_s hf
                refine g_doI0 hG (g_runS C0 hG (k_X7_isTale l D base Z u r14 r15 hc15) m_X7_isTale s_X7_isTale w_415 (by decide) rfl hl.1 rfl (Nat.le_of_ble_eq_true rfl) dX7_told_134 ⟨Nat.zero_le _, Nat.zero_le _⟩) (fun H locs hG hk => ?_)
                refine lv_if_eq (tgt := 155) hx hb dX7_told_137 (by decide) (fun c16 => ?_) (fun c16 => ?_)
                · have hf := gif_t c16 hf
                  refine lv_iconst (v := (-1 : Int32)) hx hb dX7_told_155 (by decide) ?_
                  obtain ⟨hr1, hu⟩ := gret_s hf
                  subst hr1
                  subst hu
                  subst hQ
                  exact g_iret C0 hG hr dX7_told_156
                · have hf := gif_f c16 hf
                  refine lv_aload_n hx hb dX7_told_140 rfl (lv_at hl 0 rfl) ?_
                  refine g_getSa (o := 1) (a := 1) C0 hG (L0 hG) rfl 0 (by decide) rfl rfl w_329 dX7_told_141 ?_
                  refine lv_iload_n hx hb dX7_told_144 rfl (lv_at hl 1 rfl) ?_
                  refine lv_iconst (v := (3 : Int32)) hx hb dX7_told_145 (by decide) ?_
                  obtain ⟨r17, hc17, hf⟩ := pb_s hf
                  refine g_doI0 hG (g_runS C0 hG (k_X7_tenLess l D base Z u p1 (3 : Int32) r17 hc17) m_X7_tenLess s_X7_tenLess w_412 (by decide) rfl hl.1 rfl (Nat.le_of_ble_eq_true rfl) dX7_told_146 ⟨Nat.zero_le _, Nat.zero_le _⟩) (fun H locs hG hk => ?_)
                  obtain ⟨r18, hc18, hf⟩ := pb_s hf
                  refine g_doI0 hG (g_runVN C0 hG (k_X6_spread l D base Z u 1 r17 r18 O1 hc18) m_X6_spread v_X6_spread w_632 (by decide) (g_recv C0 hG (L1 hG) rfl) rfl hl.1 rfl (Nat.le_of_ble_eq_true rfl) dX7_told_149 ⟨Nat.zero_le _, Nat.zero_le _⟩) (fun H locs hG hk => ?_)
                  refine lv_goto (tgt := 156) hx hb dX7_told_152 (by decide) ?_
                  obtain ⟨hr1, hu⟩ := gret_s hf
                  subst hr1
                  subst hu
                  subst hQ
                  exact g_iret C0 hG hr dX7_told_156
              · have hf := gif_f c13 hf
                refine lv_aload_n hx hb dX7_told_115 rfl (lv_at hl 0 rfl) ?_
                refine g_getSa (o := 1) (a := 1) C0 hG (L0 hG) rfl 0 (by decide) rfl rfl w_329 dX7_told_116 ?_
                refine g_getSaN (o := 2) (a := 3) C0 hG (L1 hG) rfl 1 (by decide) rfl rfl w_157 dX7_told_119 ?_
                refine lv_iload_n hx hb dX7_told_122 rfl (lv_at hl 1 rfl) ?_
                refine lv_iconst (v := (2 : Int32)) hx hb dX7_told_123 (by decide) ?_
                obtain ⟨r19, hc19, hf⟩ := pb_s hf
                refine g_doI0 hG (g_runS C0 hG (k_X7_tenLess l D base Z u p1 (2 : Int32) r19 hc19) m_X7_tenLess s_X7_tenLess w_412 (by decide) rfl hl.1 rfl (Nat.le_of_ble_eq_true rfl) dX7_told_124 ⟨Nat.zero_le _, Nat.zero_le _⟩) (fun H locs hG hk => ?_)
                obtain ⟨h20, hf⟩ := gin_s hf
                refine g_iald C0 hG (L3 hG) h20 dX7_told_127 ?_
                obtain ⟨hr1, hu⟩ := gret_s hf
                subst hr1
                subst hu
                subst hQ
                exact g_iret C0 hG hr dX7_told_128
            · have hf := gif_f c10 hf
              refine lv_aload_n hx hb dX7_told_90 rfl (lv_at hl 0 rfl) ?_
              refine g_getSa (o := 1) (a := 1) C0 hG (L0 hG) rfl 0 (by decide) rfl rfl w_329 dX7_told_91 ?_
              refine g_getSaN (o := 1) (a := 2) C0 hG (L1 hG) rfl 0 (by decide) rfl rfl w_155 dX7_told_94 ?_
              refine lv_iload_n hx hb dX7_told_97 rfl (lv_at hl 1 rfl) ?_
              refine lv_iconst (v := (1 : Int32)) hx hb dX7_told_98 (by decide) ?_
              obtain ⟨r21, hc21, hf⟩ := pb_s hf
              refine g_doI0 hG (g_runS C0 hG (k_X7_tenLess l D base Z u p1 (1 : Int32) r21 hc21) m_X7_tenLess s_X7_tenLess w_412 (by decide) rfl hl.1 rfl (Nat.le_of_ble_eq_true rfl) dX7_told_99 ⟨Nat.zero_le _, Nat.zero_le _⟩) (fun H locs hG hk => ?_)
              obtain ⟨h22, hf⟩ := gin_s hf
              refine g_iald C0 hG (L2 hG) h22 dX7_told_102 ?_
              obtain ⟨hr1, hu⟩ := gret_s hf
              subst hr1
              subst hu
              subst hQ
              exact g_iret C0 hG hr dX7_told_103
theorem dX7_pass_0 : decode cX7_pass 0 = .ok (.iload_n 1, 1) := by decide +kernel
theorem dX7_pass_1 : decode cX7_pass 1 = .ok (.bipush 30, 2) := by decide +kernel
theorem dX7_pass_3 : decode cX7_pass 3 = .ok (.invokestatic 67, 3) := by decide +kernel
theorem dX7_pass_6 : decode cX7_pass 6 = .ok (.ifCond .ne 6, 3) := by decide +kernel
theorem dX7_pass_9 : decode cX7_pass 9 = .ok (.bipush (-2), 2) := by decide +kernel
theorem dX7_pass_11 : decode cX7_pass 11 = .ok (.ireturn, 1) := by decide +kernel
theorem dX7_pass_12 : decode cX7_pass 12 = .ok (.aload_n 0, 1) := by decide +kernel
theorem dX7_pass_13 : decode cX7_pass 13 = .ok (.getfield 12, 3) := by decide +kernel
theorem dX7_pass_16 : decode cX7_pass 16 = .ok (.getfield 143, 3) := by decide +kernel
theorem dX7_pass_19 : decode cX7_pass 19 = .ok (.iload_n 1, 1) := by decide +kernel
theorem dX7_pass_20 : decode cX7_pass 20 = .ok (.iadd, 1) := by decide +kernel
theorem dX7_pass_21 : decode cX7_pass 21 = .ok (.sipush 9999, 3) := by decide +kernel
theorem dX7_pass_24 : decode cX7_pass 24 = .ok (.if_icmp .le 6, 3) := by decide +kernel
theorem dX7_pass_27 : decode cX7_pass 27 = .ok (.bipush (-3), 2) := by decide +kernel
theorem dX7_pass_29 : decode cX7_pass 29 = .ok (.ireturn, 1) := by decide +kernel
theorem dX7_pass_30 : decode cX7_pass 30 = .ok (.aload_n 0, 1) := by decide +kernel
theorem dX7_pass_31 : decode cX7_pass 31 = .ok (.getfield 12, 3) := by decide +kernel
theorem dX7_pass_34 : decode cX7_pass 34 = .ok (.iload_n 1, 1) := by decide +kernel
theorem dX7_pass_35 : decode cX7_pass 35 = .ok (.invokevirtual 164, 3) := by decide +kernel
theorem dX7_pass_38 : decode cX7_pass 38 = .ok (.aload_n 0, 1) := by decide +kernel
theorem dX7_pass_39 : decode cX7_pass 39 = .ok (.getfield 12, 3) := by decide +kernel
theorem dX7_pass_42 : decode cX7_pass 42 = .ok (.getfield 143, 3) := by decide +kernel
theorem dX7_pass_45 : decode cX7_pass 45 = .ok (.ireturn, 1) := by decide +kernel
def f_X7_pass (p1 : Int32) (u : Mem) : Option (Int32 × Mem) := Option.bind (f_X7_isUpTo p1 (30 : Int32)) (fun r1 => (if r1 = 0 then some ((-2 : Int32), u) else (if ((gI u 1 12) + p1) ≤ (9999 : Int32) then obind (f_X6_ride 1 p1 u) (fun _ u4 => some (gI u4 1 12, u4)) else some ((-3 : Int32), u))))
set_option maxHeartbeats 4000000 in
set_option maxRecDepth 100000 in
theorem k_X7_pass (l : Launch) (D : gDt) (base : Nat) (Z : gZt) (u : Mem) (p1 : Int32) (r : Int32) (u' : Mem) (hf : f_X7_pass p1 u = some (r, u')) : Met l yX7_pass (gws yX7_pass cX7_pass 2 (some .int)) (gRm 7 0 0) (gPc D base Z u [.ref (base + 0), .int p1]) (gQi D base r u') 0 0 (gF base) := by
  refine Met.ofW (cc := cX7_pass) (maxL := 2) (ret := some .int) (by decide) rfl ?_
  intro p e s m args below meth c s₁ B hml hv
  obtain ⟨rfl, C0, hG⟩ := g_enter B hml hv
  have hr := B.returns
  have C0 : gC p s m meth c _ cX7_pass 2 RX7 D base Z := C0
  have hx := C0.1
  have hb := C0.2.1
  have hl := lv_entry ([.ref (base + 0), .int p1]) (n := 2) (Nat.le_of_ble_eq_true rfl)
  rw [lg_entry_eq]
  generalize (lg_sl ([.ref (base + 0), .int p1]) ++ List.replicate (2 - (lg_sl ([.ref (base + 0), .int p1])).length) Slot.unset).toArray = ls at hl ⊢
  have hl : lv_has ls 2 [(0, .ref (base + 0)), (1, .int p1)] := hl
  obtain ⟨Q, hQ⟩ : ∃ Q, Q = MQ below (gQi D base r u') ([.ref (base + 0), .int p1] : List Value).toArray s 0 0 (gF base) := ⟨_, rfl⟩
  rw [← hQ]
  change W p l e (gRm 7 0 0) s m _ below meth c _ _ _ _ _ _
  unfold f_X7_pass at hf
  refine lv_iload_n hx hb dX7_pass_0 rfl (lv_at hl 1 rfl) ?_
  refine lv_bipush (v := (30 : Int32)) hx hb dX7_pass_1 (by decide) ?_
  obtain ⟨r1, hc1, hf⟩ := pb_s hf
  refine g_doI0 hG (g_runS C0 hG (k_X7_isUpTo l D base Z u p1 (30 : Int32) r1 hc1) m_X7_isUpTo s_X7_isUpTo w_367 (by decide) rfl hl.1 rfl (Nat.le_of_ble_eq_true rfl) dX7_pass_3 ⟨Nat.zero_le _, Nat.zero_le _⟩) (fun H locs hG hk => ?_)
  refine lv_if_ne (tgt := 12) hx hb dX7_pass_6 (by decide) (fun c2 => ?_) (fun c2 => ?_)
  · have hf := gif_f c2 hf
    refine lv_aload_n hx hb dX7_pass_12 rfl (lv_at hl 0 rfl) ?_
    refine g_getSa (o := 1) (a := 1) C0 hG (L0 hG) rfl 0 (by decide) rfl rfl w_329 dX7_pass_13 ?_
    refine g_getIN C0 hG (L1 hG) rfl 12 (by decide) rfl w_178 dX7_pass_16 ?_
    refine lv_iload_n hx hb dX7_pass_19 rfl (lv_at hl 1 rfl) ?_
    refine lv_iadd hx hb dX7_pass_20 ?_
    refine lv_sipush (v := (9999 : Int32)) hx hb dX7_pass_21 (by decide) ?_
    refine lv_icmp_le (tgt := 30) hx hb dX7_pass_24 (by decide) (fun c3 => ?_) (fun c3 => ?_)
    · have hf := gif_t c3 hf
      refine lv_aload_n hx hb dX7_pass_30 rfl (lv_at hl 0 rfl) ?_
      refine g_getSa (o := 1) (a := 1) C0 hG (L0 hG) rfl 0 (by decide) rfl rfl w_329 dX7_pass_31 ?_
      refine lv_iload_n hx hb dX7_pass_34 rfl (lv_at hl 1 rfl) ?_
      obtain ⟨_, u4, hc4, hf⟩ := obind_s hf
      refine g_doV0 hG (g_runVN C0 hG (k_X6_ride l D base Z u 1 p1 u4 O1 hc4) m_X6_ride v_X6_ride w_644 (by decide) (g_recv C0 hG (L1 hG) rfl) rfl hl.1 rfl (Nat.le_of_ble_eq_true rfl) dX7_pass_35 ⟨Nat.zero_le _, Nat.zero_le _⟩) (fun H locs hG hk => ?_)
      refine lv_aload_n hx hb dX7_pass_38 rfl (lv_at hl 0 rfl) ?_
      refine g_getSa (o := 1) (a := 1) C0 hG (L0 hG) rfl 0 (by decide) rfl rfl w_329 dX7_pass_39 ?_
      refine g_getIN C0 hG (L1 hG) rfl 12 (by decide) rfl w_178 dX7_pass_42 ?_
      obtain ⟨hr1, hu⟩ := gret_s hf
      subst hr1
      subst hu
      subst hQ
      exact g_iret C0 hG hr dX7_pass_45
    · have hf := gif_f c3 hf
      refine lv_bipush (v := (-3 : Int32)) hx hb dX7_pass_27 (by decide) ?_
      obtain ⟨hr1, hu⟩ := gret_s hf
      subst hr1
      subst hu
      subst hQ
      exact g_iret C0 hG hr dX7_pass_29
  · have hf := gif_t c2 hf
    refine lv_bipush (v := (-2 : Int32)) hx hb dX7_pass_9 (by decide) ?_
    obtain ⟨hr1, hu⟩ := gret_s hf
    subst hr1
    subst hu
    subst hQ
    exact g_iret C0 hG hr dX7_pass_11
theorem dX7_on_0 : decode cX7_on 0 = .ok (.iload_n 2, 1) := by decide +kernel
theorem dX7_on_1 : decode cX7_on 1 = .ok (.iconst 1, 1) := by decide +kernel
theorem dX7_on_2 : decode cX7_on 2 = .ok (.invokestatic 103, 3) := by decide +kernel
theorem dX7_on_5 : decode cX7_on 5 = .ok (.istore_n 3, 1) := by decide +kernel
theorem dX7_on_6 : decode cX7_on 6 = .ok (.iload_n 2, 1) := by decide +kernel
theorem dX7_on_7 : decode cX7_on 7 = .ok (.iconst 2, 1) := by decide +kernel
theorem dX7_on_8 : decode cX7_on 8 = .ok (.invokestatic 103, 3) := by decide +kernel
theorem dX7_on_11 : decode cX7_on 11 = .ok (.istore 4, 2) := by decide +kernel
theorem dX7_on_13 : decode cX7_on 13 = .ok (.iload_n 2, 1) := by decide +kernel
theorem dX7_on_14 : decode cX7_on 14 = .ok (.iconst 2, 1) := by decide +kernel
theorem dX7_on_15 : decode cX7_on 15 = .ok (.invokestatic 63, 3) := by decide +kernel
theorem dX7_on_18 : decode cX7_on 18 = .ok (.ifCond .ne 21, 3) := by decide +kernel
theorem dX7_on_21 : decode cX7_on 21 = .ok (.aload_n 0, 1) := by decide +kernel
theorem dX7_on_22 : decode cX7_on 22 = .ok (.iload_n 3, 1) := by decide +kernel
theorem dX7_on_23 : decode cX7_on 23 = .ok (.invokevirtual 74, 3) := by decide +kernel
theorem dX7_on_26 : decode cX7_on 26 = .ok (.ifCond .ne 13, 3) := by decide +kernel
theorem dX7_on_29 : decode cX7_on 29 = .ok (.iload 4, 2) := by decide +kernel
theorem dX7_on_31 : decode cX7_on 31 = .ok (.invokestatic 107, 3) := by decide +kernel
theorem dX7_on_34 : decode cX7_on 34 = .ok (.ifCond .ne 5, 3) := by decide +kernel
theorem dX7_on_37 : decode cX7_on 37 = .ok (.iconst (-1), 1) := by decide +kernel
theorem dX7_on_38 : decode cX7_on 38 = .ok (.ireturn, 1) := by decide +kernel
theorem dX7_on_39 : decode cX7_on 39 = .ok (.iload_n 1, 1) := by decide +kernel
theorem dX7_on_40 : decode cX7_on 40 = .ok (.bipush 30, 2) := by decide +kernel
theorem dX7_on_42 : decode cX7_on 42 = .ok (.invokestatic 67, 3) := by decide +kernel
theorem dX7_on_45 : decode cX7_on 45 = .ok (.ifCond .ne 6, 3) := by decide +kernel
theorem dX7_on_48 : decode cX7_on 48 = .ok (.bipush (-2), 2) := by decide +kernel
theorem dX7_on_50 : decode cX7_on 50 = .ok (.ireturn, 1) := by decide +kernel
theorem dX7_on_51 : decode cX7_on 51 = .ok (.aload_n 0, 1) := by decide +kernel
theorem dX7_on_52 : decode cX7_on 52 = .ok (.getfield 18, 3) := by decide +kernel
theorem dX7_on_55 : decode cX7_on 55 = .ok (.aload_n 0, 1) := by decide +kernel
theorem dX7_on_56 : decode cX7_on 56 = .ok (.getfield 12, 3) := by decide +kernel
theorem dX7_on_59 : decode cX7_on 59 = .ok (.invokevirtual 168, 3) := by decide +kernel
theorem dX7_on_62 : decode cX7_on 62 = .ok (.aload_n 0, 1) := by decide +kernel
theorem dX7_on_63 : decode cX7_on 63 = .ok (.getfield 18, 3) := by decide +kernel
theorem dX7_on_66 : decode cX7_on 66 = .ok (.iload_n 1, 1) := by decide +kernel
theorem dX7_on_67 : decode cX7_on 67 = .ok (.invokevirtual 164, 3) := by decide +kernel
theorem dX7_on_70 : decode cX7_on 70 = .ok (.aload_n 0, 1) := by decide +kernel
theorem dX7_on_71 : decode cX7_on 71 = .ok (.iload_n 3, 1) := by decide +kernel
theorem dX7_on_72 : decode cX7_on 72 = .ok (.invokevirtual 74, 3) := by decide +kernel
theorem dX7_on_75 : decode cX7_on 75 = .ok (.ifCond .eq 13, 3) := by decide +kernel
theorem dX7_on_78 : decode cX7_on 78 = .ok (.aload_n 0, 1) := by decide +kernel
theorem dX7_on_79 : decode cX7_on 79 = .ok (.getfield 18, 3) := by decide +kernel
theorem dX7_on_82 : decode cX7_on 82 = .ok (.getfield 88, 3) := by decide +kernel
theorem dX7_on_85 : decode cX7_on 85 = .ok (.iload_n 3, 1) := by decide +kernel
theorem dX7_on_86 : decode cX7_on 86 = .ok (.iaload, 1) := by decide +kernel
theorem dX7_on_87 : decode cX7_on 87 = .ok (.ireturn, 1) := by decide +kernel
theorem dX7_on_88 : decode cX7_on 88 = .ok (.iload 4, 2) := by decide +kernel
theorem dX7_on_90 : decode cX7_on 90 = .ok (.invokestatic 107, 3) := by decide +kernel
theorem dX7_on_93 : decode cX7_on 93 = .ok (.ifCond .eq 14, 3) := by decide +kernel
theorem dX7_on_96 : decode cX7_on 96 = .ok (.aload_n 0, 1) := by decide +kernel
theorem dX7_on_97 : decode cX7_on 97 = .ok (.getfield 18, 3) := by decide +kernel
theorem dX7_on_100 : decode cX7_on 100 = .ok (.getfield 116, 3) := by decide +kernel
theorem dX7_on_103 : decode cX7_on 103 = .ok (.iload 4, 2) := by decide +kernel
theorem dX7_on_105 : decode cX7_on 105 = .ok (.iaload, 1) := by decide +kernel
theorem dX7_on_106 : decode cX7_on 106 = .ok (.ireturn, 1) := by decide +kernel
theorem dX7_on_107 : decode cX7_on 107 = .ok (.iload_n 2, 1) := by decide +kernel
theorem dX7_on_108 : decode cX7_on 108 = .ok (.ifCond .ne 13, 3) := by decide +kernel
theorem dX7_on_111 : decode cX7_on 111 = .ok (.aload_n 0, 1) := by decide +kernel
theorem dX7_on_112 : decode cX7_on 112 = .ok (.getfield 18, 3) := by decide +kernel
theorem dX7_on_115 : decode cX7_on 115 = .ok (.getfield 151, 3) := by decide +kernel
theorem dX7_on_118 : decode cX7_on 118 = .ok (.goto 10, 3) := by decide +kernel
theorem dX7_on_121 : decode cX7_on 121 = .ok (.aload_n 0, 1) := by decide +kernel
theorem dX7_on_122 : decode cX7_on 122 = .ok (.getfield 18, 3) := by decide +kernel
theorem dX7_on_125 : decode cX7_on 125 = .ok (.getfield 154, 3) := by decide +kernel
theorem dX7_on_128 : decode cX7_on 128 = .ok (.ireturn, 1) := by decide +kernel
def f_X7_on (p1 : Int32) (p2 : Int32) (u : Mem) : Option (Int32 × Mem) := Option.bind (f_X7_tenLess p2 (1 : Int32)) (fun r1 => Option.bind (f_X7_tenLess p2 (2 : Int32)) (fun r2 => Option.bind (f_X7_isWithin p2 (2 : Int32)) (fun r3 => (if r3 = 0 then Option.bind (f_X7_isPerson r1 u) (fun r16 => (if r16 = 0 then Option.bind (f_X7_isTale r2) (fun r29 => (if r29 = 0 then some ((-1 : Int32), u) else Option.bind (f_X7_isUpTo p1 (30 : Int32)) (fun r31 => (if r31 = 0 then some ((-2 : Int32), u) else obind (f_X6_becomeLike 13 1 u) (fun _ u33 => obind (f_X6_ride 13 p1 u33) (fun _ u34 => Option.bind (f_X7_isPerson r1 u34) (fun r35 => (if r35 = 0 then Option.bind (f_X7_isTale r2) (fun r37 => (if r37 = 0 then (if p2 = 0 then some (gI u34 13 10, u34) else some (gI u34 13 11, u34)) else gin r2 8 (some (gA u34 15 r2.toNatClampNeg, u34)))) else gin r1 6 (some (gA u34 19 r1.toNatClampNeg, u34)))))))))) else Option.bind (f_X7_isUpTo p1 (30 : Int32)) (fun r18 => (if r18 = 0 then some ((-2 : Int32), u) else obind (f_X6_becomeLike 13 1 u) (fun _ u20 => obind (f_X6_ride 13 p1 u20) (fun _ u21 => Option.bind (f_X7_isPerson r1 u21) (fun r22 => (if r22 = 0 then Option.bind (f_X7_isTale r2) (fun r24 => (if r24 = 0 then (if p2 = 0 then some (gI u21 13 10, u21) else some (gI u21 13 11, u21)) else gin r2 8 (some (gA u21 15 r2.toNatClampNeg, u21)))) else gin r1 6 (some (gA u21 19 r1.toNatClampNeg, u21)))))))))) else Option.bind (f_X7_isUpTo p1 (30 : Int32)) (fun r5 => (if r5 = 0 then some ((-2 : Int32), u) else obind (f_X6_becomeLike 13 1 u) (fun _ u7 => obind (f_X6_ride 13 p1 u7) (fun _ u8 => Option.bind (f_X7_isPerson r1 u8) (fun r9 => (if r9 = 0 then Option.bind (f_X7_isTale r2) (fun r11 => (if r11 = 0 then (if p2 = 0 then some (gI u8 13 10, u8) else some (gI u8 13 11, u8)) else gin r2 8 (some (gA u8 15 r2.toNatClampNeg, u8)))) else gin r1 6 (some (gA u8 19 r1.toNatClampNeg, u8))))))))))))
set_option maxHeartbeats 4000000 in
set_option maxRecDepth 100000 in
theorem k_X7_on (l : Launch) (D : gDt) (base : Nat) (Z : gZt) (u : Mem) (p1 : Int32) (p2 : Int32) (r : Int32) (u' : Mem) (hf : f_X7_on p1 p2 u = some (r, u')) : Met l yX7_on (gws yX7_on cX7_on 5 (some .int)) (gRm 7 0 0) (gPc D base Z u [.ref (base + 0), .int p1, .int p2]) (gQi D base r u') 0 0 (gF base) := by
  refine Met.ofW (cc := cX7_on) (maxL := 5) (ret := some .int) (by decide) rfl ?_
  intro p e s m args below meth c s₁ B hml hv
  obtain ⟨rfl, C0, hG⟩ := g_enter B hml hv
  have hr := B.returns
  have C0 : gC p s m meth c _ cX7_on 5 RX7 D base Z := C0
  have hx := C0.1
  have hb := C0.2.1
  have hl := lv_entry ([.ref (base + 0), .int p1, .int p2]) (n := 5) (Nat.le_of_ble_eq_true rfl)
  rw [lg_entry_eq]
  generalize (lg_sl ([.ref (base + 0), .int p1, .int p2]) ++ List.replicate (5 - (lg_sl ([.ref (base + 0), .int p1, .int p2])).length) Slot.unset).toArray = ls at hl ⊢
  have hl : lv_has ls 5 [(0, .ref (base + 0)), (1, .int p1), (2, .int p2)] := hl
  obtain ⟨Q, hQ⟩ : ∃ Q, Q = MQ below (gQi D base r u') ([.ref (base + 0), .int p1, .int p2] : List Value).toArray s 0 0 (gF base) := ⟨_, rfl⟩
  rw [← hQ]
  change W p l e (gRm 7 0 0) s m _ below meth c _ _ _ _ _ _
  unfold f_X7_on at hf
  refine lv_iload_n hx hb dX7_on_0 rfl (lv_at hl 2 rfl) ?_
  refine lv_iconst (v := (1 : Int32)) hx hb dX7_on_1 (by decide) ?_
  obtain ⟨r1, hc1, hf⟩ := pb_s hf
  refine g_doI0 hG (g_runS C0 hG (k_X7_tenLess l D base Z u p2 (1 : Int32) r1 hc1) m_X7_tenLess s_X7_tenLess w_412 (by decide) rfl hl.1 rfl (Nat.le_of_ble_eq_true rfl) dX7_on_2 ⟨Nat.zero_le _, Nat.zero_le _⟩) (fun H locs hG hk => ?_)
  refine lv_istore_n (lv' := [(3, .int r1), (0, .ref (base + 0)), (1, .int p1), (2, .int p2)]) hx hb dX7_on_5 rfl hl (by decide) rfl (fun ls hl => ?_)
  refine lv_iload_n hx hb dX7_on_6 rfl (lv_at hl 3 rfl) ?_
  refine lv_iconst (v := (2 : Int32)) hx hb dX7_on_7 (by decide) ?_
  obtain ⟨r2, hc2, hf⟩ := pb_s hf
  refine g_doI0 hG (g_runS C0 hG (k_X7_tenLess l D base Z u p2 (2 : Int32) r2 hc2) m_X7_tenLess s_X7_tenLess w_412 (by decide) rfl hl.1 rfl (Nat.le_of_ble_eq_true rfl) dX7_on_8 ⟨Nat.zero_le _, Nat.zero_le _⟩) (fun H locs hG hk => ?_)
  refine lv_istore (lv' := [(4, .int r2), (3, .int r1), (0, .ref (base + 0)), (1, .int p1), (2, .int p2)]) hx hb dX7_on_11 hl (by decide) rfl (fun ls hl => ?_)
  refine lv_iload_n hx hb dX7_on_13 rfl (lv_at hl 4 rfl) ?_
  refine lv_iconst (v := (2 : Int32)) hx hb dX7_on_14 (by decide) ?_
  obtain ⟨r3, hc3, hf⟩ := pb_s hf
  refine g_doI0 hG (g_runS C0 hG (k_X7_isWithin l D base Z u p2 (2 : Int32) r3 hc3) m_X7_isWithin s_X7_isWithin w_364 (by decide) rfl hl.1 rfl (Nat.le_of_ble_eq_true rfl) dX7_on_15 ⟨Nat.zero_le _, Nat.zero_le _⟩) (fun H locs hG hk => ?_)
  refine lv_if_ne (tgt := 39) hx hb dX7_on_18 (by decide) (fun c4 => ?_) (fun c4 => ?_)
  · have hf := gif_f c4 hf
    refine lv_iload_n hx hb dX7_on_39 rfl (lv_at hl 3 rfl) ?_
    refine lv_bipush (v := (30 : Int32)) hx hb dX7_on_40 (by decide) ?_
    obtain ⟨r5, hc5, hf⟩ := pb_s hf
    refine g_doI0 hG (g_runS C0 hG (k_X7_isUpTo l D base Z u p1 (30 : Int32) r5 hc5) m_X7_isUpTo s_X7_isUpTo w_367 (by decide) rfl hl.1 rfl (Nat.le_of_ble_eq_true rfl) dX7_on_42 ⟨Nat.zero_le _, Nat.zero_le _⟩) (fun H locs hG hk => ?_)
    refine lv_if_ne (tgt := 51) hx hb dX7_on_45 (by decide) (fun c6 => ?_) (fun c6 => ?_)
    · have hf := gif_f c6 hf
      refine lv_aload_n hx hb dX7_on_51 rfl (lv_at hl 2 rfl) ?_
      refine g_getSa (o := 13) (a := 13) C0 hG (L0 hG) rfl 1 (by decide) rfl rfl w_330 dX7_on_52 ?_
      refine lv_aload_n hx hb dX7_on_55 rfl (lv_at hl 2 rfl) ?_
      refine g_getSa (o := 1) (a := 1) C0 hG (L0 hG) rfl 0 (by decide) rfl rfl w_329 dX7_on_56 ?_
      obtain ⟨_, u7, hc7, hf⟩ := obind_s hf
      refine g_doV0 hG (g_runVN C0 hG (k_X6_becomeLike l D base Z u 13 1 u7 O13 O1 hc7) m_X6_becomeLike v_X6_becomeLike w_663 (by decide) (g_recv C0 hG (L13 hG) rfl) rfl hl.1 rfl (Nat.le_of_ble_eq_true rfl) dX7_on_59 ⟨Nat.zero_le _, Nat.zero_le _⟩) (fun H locs hG hk => ?_)
      refine lv_aload_n hx hb dX7_on_62 rfl (lv_at hl 2 rfl) ?_
      refine g_getSa (o := 13) (a := 13) C0 hG (L0 hG) rfl 1 (by decide) rfl rfl w_330 dX7_on_63 ?_
      refine lv_iload_n hx hb dX7_on_66 rfl (lv_at hl 3 rfl) ?_
      obtain ⟨_, u8, hc8, hf⟩ := obind_s hf
      refine g_doV0 hG (g_runVN C0 hG (k_X6_ride l D base Z u7 13 p1 u8 O13 hc8) m_X6_ride v_X6_ride w_644 (by decide) (g_recv C0 hG (L13 hG) rfl) rfl hl.1 rfl (Nat.le_of_ble_eq_true rfl) dX7_on_67 ⟨Nat.zero_le _, Nat.zero_le _⟩) (fun H locs hG hk => ?_)
      refine lv_aload_n hx hb dX7_on_70 rfl (lv_at hl 2 rfl) ?_
      refine lv_iload_n hx hb dX7_on_71 rfl (lv_at hl 1 rfl) ?_
      obtain ⟨r9, hc9, hf⟩ := pb_s hf
      refine g_doI0 hG (g_runV C0 hG (k_X7_isPerson l D base Z u8 r1 r9 hc9) m_X7_isPerson v_X7_isPerson w_378 (by decide) (g_recv C0 hG (L0 hG) rfl) rfl hl.1 rfl (Nat.le_of_ble_eq_true rfl) dX7_on_72 ⟨Nat.zero_le _, Nat.zero_le _⟩) (fun H locs hG hk => ?_)
      refine lv_if_eq (tgt := 88) hx hb dX7_on_75 (by decide) (fun c10 => ?_) (fun c10 => ?_)
      · have hf := gif_t c10 hf
        refine lv_iload hx hb dX7_on_88 (lv_at hl 0 rfl) ?_
        obtain ⟨r11, hc11, hf⟩ := pb_s hf
        refine g_doI0 hG (g_runS C0 hG (k_X7_isTale l D base Z u8 r2 r11 hc11) m_X7_isTale s_X7_isTale w_415 (by decide) rfl hl.1 rfl (Nat.le_of_ble_eq_true rfl) dX7_on_90 ⟨Nat.zero_le _, Nat.zero_le _⟩) (fun H locs hG hk => ?_)
        refine lv_if_eq (tgt := 107) hx hb dX7_on_93 (by decide) (fun c12 => ?_) (fun c12 => ?_)
        · have hf := gif_t c12 hf
          refine lv_iload_n hx hb dX7_on_107 rfl (lv_at hl 4 rfl) ?_
          refine lv_if_ne (tgt := 121) hx hb dX7_on_108 (by decide) (fun c13 => ?_) (fun c13 => ?_)
          · have hf := gif_f c13 hf
            refine lv_aload_n hx hb dX7_on_121 rfl (lv_at hl 2 rfl) ?_
            refine g_getSa (o := 13) (a := 13) C0 hG (L0 hG) rfl 1 (by decide) rfl rfl w_330 dX7_on_122 ?_
            refine g_getIN C0 hG (L13 hG) rfl 11 (by decide) rfl w_176 dX7_on_125 ?_
            obtain ⟨hr1, hu⟩ := gret_s hf
            subst hr1
            subst hu
            subst hQ
            exact g_iret C0 hG hr dX7_on_128
          · have hf := gif_t c13 hf
            refine lv_aload_n hx hb dX7_on_111 rfl (lv_at hl 2 rfl) ?_
            refine g_getSa (o := 13) (a := 13) C0 hG (L0 hG) rfl 1 (by decide) rfl rfl w_330 dX7_on_112 ?_
            refine g_getIN C0 hG (L13 hG) rfl 10 (by decide) rfl w_174 dX7_on_115 ?_
            refine lv_goto (tgt := 128) hx hb dX7_on_118 (by decide) ?_
            obtain ⟨hr1, hu⟩ := gret_s hf
            subst hr1
            subst hu
            subst hQ
            exact g_iret C0 hG hr dX7_on_128
        · have hf := gif_f c12 hf
          refine lv_aload_n hx hb dX7_on_96 rfl (lv_at hl 2 rfl) ?_
          refine g_getSa (o := 13) (a := 13) C0 hG (L0 hG) rfl 1 (by decide) rfl rfl w_330 dX7_on_97 ?_
          refine g_getSaN (o := 2) (a := 15) C0 hG (L13 hG) rfl 1 (by decide) rfl rfl w_157 dX7_on_100 ?_
          refine lv_iload hx hb dX7_on_103 (lv_at hl 0 rfl) ?_
          obtain ⟨h14, hf⟩ := gin_s hf
          refine g_iald C0 hG (L15 hG) h14 dX7_on_105 ?_
          obtain ⟨hr1, hu⟩ := gret_s hf
          subst hr1
          subst hu
          subst hQ
          exact g_iret C0 hG hr dX7_on_106
      · have hf := gif_f c10 hf
        refine lv_aload_n hx hb dX7_on_78 rfl (lv_at hl 2 rfl) ?_
        refine g_getSa (o := 13) (a := 13) C0 hG (L0 hG) rfl 1 (by decide) rfl rfl w_330 dX7_on_79 ?_
        refine g_getSaN (o := 6) (a := 19) C0 hG (L13 hG) rfl 5 (by decide) rfl rfl w_165 dX7_on_82 ?_
        refine lv_iload_n hx hb dX7_on_85 rfl (lv_at hl 1 rfl) ?_
        obtain ⟨h15, hf⟩ := gin_s hf
        refine g_iald C0 hG (L19 hG) h15 dX7_on_86 ?_
        obtain ⟨hr1, hu⟩ := gret_s hf
        subst hr1
        subst hu
        subst hQ
        exact g_iret C0 hG hr dX7_on_87
    · have hf := gif_t c6 hf
      refine lv_bipush (v := (-2 : Int32)) hx hb dX7_on_48 (by decide) ?_
      obtain ⟨hr1, hu⟩ := gret_s hf
      subst hr1
      subst hu
      subst hQ
      exact g_iret C0 hG hr dX7_on_50
  · have hf := gif_t c4 hf
    refine lv_aload_n hx hb dX7_on_21 rfl (lv_at hl 2 rfl) ?_
    refine lv_iload_n hx hb dX7_on_22 rfl (lv_at hl 1 rfl) ?_
    obtain ⟨r16, hc16, hf⟩ := pb_s hf
    refine g_doI0 hG (g_runV C0 hG (k_X7_isPerson l D base Z u r1 r16 hc16) m_X7_isPerson v_X7_isPerson w_378 (by decide) (g_recv C0 hG (L0 hG) rfl) rfl hl.1 rfl (Nat.le_of_ble_eq_true rfl) dX7_on_23 ⟨Nat.zero_le _, Nat.zero_le _⟩) (fun H locs hG hk => ?_)
    refine lv_if_ne (tgt := 39) hx hb dX7_on_26 (by decide) (fun c17 => ?_) (fun c17 => ?_)
    · have hf := gif_f c17 hf
      refine lv_iload_n hx hb dX7_on_39 rfl (lv_at hl 3 rfl) ?_
      refine lv_bipush (v := (30 : Int32)) hx hb dX7_on_40 (by decide) ?_
      obtain ⟨r18, hc18, hf⟩ := pb_s hf
      refine g_doI0 hG (g_runS C0 hG (k_X7_isUpTo l D base Z u p1 (30 : Int32) r18 hc18) m_X7_isUpTo s_X7_isUpTo w_367 (by decide) rfl hl.1 rfl (Nat.le_of_ble_eq_true rfl) dX7_on_42 ⟨Nat.zero_le _, Nat.zero_le _⟩) (fun H locs hG hk => ?_)
      refine lv_if_ne (tgt := 51) hx hb dX7_on_45 (by decide) (fun c19 => ?_) (fun c19 => ?_)
      · have hf := gif_f c19 hf
        refine lv_aload_n hx hb dX7_on_51 rfl (lv_at hl 2 rfl) ?_
        refine g_getSa (o := 13) (a := 13) C0 hG (L0 hG) rfl 1 (by decide) rfl rfl w_330 dX7_on_52 ?_
        refine lv_aload_n hx hb dX7_on_55 rfl (lv_at hl 2 rfl) ?_
        refine g_getSa (o := 1) (a := 1) C0 hG (L0 hG) rfl 0 (by decide) rfl rfl w_329 dX7_on_56 ?_
        obtain ⟨_, u20, hc20, hf⟩ := obind_s hf
        refine g_doV0 hG (g_runVN C0 hG (k_X6_becomeLike l D base Z u 13 1 u20 O13 O1 hc20) m_X6_becomeLike v_X6_becomeLike w_663 (by decide) (g_recv C0 hG (L13 hG) rfl) rfl hl.1 rfl (Nat.le_of_ble_eq_true rfl) dX7_on_59 ⟨Nat.zero_le _, Nat.zero_le _⟩) (fun H locs hG hk => ?_)
        refine lv_aload_n hx hb dX7_on_62 rfl (lv_at hl 2 rfl) ?_
        refine g_getSa (o := 13) (a := 13) C0 hG (L0 hG) rfl 1 (by decide) rfl rfl w_330 dX7_on_63 ?_
        refine lv_iload_n hx hb dX7_on_66 rfl (lv_at hl 3 rfl) ?_
        obtain ⟨_, u21, hc21, hf⟩ := obind_s hf
        refine g_doV0 hG (g_runVN C0 hG (k_X6_ride l D base Z u20 13 p1 u21 O13 hc21) m_X6_ride v_X6_ride w_644 (by decide) (g_recv C0 hG (L13 hG) rfl) rfl hl.1 rfl (Nat.le_of_ble_eq_true rfl) dX7_on_67 ⟨Nat.zero_le _, Nat.zero_le _⟩) (fun H locs hG hk => ?_)
        refine lv_aload_n hx hb dX7_on_70 rfl (lv_at hl 2 rfl) ?_
        refine lv_iload_n hx hb dX7_on_71 rfl (lv_at hl 1 rfl) ?_
        obtain ⟨r22, hc22, hf⟩ := pb_s hf
        refine g_doI0 hG (g_runV C0 hG (k_X7_isPerson l D base Z u21 r1 r22 hc22) m_X7_isPerson v_X7_isPerson w_378 (by decide) (g_recv C0 hG (L0 hG) rfl) rfl hl.1 rfl (Nat.le_of_ble_eq_true rfl) dX7_on_72 ⟨Nat.zero_le _, Nat.zero_le _⟩) (fun H locs hG hk => ?_)
        refine lv_if_eq (tgt := 88) hx hb dX7_on_75 (by decide) (fun c23 => ?_) (fun c23 => ?_)
        · have hf := gif_t c23 hf
          refine lv_iload hx hb dX7_on_88 (lv_at hl 0 rfl) ?_
          obtain ⟨r24, hc24, hf⟩ := pb_s hf
          refine g_doI0 hG (g_runS C0 hG (k_X7_isTale l D base Z u21 r2 r24 hc24) m_X7_isTale s_X7_isTale w_415 (by decide) rfl hl.1 rfl (Nat.le_of_ble_eq_true rfl) dX7_on_90 ⟨Nat.zero_le _, Nat.zero_le _⟩) (fun H locs hG hk => ?_)
          refine lv_if_eq (tgt := 107) hx hb dX7_on_93 (by decide) (fun c25 => ?_) (fun c25 => ?_)
          · have hf := gif_t c25 hf
            refine lv_iload_n hx hb dX7_on_107 rfl (lv_at hl 4 rfl) ?_
            refine lv_if_ne (tgt := 121) hx hb dX7_on_108 (by decide) (fun c26 => ?_) (fun c26 => ?_)
            · have hf := gif_f c26 hf
              refine lv_aload_n hx hb dX7_on_121 rfl (lv_at hl 2 rfl) ?_
              refine g_getSa (o := 13) (a := 13) C0 hG (L0 hG) rfl 1 (by decide) rfl rfl w_330 dX7_on_122 ?_
              refine g_getIN C0 hG (L13 hG) rfl 11 (by decide) rfl w_176 dX7_on_125 ?_
              obtain ⟨hr1, hu⟩ := gret_s hf
              subst hr1
              subst hu
              subst hQ
              exact g_iret C0 hG hr dX7_on_128
            · have hf := gif_t c26 hf
              refine lv_aload_n hx hb dX7_on_111 rfl (lv_at hl 2 rfl) ?_
              refine g_getSa (o := 13) (a := 13) C0 hG (L0 hG) rfl 1 (by decide) rfl rfl w_330 dX7_on_112 ?_
              refine g_getIN C0 hG (L13 hG) rfl 10 (by decide) rfl w_174 dX7_on_115 ?_
              refine lv_goto (tgt := 128) hx hb dX7_on_118 (by decide) ?_
              obtain ⟨hr1, hu⟩ := gret_s hf
              subst hr1
              subst hu
              subst hQ
              exact g_iret C0 hG hr dX7_on_128
          · have hf := gif_f c25 hf
            refine lv_aload_n hx hb dX7_on_96 rfl (lv_at hl 2 rfl) ?_
            refine g_getSa (o := 13) (a := 13) C0 hG (L0 hG) rfl 1 (by decide) rfl rfl w_330 dX7_on_97 ?_
            refine g_getSaN (o := 2) (a := 15) C0 hG (L13 hG) rfl 1 (by decide) rfl rfl w_157 dX7_on_100 ?_
            refine lv_iload hx hb dX7_on_103 (lv_at hl 0 rfl) ?_
            obtain ⟨h27, hf⟩ := gin_s hf
            refine g_iald C0 hG (L15 hG) h27 dX7_on_105 ?_
            obtain ⟨hr1, hu⟩ := gret_s hf
            subst hr1
            subst hu
            subst hQ
            exact g_iret C0 hG hr dX7_on_106
        · have hf := gif_f c23 hf
          refine lv_aload_n hx hb dX7_on_78 rfl (lv_at hl 2 rfl) ?_
          refine g_getSa (o := 13) (a := 13) C0 hG (L0 hG) rfl 1 (by decide) rfl rfl w_330 dX7_on_79 ?_
          refine g_getSaN (o := 6) (a := 19) C0 hG (L13 hG) rfl 5 (by decide) rfl rfl w_165 dX7_on_82 ?_
          refine lv_iload_n hx hb dX7_on_85 rfl (lv_at hl 1 rfl) ?_
          obtain ⟨h28, hf⟩ := gin_s hf
          refine g_iald C0 hG (L19 hG) h28 dX7_on_86 ?_
          obtain ⟨hr1, hu⟩ := gret_s hf
          subst hr1
          subst hu
          subst hQ
          exact g_iret C0 hG hr dX7_on_87
      · have hf := gif_t c19 hf
        refine lv_bipush (v := (-2 : Int32)) hx hb dX7_on_48 (by decide) ?_
        obtain ⟨hr1, hu⟩ := gret_s hf
        subst hr1
        subst hu
        subst hQ
        exact g_iret C0 hG hr dX7_on_50
    · have hf := gif_t c17 hf
      refine lv_iload hx hb dX7_on_29 (lv_at hl 0 rfl) ?_
      obtain ⟨r29, hc29, hf⟩ := pb_s hf
      refine g_doI0 hG (g_runS C0 hG (k_X7_isTale l D base Z u r2 r29 hc29) m_X7_isTale s_X7_isTale w_415 (by decide) rfl hl.1 rfl (Nat.le_of_ble_eq_true rfl) dX7_on_31 ⟨Nat.zero_le _, Nat.zero_le _⟩) (fun H locs hG hk => ?_)
      refine lv_if_ne (tgt := 39) hx hb dX7_on_34 (by decide) (fun c30 => ?_) (fun c30 => ?_)
      · have hf := gif_f c30 hf
        refine lv_iload_n hx hb dX7_on_39 rfl (lv_at hl 3 rfl) ?_
        refine lv_bipush (v := (30 : Int32)) hx hb dX7_on_40 (by decide) ?_
        obtain ⟨r31, hc31, hf⟩ := pb_s hf
        refine g_doI0 hG (g_runS C0 hG (k_X7_isUpTo l D base Z u p1 (30 : Int32) r31 hc31) m_X7_isUpTo s_X7_isUpTo w_367 (by decide) rfl hl.1 rfl (Nat.le_of_ble_eq_true rfl) dX7_on_42 ⟨Nat.zero_le _, Nat.zero_le _⟩) (fun H locs hG hk => ?_)
        refine lv_if_ne (tgt := 51) hx hb dX7_on_45 (by decide) (fun c32 => ?_) (fun c32 => ?_)
        · have hf := gif_f c32 hf
          refine lv_aload_n hx hb dX7_on_51 rfl (lv_at hl 2 rfl) ?_
          refine g_getSa (o := 13) (a := 13) C0 hG (L0 hG) rfl 1 (by decide) rfl rfl w_330 dX7_on_52 ?_
          refine lv_aload_n hx hb dX7_on_55 rfl (lv_at hl 2 rfl) ?_
          refine g_getSa (o := 1) (a := 1) C0 hG (L0 hG) rfl 0 (by decide) rfl rfl w_329 dX7_on_56 ?_
          obtain ⟨_, u33, hc33, hf⟩ := obind_s hf
          refine g_doV0 hG (g_runVN C0 hG (k_X6_becomeLike l D base Z u 13 1 u33 O13 O1 hc33) m_X6_becomeLike v_X6_becomeLike w_663 (by decide) (g_recv C0 hG (L13 hG) rfl) rfl hl.1 rfl (Nat.le_of_ble_eq_true rfl) dX7_on_59 ⟨Nat.zero_le _, Nat.zero_le _⟩) (fun H locs hG hk => ?_)
          refine lv_aload_n hx hb dX7_on_62 rfl (lv_at hl 2 rfl) ?_
          refine g_getSa (o := 13) (a := 13) C0 hG (L0 hG) rfl 1 (by decide) rfl rfl w_330 dX7_on_63 ?_
          refine lv_iload_n hx hb dX7_on_66 rfl (lv_at hl 3 rfl) ?_
          obtain ⟨_, u34, hc34, hf⟩ := obind_s hf
          refine g_doV0 hG (g_runVN C0 hG (k_X6_ride l D base Z u33 13 p1 u34 O13 hc34) m_X6_ride v_X6_ride w_644 (by decide) (g_recv C0 hG (L13 hG) rfl) rfl hl.1 rfl (Nat.le_of_ble_eq_true rfl) dX7_on_67 ⟨Nat.zero_le _, Nat.zero_le _⟩) (fun H locs hG hk => ?_)
          refine lv_aload_n hx hb dX7_on_70 rfl (lv_at hl 2 rfl) ?_
          refine lv_iload_n hx hb dX7_on_71 rfl (lv_at hl 1 rfl) ?_
          obtain ⟨r35, hc35, hf⟩ := pb_s hf
          refine g_doI0 hG (g_runV C0 hG (k_X7_isPerson l D base Z u34 r1 r35 hc35) m_X7_isPerson v_X7_isPerson w_378 (by decide) (g_recv C0 hG (L0 hG) rfl) rfl hl.1 rfl (Nat.le_of_ble_eq_true rfl) dX7_on_72 ⟨Nat.zero_le _, Nat.zero_le _⟩) (fun H locs hG hk => ?_)
          refine lv_if_eq (tgt := 88) hx hb dX7_on_75 (by decide) (fun c36 => ?_) (fun c36 => ?_)
          · have hf := gif_t c36 hf
            refine lv_iload hx hb dX7_on_88 (lv_at hl 0 rfl) ?_
            obtain ⟨r37, hc37, hf⟩ := pb_s hf
            refine g_doI0 hG (g_runS C0 hG (k_X7_isTale l D base Z u34 r2 r37 hc37) m_X7_isTale s_X7_isTale w_415 (by decide) rfl hl.1 rfl (Nat.le_of_ble_eq_true rfl) dX7_on_90 ⟨Nat.zero_le _, Nat.zero_le _⟩) (fun H locs hG hk => ?_)
            refine lv_if_eq (tgt := 107) hx hb dX7_on_93 (by decide) (fun c38 => ?_) (fun c38 => ?_)
            · have hf := gif_t c38 hf
              refine lv_iload_n hx hb dX7_on_107 rfl (lv_at hl 4 rfl) ?_
              refine lv_if_ne (tgt := 121) hx hb dX7_on_108 (by decide) (fun c39 => ?_) (fun c39 => ?_)
              · have hf := gif_f c39 hf
                refine lv_aload_n hx hb dX7_on_121 rfl (lv_at hl 2 rfl) ?_
                refine g_getSa (o := 13) (a := 13) C0 hG (L0 hG) rfl 1 (by decide) rfl rfl w_330 dX7_on_122 ?_
                refine g_getIN C0 hG (L13 hG) rfl 11 (by decide) rfl w_176 dX7_on_125 ?_
                obtain ⟨hr1, hu⟩ := gret_s hf
                subst hr1
                subst hu
                subst hQ
                exact g_iret C0 hG hr dX7_on_128
              · have hf := gif_t c39 hf
                refine lv_aload_n hx hb dX7_on_111 rfl (lv_at hl 2 rfl) ?_
                refine g_getSa (o := 13) (a := 13) C0 hG (L0 hG) rfl 1 (by decide) rfl rfl w_330 dX7_on_112 ?_
                refine g_getIN C0 hG (L13 hG) rfl 10 (by decide) rfl w_174 dX7_on_115 ?_
                refine lv_goto (tgt := 128) hx hb dX7_on_118 (by decide) ?_
                obtain ⟨hr1, hu⟩ := gret_s hf
                subst hr1
                subst hu
                subst hQ
                exact g_iret C0 hG hr dX7_on_128
            · have hf := gif_f c38 hf
              refine lv_aload_n hx hb dX7_on_96 rfl (lv_at hl 2 rfl) ?_
              refine g_getSa (o := 13) (a := 13) C0 hG (L0 hG) rfl 1 (by decide) rfl rfl w_330 dX7_on_97 ?_
              refine g_getSaN (o := 2) (a := 15) C0 hG (L13 hG) rfl 1 (by decide) rfl rfl w_157 dX7_on_100 ?_
              refine lv_iload hx hb dX7_on_103 (lv_at hl 0 rfl) ?_
              obtain ⟨h40, hf⟩ := gin_s hf
              refine g_iald C0 hG (L15 hG) h40 dX7_on_105 ?_
              obtain ⟨hr1, hu⟩ := gret_s hf
              subst hr1
              subst hu
              subst hQ
              exact g_iret C0 hG hr dX7_on_106
          · have hf := gif_f c36 hf
            refine lv_aload_n hx hb dX7_on_78 rfl (lv_at hl 2 rfl) ?_
            refine g_getSa (o := 13) (a := 13) C0 hG (L0 hG) rfl 1 (by decide) rfl rfl w_330 dX7_on_79 ?_
            refine g_getSaN (o := 6) (a := 19) C0 hG (L13 hG) rfl 5 (by decide) rfl rfl w_165 dX7_on_82 ?_
            refine lv_iload_n hx hb dX7_on_85 rfl (lv_at hl 1 rfl) ?_
            obtain ⟨h41, hf⟩ := gin_s hf
            refine g_iald C0 hG (L19 hG) h41 dX7_on_86 ?_
            obtain ⟨hr1, hu⟩ := gret_s hf
            subst hr1
            subst hu
            subst hQ
            exact g_iret C0 hG hr dX7_on_87
        · have hf := gif_t c32 hf
          refine lv_bipush (v := (-2 : Int32)) hx hb dX7_on_48 (by decide) ?_
          obtain ⟨hr1, hu⟩ := gret_s hf
          subst hr1
          subst hu
          subst hQ
          exact g_iret C0 hG hr dX7_on_50
      · have hf := gif_t c30 hf
        refine lv_iconst (v := (-1 : Int32)) hx hb dX7_on_37 (by decide) ?_
        obtain ⟨hr1, hu⟩ := gret_s hf
        subst hr1
        subst hu
        subst hQ
        exact g_iret C0 hG hr dX7_on_38
theorem dX7_gets_0 : decode cX7_gets 0 = .ok (.iload_n 1, 1) := by decide +kernel
theorem dX7_gets_1 : decode cX7_gets 1 = .ok (.bipush 100, 2) := by decide +kernel
theorem dX7_gets_3 : decode cX7_gets 3 = .ok (.invokestatic 63, 3) := by decide +kernel
theorem dX7_gets_6 : decode cX7_gets 6 = .ok (.ifCond .ne 6, 3) := by decide +kernel
theorem dX7_gets_9 : decode cX7_gets 9 = .ok (.bipush (-2), 2) := by decide +kernel
theorem dX7_gets_11 : decode cX7_gets 11 = .ok (.ireturn, 1) := by decide +kernel
theorem dX7_gets_12 : decode cX7_gets 12 = .ok (.aload_n 0, 1) := by decide +kernel
theorem dX7_gets_13 : decode cX7_gets 13 = .ok (.getfield 18, 3) := by decide +kernel
theorem dX7_gets_16 : decode cX7_gets 16 = .ok (.aload_n 0, 1) := by decide +kernel
theorem dX7_gets_17 : decode cX7_gets 17 = .ok (.getfield 12, 3) := by decide +kernel
theorem dX7_gets_20 : decode cX7_gets 20 = .ok (.invokevirtual 168, 3) := by decide +kernel
theorem dX7_gets_23 : decode cX7_gets 23 = .ok (.iconst 0, 1) := by decide +kernel
theorem dX7_gets_24 : decode cX7_gets 24 = .ok (.istore_n 2, 1) := by decide +kernel
theorem dX7_gets_25 : decode cX7_gets 25 = .ok (.iload_n 2, 1) := by decide +kernel
theorem dX7_gets_26 : decode cX7_gets 26 = .ok (.bipush 30, 2) := by decide +kernel
theorem dX7_gets_28 : decode cX7_gets 28 = .ok (.if_icmp .gt 33, 3) := by decide +kernel
theorem dX7_gets_31 : decode cX7_gets 31 = .ok (.aload_n 0, 1) := by decide +kernel
theorem dX7_gets_32 : decode cX7_gets 32 = .ok (.getfield 18, 3) := by decide +kernel
theorem dX7_gets_35 : decode cX7_gets 35 = .ok (.getfield 154, 3) := by decide +kernel
theorem dX7_gets_38 : decode cX7_gets 38 = .ok (.iload_n 1, 1) := by decide +kernel
theorem dX7_gets_39 : decode cX7_gets 39 = .ok (.bipush 50, 2) := by decide +kernel
theorem dX7_gets_41 : decode cX7_gets 41 = .ok (.imul, 1) := by decide +kernel
theorem dX7_gets_42 : decode cX7_gets 42 = .ok (.if_icmp .lt 5, 3) := by decide +kernel
theorem dX7_gets_45 : decode cX7_gets 45 = .ok (.iload_n 2, 1) := by decide +kernel
theorem dX7_gets_46 : decode cX7_gets 46 = .ok (.ireturn, 1) := by decide +kernel
theorem dX7_gets_47 : decode cX7_gets 47 = .ok (.aload_n 0, 1) := by decide +kernel
theorem dX7_gets_48 : decode cX7_gets 48 = .ok (.getfield 18, 3) := by decide +kernel
theorem dX7_gets_51 : decode cX7_gets 51 = .ok (.iconst 1, 1) := by decide +kernel
theorem dX7_gets_52 : decode cX7_gets 52 = .ok (.invokevirtual 164, 3) := by decide +kernel
theorem dX7_gets_55 : decode cX7_gets 55 = .ok (.iinc 2 1, 3) := by decide +kernel
theorem dX7_gets_58 : decode cX7_gets 58 = .ok (.goto (-33), 3) := by decide +kernel
theorem dX7_gets_61 : decode cX7_gets 61 = .ok (.bipush (-5), 2) := by decide +kernel
theorem dX7_gets_63 : decode cX7_gets 63 = .ok (.ireturn, 1) := by decide +kernel
def f_X7_gets_L25 (p1 : Int32) (x2_4 : Int32) (u4 : Mem) : Option ((Int32 × Mem) ⊕ (Int32 × Mem)) := (if (30 : Int32) < x2_4 then some (Sum.inr ((-5 : Int32), u4)) else (if (gI u4 13 11) < (p1 * (50 : Int32)) then obind (f_X6_ride 13 (1 : Int32) u4) (fun _ u7 => some (Sum.inl (x2_4 + (1 : Int32), u7))) else some (Sum.inr (x2_4, u4))))
def f_X7_gets (p1 : Int32) (u : Mem) : Option (Int32 × Mem) := Option.bind (f_X7_isWithin p1 (100 : Int32)) (fun r1 => (if r1 = 0 then some ((-2 : Int32), u) else obind (f_X6_becomeLike 13 1 u) (fun _ u3 => whileO (fun s => f_X7_gets_L25 p1 s.1 s.2) FUEL ((0 : Int32), u3))))
set_option maxHeartbeats 4000000 in
set_option maxRecDepth 100000 in
theorem k_X7_gets (l : Launch) (D : gDt) (base : Nat) (Z : gZt) (u : Mem) (p1 : Int32) (r : Int32) (u' : Mem) (hf : f_X7_gets p1 u = some (r, u')) : Met l yX7_gets (gws yX7_gets cX7_gets 3 (some .int)) (gRm 7 0 0) (gPc D base Z u [.ref (base + 0), .int p1]) (gQi D base r u') 0 0 (gF base) := by
  refine Met.ofW (cc := cX7_gets) (maxL := 3) (ret := some .int) (by decide) rfl ?_
  intro p e s m args below meth c s₁ B hml hv
  obtain ⟨rfl, C0, hG⟩ := g_enter B hml hv
  have hr := B.returns
  have C0 : gC p s m meth c _ cX7_gets 3 RX7 D base Z := C0
  have hx := C0.1
  have hb := C0.2.1
  have hl := lv_entry ([.ref (base + 0), .int p1]) (n := 3) (Nat.le_of_ble_eq_true rfl)
  rw [lg_entry_eq]
  generalize (lg_sl ([.ref (base + 0), .int p1]) ++ List.replicate (3 - (lg_sl ([.ref (base + 0), .int p1])).length) Slot.unset).toArray = ls at hl ⊢
  have hl : lv_has ls 3 [(0, .ref (base + 0)), (1, .int p1)] := hl
  obtain ⟨Q, hQ⟩ : ∃ Q, Q = MQ below (gQi D base r u') ([.ref (base + 0), .int p1] : List Value).toArray s 0 0 (gF base) := ⟨_, rfl⟩
  rw [← hQ]
  change W p l e (gRm 7 0 0) s m _ below meth c _ _ _ _ _ _
  unfold f_X7_gets at hf
  refine lv_iload_n hx hb dX7_gets_0 rfl (lv_at hl 1 rfl) ?_
  refine lv_bipush (v := (100 : Int32)) hx hb dX7_gets_1 (by decide) ?_
  obtain ⟨r1, hc1, hf⟩ := pb_s hf
  refine g_doI0 hG (g_runS C0 hG (k_X7_isWithin l D base Z u p1 (100 : Int32) r1 hc1) m_X7_isWithin s_X7_isWithin w_364 (by decide) rfl hl.1 rfl (Nat.le_of_ble_eq_true rfl) dX7_gets_3 ⟨Nat.zero_le _, Nat.zero_le _⟩) (fun H locs hG hk => ?_)
  refine lv_if_ne (tgt := 12) hx hb dX7_gets_6 (by decide) (fun c2 => ?_) (fun c2 => ?_)
  · have hf := gif_f c2 hf
    refine lv_aload_n hx hb dX7_gets_12 rfl (lv_at hl 0 rfl) ?_
    refine g_getSa (o := 13) (a := 13) C0 hG (L0 hG) rfl 1 (by decide) rfl rfl w_330 dX7_gets_13 ?_
    refine lv_aload_n hx hb dX7_gets_16 rfl (lv_at hl 0 rfl) ?_
    refine g_getSa (o := 1) (a := 1) C0 hG (L0 hG) rfl 0 (by decide) rfl rfl w_329 dX7_gets_17 ?_
    obtain ⟨_, u3, hc3, hf⟩ := obind_s hf
    refine g_doV0 hG (g_runVN C0 hG (k_X6_becomeLike l D base Z u 13 1 u3 O13 O1 hc3) m_X6_becomeLike v_X6_becomeLike w_663 (by decide) (g_recv C0 hG (L13 hG) rfl) rfl hl.1 rfl (Nat.le_of_ble_eq_true rfl) dX7_gets_20 ⟨Nat.zero_le _, Nat.zero_le _⟩) (fun H locs hG hk => ?_)
    refine lv_iconst (v := (0 : Int32)) hx hb dX7_gets_23 (by decide) ?_
    refine lv_istore_n (lv' := [(2, .int (0 : Int32)), (0, .ref (base + 0)), (1, .int p1)]) hx hb dX7_gets_24 rfl hl (by decide) rfl (fun ls hl => ?_)
    have loop4 : ∀ (n4 : Nat) (x2_4 : Int32) (u4 : Mem) (H : Heap) (locs : List Loc) (ls : Array Slot), gH D base s u4 H locs → lv_has ls 3 [(0, .ref (base + 0)), (1, .int p1), (2, .int x2_4)] → whileO (fun s => f_X7_gets_L25 p1 s.1 s.2) n4 (x2_4, u4) = some (r, u') → W p l e (gRm 7 0 0) s m ([.ref (base + 0), .int p1] : List Value).toArray below meth c H locs 0 0 Q (F0 m 25 ls []) := by
      intro n4
      induction n4 with
      | zero => intro x2_4 u4 H locs ls hG hl hf; cases hf
      | succ n4 ih4 =>
        intro x2_4 u4 H locs ls hG hl hf
        obtain ⟨X4, hf, hX4⟩ := while_s hf
        have hf : f_X7_gets_L25 p1 x2_4 u4 = some X4 := hf
        unfold f_X7_gets_L25 at hf
        refine lv_iload_n hx hb dX7_gets_25 rfl (lv_at hl 2 rfl) ?_
        refine lv_bipush (v := (30 : Int32)) hx hb dX7_gets_26 (by decide) ?_
        refine lv_icmp_gt (tgt := 61) hx hb dX7_gets_28 (by decide) (fun c5 => ?_) (fun c5 => ?_)
        · have hf := gif_t c5 hf
          refine lv_bipush (v := (-5 : Int32)) hx hb dX7_gets_61 (by decide) ?_
          have hf := while_r hX4 hf
          obtain ⟨hr1, hu⟩ := gret_s hf
          subst hr1
          subst hu
          subst hQ
          exact g_iret C0 hG hr dX7_gets_63
        · have hf := gif_f c5 hf
          refine lv_aload_n hx hb dX7_gets_31 rfl (lv_at hl 0 rfl) ?_
          refine g_getSa (o := 13) (a := 13) C0 hG (L0 hG) rfl 1 (by decide) rfl rfl w_330 dX7_gets_32 ?_
          refine g_getIN C0 hG (L13 hG) rfl 11 (by decide) rfl w_176 dX7_gets_35 ?_
          refine lv_iload_n hx hb dX7_gets_38 rfl (lv_at hl 1 rfl) ?_
          refine lv_bipush (v := (50 : Int32)) hx hb dX7_gets_39 (by decide) ?_
          refine lv_imul hx hb dX7_gets_41 ?_
          refine lv_icmp_lt (tgt := 47) hx hb dX7_gets_42 (by decide) (fun c6 => ?_) (fun c6 => ?_)
          · have hf := gif_t c6 hf
            refine lv_aload_n hx hb dX7_gets_47 rfl (lv_at hl 0 rfl) ?_
            refine g_getSa (o := 13) (a := 13) C0 hG (L0 hG) rfl 1 (by decide) rfl rfl w_330 dX7_gets_48 ?_
            refine lv_iconst (v := (1 : Int32)) hx hb dX7_gets_51 (by decide) ?_
            obtain ⟨_, u7, hc7, hf⟩ := obind_s hf
            refine g_doV0 hG (g_runVN C0 hG (k_X6_ride l D base Z u4 13 (1 : Int32) u7 O13 hc7) m_X6_ride v_X6_ride w_644 (by decide) (g_recv C0 hG (L13 hG) rfl) rfl hl.1 rfl (Nat.le_of_ble_eq_true rfl) dX7_gets_52 ⟨Nat.zero_le _, Nat.zero_le _⟩) (fun H locs hG hk => ?_)
            refine lv_iinc (v := x2_4 + (1 : Int32)) (lv' := [(2, .int (x2_4 + (1 : Int32))), (0, .ref (base + 0)), (1, .int p1)]) hx hb dX7_gets_55 hl (k := 2) rfl rfl (by decide) rfl (fun ls hl => ?_)
            refine lv_goto (tgt := 25) hx hb dX7_gets_58 (by decide) ?_
            have hf := while_l hX4 hf
            exact ih4 (x2_4 + (1 : Int32)) u7 _ _ ls hG (lv_sub hl [1, 2, 0] rfl) hf
          · have hf := gif_f c6 hf
            refine lv_iload_n hx hb dX7_gets_45 rfl (lv_at hl 2 rfl) ?_
            have hf := while_r hX4 hf
            obtain ⟨hr1, hu⟩ := gret_s hf
            subst hr1
            subst hu
            subst hQ
            exact g_iret C0 hG hr dX7_gets_46
    exact loop4 FUEL (0 : Int32) u3 _ _ ls hG (lv_sub hl [1, 2, 0] rfl) hf
  · have hf := gif_t c2 hf
    refine lv_bipush (v := (-2 : Int32)) hx hb dX7_gets_9 (by decide) ?_
    obtain ⟨hr1, hu⟩ := gret_s hf
    subst hr1
    subst hu
    subst hQ
    exact g_iret C0 hG hr dX7_gets_11
theorem dX7_hears_0 : decode cX7_hears 0 = .ok (.aload_n 0, 1) := by decide +kernel
theorem dX7_hears_1 : decode cX7_hears 1 = .ok (.iload_n 1, 1) := by decide +kernel
theorem dX7_hears_2 : decode cX7_hears 2 = .ok (.invokevirtual 74, 3) := by decide +kernel
theorem dX7_hears_5 : decode cX7_hears 5 = .ok (.ifCond .eq 10, 3) := by decide +kernel
theorem dX7_hears_8 : decode cX7_hears 8 = .ok (.iload_n 2, 1) := by decide +kernel
theorem dX7_hears_9 : decode cX7_hears 9 = .ok (.invokestatic 107, 3) := by decide +kernel
theorem dX7_hears_12 : decode cX7_hears 12 = .ok (.ifCond .ne 5, 3) := by decide +kernel
theorem dX7_hears_15 : decode cX7_hears 15 = .ok (.iconst (-1), 1) := by decide +kernel
theorem dX7_hears_16 : decode cX7_hears 16 = .ok (.ireturn, 1) := by decide +kernel
theorem dX7_hears_17 : decode cX7_hears 17 = .ok (.aload_n 0, 1) := by decide +kernel
theorem dX7_hears_18 : decode cX7_hears 18 = .ok (.getfield 18, 3) := by decide +kernel
theorem dX7_hears_21 : decode cX7_hears 21 = .ok (.aload_n 0, 1) := by decide +kernel
theorem dX7_hears_22 : decode cX7_hears 22 = .ok (.getfield 12, 3) := by decide +kernel
theorem dX7_hears_25 : decode cX7_hears 25 = .ok (.invokevirtual 168, 3) := by decide +kernel
theorem dX7_hears_28 : decode cX7_hears 28 = .ok (.iconst 0, 1) := by decide +kernel
theorem dX7_hears_29 : decode cX7_hears 29 = .ok (.istore_n 3, 1) := by decide +kernel
theorem dX7_hears_30 : decode cX7_hears 30 = .ok (.iload_n 3, 1) := by decide +kernel
theorem dX7_hears_31 : decode cX7_hears 31 = .ok (.bipush 30, 2) := by decide +kernel
theorem dX7_hears_33 : decode cX7_hears 33 = .ok (.if_icmp .gt 31, 3) := by decide +kernel
theorem dX7_hears_36 : decode cX7_hears 36 = .ok (.aload_n 0, 1) := by decide +kernel
theorem dX7_hears_37 : decode cX7_hears 37 = .ok (.getfield 18, 3) := by decide +kernel
theorem dX7_hears_40 : decode cX7_hears 40 = .ok (.iload_n 1, 1) := by decide +kernel
theorem dX7_hears_41 : decode cX7_hears 41 = .ok (.iload_n 2, 1) := by decide +kernel
theorem dX7_hears_42 : decode cX7_hears 42 = .ok (.invokevirtual 172, 3) := by decide +kernel
theorem dX7_hears_45 : decode cX7_hears 45 = .ok (.ifCond .eq 5, 3) := by decide +kernel
theorem dX7_hears_48 : decode cX7_hears 48 = .ok (.iload_n 3, 1) := by decide +kernel
theorem dX7_hears_49 : decode cX7_hears 49 = .ok (.ireturn, 1) := by decide +kernel
theorem dX7_hears_50 : decode cX7_hears 50 = .ok (.aload_n 0, 1) := by decide +kernel
theorem dX7_hears_51 : decode cX7_hears 51 = .ok (.getfield 18, 3) := by decide +kernel
theorem dX7_hears_54 : decode cX7_hears 54 = .ok (.iconst 1, 1) := by decide +kernel
theorem dX7_hears_55 : decode cX7_hears 55 = .ok (.invokevirtual 164, 3) := by decide +kernel
theorem dX7_hears_58 : decode cX7_hears 58 = .ok (.iinc 3 1, 3) := by decide +kernel
theorem dX7_hears_61 : decode cX7_hears 61 = .ok (.goto (-31), 3) := by decide +kernel
theorem dX7_hears_64 : decode cX7_hears 64 = .ok (.bipush (-5), 2) := by decide +kernel
theorem dX7_hears_66 : decode cX7_hears 66 = .ok (.ireturn, 1) := by decide +kernel
def f_X7_hears_L30 (p1 : Int32) (p2 : Int32) (x3_6 : Int32) (u6 : Mem) : Option ((Int32 × Mem) ⊕ (Int32 × Mem)) := (if (30 : Int32) < x3_6 then some (Sum.inr ((-5 : Int32), u6)) else Option.bind (f_X6_knowsOf 13 p1 p2 u6) (fun r8 => (if r8 = 0 then obind (f_X6_ride 13 (1 : Int32) u6) (fun _ u10 => some (Sum.inl (x3_6 + (1 : Int32), u10))) else some (Sum.inr (x3_6, u6)))))
def f_X7_hears (p1 : Int32) (p2 : Int32) (u : Mem) : Option (Int32 × Mem) := Option.bind (f_X7_isPerson p1 u) (fun r1 => (if r1 = 0 then some ((-1 : Int32), u) else Option.bind (f_X7_isTale p2) (fun r3 => (if r3 = 0 then some ((-1 : Int32), u) else obind (f_X6_becomeLike 13 1 u) (fun _ u5 => whileO (fun s => f_X7_hears_L30 p1 p2 s.1 s.2) FUEL ((0 : Int32), u5))))))
set_option maxHeartbeats 4000000 in
set_option maxRecDepth 100000 in
theorem k_X7_hears (l : Launch) (D : gDt) (base : Nat) (Z : gZt) (u : Mem) (p1 : Int32) (p2 : Int32) (r : Int32) (u' : Mem) (hf : f_X7_hears p1 p2 u = some (r, u')) : Met l yX7_hears (gws yX7_hears cX7_hears 4 (some .int)) (gRm 7 0 0) (gPc D base Z u [.ref (base + 0), .int p1, .int p2]) (gQi D base r u') 0 0 (gF base) := by
  refine Met.ofW (cc := cX7_hears) (maxL := 4) (ret := some .int) (by decide) rfl ?_
  intro p e s m args below meth c s₁ B hml hv
  obtain ⟨rfl, C0, hG⟩ := g_enter B hml hv
  have hr := B.returns
  have C0 : gC p s m meth c _ cX7_hears 4 RX7 D base Z := C0
  have hx := C0.1
  have hb := C0.2.1
  have hl := lv_entry ([.ref (base + 0), .int p1, .int p2]) (n := 4) (Nat.le_of_ble_eq_true rfl)
  rw [lg_entry_eq]
  generalize (lg_sl ([.ref (base + 0), .int p1, .int p2]) ++ List.replicate (4 - (lg_sl ([.ref (base + 0), .int p1, .int p2])).length) Slot.unset).toArray = ls at hl ⊢
  have hl : lv_has ls 4 [(0, .ref (base + 0)), (1, .int p1), (2, .int p2)] := hl
  obtain ⟨Q, hQ⟩ : ∃ Q, Q = MQ below (gQi D base r u') ([.ref (base + 0), .int p1, .int p2] : List Value).toArray s 0 0 (gF base) := ⟨_, rfl⟩
  rw [← hQ]
  change W p l e (gRm 7 0 0) s m _ below meth c _ _ _ _ _ _
  unfold f_X7_hears at hf
  refine lv_aload_n hx hb dX7_hears_0 rfl (lv_at hl 0 rfl) ?_
  refine lv_iload_n hx hb dX7_hears_1 rfl (lv_at hl 1 rfl) ?_
  obtain ⟨r1, hc1, hf⟩ := pb_s hf
  refine g_doI0 hG (g_runV C0 hG (k_X7_isPerson l D base Z u p1 r1 hc1) m_X7_isPerson v_X7_isPerson w_378 (by decide) (g_recv C0 hG (L0 hG) rfl) rfl hl.1 rfl (Nat.le_of_ble_eq_true rfl) dX7_hears_2 ⟨Nat.zero_le _, Nat.zero_le _⟩) (fun H locs hG hk => ?_)
  refine lv_if_eq (tgt := 15) hx hb dX7_hears_5 (by decide) (fun c2 => ?_) (fun c2 => ?_)
  · have hf := gif_t c2 hf
    refine lv_iconst (v := (-1 : Int32)) hx hb dX7_hears_15 (by decide) ?_
    obtain ⟨hr1, hu⟩ := gret_s hf
    subst hr1
    subst hu
    subst hQ
    exact g_iret C0 hG hr dX7_hears_16
  · have hf := gif_f c2 hf
    refine lv_iload_n hx hb dX7_hears_8 rfl (lv_at hl 2 rfl) ?_
    obtain ⟨r3, hc3, hf⟩ := pb_s hf
    refine g_doI0 hG (g_runS C0 hG (k_X7_isTale l D base Z u p2 r3 hc3) m_X7_isTale s_X7_isTale w_415 (by decide) rfl hl.1 rfl (Nat.le_of_ble_eq_true rfl) dX7_hears_9 ⟨Nat.zero_le _, Nat.zero_le _⟩) (fun H locs hG hk => ?_)
    refine lv_if_ne (tgt := 17) hx hb dX7_hears_12 (by decide) (fun c4 => ?_) (fun c4 => ?_)
    · have hf := gif_f c4 hf
      refine lv_aload_n hx hb dX7_hears_17 rfl (lv_at hl 0 rfl) ?_
      refine g_getSa (o := 13) (a := 13) C0 hG (L0 hG) rfl 1 (by decide) rfl rfl w_330 dX7_hears_18 ?_
      refine lv_aload_n hx hb dX7_hears_21 rfl (lv_at hl 0 rfl) ?_
      refine g_getSa (o := 1) (a := 1) C0 hG (L0 hG) rfl 0 (by decide) rfl rfl w_329 dX7_hears_22 ?_
      obtain ⟨_, u5, hc5, hf⟩ := obind_s hf
      refine g_doV0 hG (g_runVN C0 hG (k_X6_becomeLike l D base Z u 13 1 u5 O13 O1 hc5) m_X6_becomeLike v_X6_becomeLike w_663 (by decide) (g_recv C0 hG (L13 hG) rfl) rfl hl.1 rfl (Nat.le_of_ble_eq_true rfl) dX7_hears_25 ⟨Nat.zero_le _, Nat.zero_le _⟩) (fun H locs hG hk => ?_)
      refine lv_iconst (v := (0 : Int32)) hx hb dX7_hears_28 (by decide) ?_
      refine lv_istore_n (lv' := [(3, .int (0 : Int32)), (0, .ref (base + 0)), (1, .int p1), (2, .int p2)]) hx hb dX7_hears_29 rfl hl (by decide) rfl (fun ls hl => ?_)
      have loop6 : ∀ (n6 : Nat) (x3_6 : Int32) (u6 : Mem) (H : Heap) (locs : List Loc) (ls : Array Slot), gH D base s u6 H locs → lv_has ls 4 [(0, .ref (base + 0)), (1, .int p1), (2, .int p2), (3, .int x3_6)] → whileO (fun s => f_X7_hears_L30 p1 p2 s.1 s.2) n6 (x3_6, u6) = some (r, u') → W p l e (gRm 7 0 0) s m ([.ref (base + 0), .int p1, .int p2] : List Value).toArray below meth c H locs 0 0 Q (F0 m 30 ls []) := by
        intro n6
        induction n6 with
        | zero => intro x3_6 u6 H locs ls hG hl hf; cases hf
        | succ n6 ih6 =>
          intro x3_6 u6 H locs ls hG hl hf
          obtain ⟨X6, hf, hX6⟩ := while_s hf
          have hf : f_X7_hears_L30 p1 p2 x3_6 u6 = some X6 := hf
          unfold f_X7_hears_L30 at hf
          refine lv_iload_n hx hb dX7_hears_30 rfl (lv_at hl 3 rfl) ?_
          refine lv_bipush (v := (30 : Int32)) hx hb dX7_hears_31 (by decide) ?_
          refine lv_icmp_gt (tgt := 64) hx hb dX7_hears_33 (by decide) (fun c7 => ?_) (fun c7 => ?_)
          · have hf := gif_t c7 hf
            refine lv_bipush (v := (-5 : Int32)) hx hb dX7_hears_64 (by decide) ?_
            have hf := while_r hX6 hf
            obtain ⟨hr1, hu⟩ := gret_s hf
            subst hr1
            subst hu
            subst hQ
            exact g_iret C0 hG hr dX7_hears_66
          · have hf := gif_f c7 hf
            refine lv_aload_n hx hb dX7_hears_36 rfl (lv_at hl 0 rfl) ?_
            refine g_getSa (o := 13) (a := 13) C0 hG (L0 hG) rfl 1 (by decide) rfl rfl w_330 dX7_hears_37 ?_
            refine lv_iload_n hx hb dX7_hears_40 rfl (lv_at hl 1 rfl) ?_
            refine lv_iload_n hx hb dX7_hears_41 rfl (lv_at hl 2 rfl) ?_
            obtain ⟨r8, hc8, hf⟩ := pb_s hf
            refine g_doI0 hG (g_runVN C0 hG (k_X6_knowsOf l D base Z u6 13 p1 p2 r8 O13 hc8) m_X6_knowsOf v_X6_knowsOf w_678 (by decide) (g_recv C0 hG (L13 hG) rfl) rfl hl.1 rfl (Nat.le_of_ble_eq_true rfl) dX7_hears_42 ⟨Nat.zero_le _, Nat.zero_le _⟩) (fun H locs hG hk => ?_)
            refine lv_if_eq (tgt := 50) hx hb dX7_hears_45 (by decide) (fun c9 => ?_) (fun c9 => ?_)
            · have hf := gif_t c9 hf
              refine lv_aload_n hx hb dX7_hears_50 rfl (lv_at hl 0 rfl) ?_
              refine g_getSa (o := 13) (a := 13) C0 hG (L0 hG) rfl 1 (by decide) rfl rfl w_330 dX7_hears_51 ?_
              refine lv_iconst (v := (1 : Int32)) hx hb dX7_hears_54 (by decide) ?_
              obtain ⟨_, u10, hc10, hf⟩ := obind_s hf
              refine g_doV0 hG (g_runVN C0 hG (k_X6_ride l D base Z u6 13 (1 : Int32) u10 O13 hc10) m_X6_ride v_X6_ride w_644 (by decide) (g_recv C0 hG (L13 hG) rfl) rfl hl.1 rfl (Nat.le_of_ble_eq_true rfl) dX7_hears_55 ⟨Nat.zero_le _, Nat.zero_le _⟩) (fun H locs hG hk => ?_)
              refine lv_iinc (v := x3_6 + (1 : Int32)) (lv' := [(3, .int (x3_6 + (1 : Int32))), (0, .ref (base + 0)), (1, .int p1), (2, .int p2)]) hx hb dX7_hears_58 hl (k := 3) rfl rfl (by decide) rfl (fun ls hl => ?_)
              refine lv_goto (tgt := 30) hx hb dX7_hears_61 (by decide) ?_
              have hf := while_l hX6 hf
              exact ih6 (x3_6 + (1 : Int32)) u10 _ _ ls hG (lv_sub hl [1, 2, 3, 0] rfl) hf
            · have hf := gif_f c9 hf
              refine lv_iload_n hx hb dX7_hears_48 rfl (lv_at hl 3 rfl) ?_
              have hf := while_r hX6 hf
              obtain ⟨hr1, hu⟩ := gret_s hf
              subst hr1
              subst hu
              subst hQ
              exact g_iret C0 hG hr dX7_hears_49
      exact loop6 FUEL (0 : Int32) u5 _ _ ls hG (lv_sub hl [1, 2, 3, 0] rfl) hf
    · have hf := gif_t c4 hf
      refine lv_iconst (v := (-1 : Int32)) hx hb dX7_hears_15 (by decide) ?_
      obtain ⟨hr1, hu⟩ := gret_s hf
      subst hr1
      subst hu
      subst hQ
      exact g_iret C0 hG hr dX7_hears_16
theorem dX7_best_0 : decode cX7_best 0 = .ok (.aload_n 0, 1) := by decide +kernel
theorem dX7_best_1 : decode cX7_best 1 = .ok (.iload_n 1, 1) := by decide +kernel
theorem dX7_best_2 : decode cX7_best 2 = .ok (.invokevirtual 74, 3) := by decide +kernel
theorem dX7_best_5 : decode cX7_best 5 = .ok (.ifCond .ne 5, 3) := by decide +kernel
theorem dX7_best_8 : decode cX7_best 8 = .ok (.iconst (-1), 1) := by decide +kernel
theorem dX7_best_9 : decode cX7_best 9 = .ok (.ireturn, 1) := by decide +kernel
theorem dX7_best_10 : decode cX7_best 10 = .ok (.iload_n 2, 1) := by decide +kernel
theorem dX7_best_11 : decode cX7_best 11 = .ok (.iconst 1, 1) := by decide +kernel
theorem dX7_best_12 : decode cX7_best 12 = .ok (.if_icmp .lt 9, 3) := by decide +kernel
theorem dX7_best_15 : decode cX7_best 15 = .ok (.iload_n 2, 1) := by decide +kernel
theorem dX7_best_16 : decode cX7_best 16 = .ok (.bipush 10, 2) := by decide +kernel
theorem dX7_best_18 : decode cX7_best 18 = .ok (.if_icmp .le 6, 3) := by decide +kernel
theorem dX7_best_21 : decode cX7_best 21 = .ok (.bipush (-2), 2) := by decide +kernel
theorem dX7_best_23 : decode cX7_best 23 = .ok (.ireturn, 1) := by decide +kernel
theorem dX7_best_24 : decode cX7_best 24 = .ok (.iconst 0, 1) := by decide +kernel
theorem dX7_best_25 : decode cX7_best 25 = .ok (.istore_n 3, 1) := by decide +kernel
theorem dX7_best_26 : decode cX7_best 26 = .ok (.iconst (-1), 1) := by decide +kernel
theorem dX7_best_27 : decode cX7_best 27 = .ok (.istore 4, 2) := by decide +kernel
theorem dX7_best_29 : decode cX7_best 29 = .ok (.iconst (-1), 1) := by decide +kernel
theorem dX7_best_30 : decode cX7_best 30 = .ok (.istore 5, 2) := by decide +kernel
theorem dX7_best_32 : decode cX7_best 32 = .ok (.iconst 0, 1) := by decide +kernel
theorem dX7_best_33 : decode cX7_best 33 = .ok (.istore 6, 2) := by decide +kernel
theorem dX7_best_35 : decode cX7_best 35 = .ok (.iload 6, 2) := by decide +kernel
theorem dX7_best_37 : decode cX7_best 37 = .ok (.iconst 4, 1) := by decide +kernel
theorem dX7_best_38 : decode cX7_best 38 = .ok (.if_icmp .ge 96, 3) := by decide +kernel
theorem dX7_best_41 : decode cX7_best 41 = .ok (.aload_n 0, 1) := by decide +kernel
theorem dX7_best_42 : decode cX7_best 42 = .ok (.getfield 18, 3) := by decide +kernel
theorem dX7_best_45 : decode cX7_best 45 = .ok (.aload_n 0, 1) := by decide +kernel
theorem dX7_best_46 : decode cX7_best 46 = .ok (.getfield 12, 3) := by decide +kernel
theorem dX7_best_49 : decode cX7_best 49 = .ok (.invokevirtual 168, 3) := by decide +kernel
theorem dX7_best_52 : decode cX7_best 52 = .ok (.aload_n 0, 1) := by decide +kernel
theorem dX7_best_53 : decode cX7_best 53 = .ok (.getfield 18, 3) := by decide +kernel
theorem dX7_best_56 : decode cX7_best 56 = .ok (.getfield 85, 3) := by decide +kernel
theorem dX7_best_59 : decode cX7_best 59 = .ok (.iload_n 1, 1) := by decide +kernel
theorem dX7_best_60 : decode cX7_best 60 = .ok (.iload 6, 2) := by decide +kernel
theorem dX7_best_62 : decode cX7_best 62 = .ok (.iastore, 1) := by decide +kernel
theorem dX7_best_63 : decode cX7_best 63 = .ok (.aload_n 0, 1) := by decide +kernel
theorem dX7_best_64 : decode cX7_best 64 = .ok (.getfield 18, 3) := by decide +kernel
theorem dX7_best_67 : decode cX7_best 67 = .ok (.iload_n 2, 1) := by decide +kernel
theorem dX7_best_68 : decode cX7_best 68 = .ok (.invokevirtual 164, 3) := by decide +kernel
theorem dX7_best_71 : decode cX7_best 71 = .ok (.aload_n 0, 1) := by decide +kernel
theorem dX7_best_72 : decode cX7_best 72 = .ok (.getfield 18, 3) := by decide +kernel
theorem dX7_best_75 : decode cX7_best 75 = .ok (.getfield 154, 3) := by decide +kernel
theorem dX7_best_78 : decode cX7_best 78 = .ok (.iload 4, 2) := by decide +kernel
theorem dX7_best_80 : decode cX7_best 80 = .ok (.if_icmp .gt 27, 3) := by decide +kernel
theorem dX7_best_83 : decode cX7_best 83 = .ok (.aload_n 0, 1) := by decide +kernel
theorem dX7_best_84 : decode cX7_best 84 = .ok (.getfield 18, 3) := by decide +kernel
theorem dX7_best_87 : decode cX7_best 87 = .ok (.getfield 154, 3) := by decide +kernel
theorem dX7_best_90 : decode cX7_best 90 = .ok (.iload 4, 2) := by decide +kernel
theorem dX7_best_92 : decode cX7_best 92 = .ok (.if_icmp .ne 36, 3) := by decide +kernel
theorem dX7_best_95 : decode cX7_best 95 = .ok (.aload_n 0, 1) := by decide +kernel
theorem dX7_best_96 : decode cX7_best 96 = .ok (.getfield 18, 3) := by decide +kernel
theorem dX7_best_99 : decode cX7_best 99 = .ok (.getfield 151, 3) := by decide +kernel
theorem dX7_best_102 : decode cX7_best 102 = .ok (.iload 5, 2) := by decide +kernel
theorem dX7_best_104 : decode cX7_best 104 = .ok (.if_icmp .le 24, 3) := by decide +kernel
theorem dX7_best_107 : decode cX7_best 107 = .ok (.iload 6, 2) := by decide +kernel
theorem dX7_best_109 : decode cX7_best 109 = .ok (.istore_n 3, 1) := by decide +kernel
theorem dX7_best_110 : decode cX7_best 110 = .ok (.aload_n 0, 1) := by decide +kernel
theorem dX7_best_111 : decode cX7_best 111 = .ok (.getfield 18, 3) := by decide +kernel
theorem dX7_best_114 : decode cX7_best 114 = .ok (.getfield 154, 3) := by decide +kernel
theorem dX7_best_117 : decode cX7_best 117 = .ok (.istore 4, 2) := by decide +kernel
theorem dX7_best_119 : decode cX7_best 119 = .ok (.aload_n 0, 1) := by decide +kernel
theorem dX7_best_120 : decode cX7_best 120 = .ok (.getfield 18, 3) := by decide +kernel
theorem dX7_best_123 : decode cX7_best 123 = .ok (.getfield 151, 3) := by decide +kernel
theorem dX7_best_126 : decode cX7_best 126 = .ok (.istore 5, 2) := by decide +kernel
theorem dX7_best_128 : decode cX7_best 128 = .ok (.iinc 6 1, 3) := by decide +kernel
theorem dX7_best_131 : decode cX7_best 131 = .ok (.goto (-96), 3) := by decide +kernel
theorem dX7_best_134 : decode cX7_best 134 = .ok (.iload_n 3, 1) := by decide +kernel
theorem dX7_best_135 : decode cX7_best 135 = .ok (.ireturn, 1) := by decide +kernel
def f_X7_best_L35 (p1 : Int32) (p2 : Int32) (x3_5 : Int32) (x4_5 : Int32) (x5_5 : Int32) (x6_5 : Int32) (u5 : Mem) : Option ((Int32 × Int32 × Int32 × Int32 × Mem) ⊕ (Int32 × Mem)) := (if (4 : Int32) ≤ x6_5 then some (Sum.inr (x3_5, u5)) else obind (f_X6_becomeLike 13 1 u5) (fun _ u7 => gin p1 6 (obind (f_X6_ride 13 p2 (sA u7 18 p1.toNatClampNeg x6_5)) (fun _ u9 => (if x4_5 < (gI u9 13 11) then some (Sum.inl (x6_5, (gI u9 13 11, (gI u9 13 10, (x6_5 + (1 : Int32), u9))))) else (if (gI u9 13 11) = x4_5 then (if (gI u9 13 10) ≤ x5_5 then some (Sum.inl (x3_5, (x4_5, (x5_5, (x6_5 + (1 : Int32), u9))))) else some (Sum.inl (x6_5, (gI u9 13 11, (gI u9 13 10, (x6_5 + (1 : Int32), u9)))))) else some (Sum.inl (x3_5, (x4_5, (x5_5, (x6_5 + (1 : Int32), u9)))))))))))
def f_X7_best (p1 : Int32) (p2 : Int32) (u : Mem) : Option (Int32 × Mem) := Option.bind (f_X7_isPerson p1 u) (fun r1 => (if r1 = 0 then some ((-1 : Int32), u) else (if p2 < (1 : Int32) then some ((-2 : Int32), u) else (if p2 ≤ (10 : Int32) then whileO (fun s => f_X7_best_L35 p1 p2 s.1 s.2.1 s.2.2.1 s.2.2.2.1 s.2.2.2.2) FUEL ((0 : Int32), ((-1 : Int32), ((-1 : Int32), ((0 : Int32), u)))) else some ((-2 : Int32), u)))))
set_option maxHeartbeats 4000000 in
set_option maxRecDepth 100000 in
theorem k_X7_best (l : Launch) (D : gDt) (base : Nat) (Z : gZt) (u : Mem) (p1 : Int32) (p2 : Int32) (r : Int32) (u' : Mem) (hf : f_X7_best p1 p2 u = some (r, u')) : Met l yX7_best (gws yX7_best cX7_best 7 (some .int)) (gRm 7 0 0) (gPc D base Z u [.ref (base + 0), .int p1, .int p2]) (gQi D base r u') 0 0 (gF base) := by
  refine Met.ofW (cc := cX7_best) (maxL := 7) (ret := some .int) (by decide) rfl ?_
  intro p e s m args below meth c s₁ B hml hv
  obtain ⟨rfl, C0, hG⟩ := g_enter B hml hv
  have hr := B.returns
  have C0 : gC p s m meth c _ cX7_best 7 RX7 D base Z := C0
  have hx := C0.1
  have hb := C0.2.1
  have hl := lv_entry ([.ref (base + 0), .int p1, .int p2]) (n := 7) (Nat.le_of_ble_eq_true rfl)
  rw [lg_entry_eq]
  generalize (lg_sl ([.ref (base + 0), .int p1, .int p2]) ++ List.replicate (7 - (lg_sl ([.ref (base + 0), .int p1, .int p2])).length) Slot.unset).toArray = ls at hl ⊢
  have hl : lv_has ls 7 [(0, .ref (base + 0)), (1, .int p1), (2, .int p2)] := hl
  obtain ⟨Q, hQ⟩ : ∃ Q, Q = MQ below (gQi D base r u') ([.ref (base + 0), .int p1, .int p2] : List Value).toArray s 0 0 (gF base) := ⟨_, rfl⟩
  rw [← hQ]
  change W p l e (gRm 7 0 0) s m _ below meth c _ _ _ _ _ _
  unfold f_X7_best at hf
  refine lv_aload_n hx hb dX7_best_0 rfl (lv_at hl 0 rfl) ?_
  refine lv_iload_n hx hb dX7_best_1 rfl (lv_at hl 1 rfl) ?_
  obtain ⟨r1, hc1, hf⟩ := pb_s hf
  refine g_doI0 hG (g_runV C0 hG (k_X7_isPerson l D base Z u p1 r1 hc1) m_X7_isPerson v_X7_isPerson w_378 (by decide) (g_recv C0 hG (L0 hG) rfl) rfl hl.1 rfl (Nat.le_of_ble_eq_true rfl) dX7_best_2 ⟨Nat.zero_le _, Nat.zero_le _⟩) (fun H locs hG hk => ?_)
  refine lv_if_ne (tgt := 10) hx hb dX7_best_5 (by decide) (fun c2 => ?_) (fun c2 => ?_)
  · have hf := gif_f c2 hf
    refine lv_iload_n hx hb dX7_best_10 rfl (lv_at hl 2 rfl) ?_
    refine lv_iconst (v := (1 : Int32)) hx hb dX7_best_11 (by decide) ?_
    refine lv_icmp_lt (tgt := 21) hx hb dX7_best_12 (by decide) (fun c3 => ?_) (fun c3 => ?_)
    · have hf := gif_t c3 hf
      refine lv_bipush (v := (-2 : Int32)) hx hb dX7_best_21 (by decide) ?_
      obtain ⟨hr1, hu⟩ := gret_s hf
      subst hr1
      subst hu
      subst hQ
      exact g_iret C0 hG hr dX7_best_23
    · have hf := gif_f c3 hf
      refine lv_iload_n hx hb dX7_best_15 rfl (lv_at hl 2 rfl) ?_
      refine lv_bipush (v := (10 : Int32)) hx hb dX7_best_16 (by decide) ?_
      refine lv_icmp_le (tgt := 24) hx hb dX7_best_18 (by decide) (fun c4 => ?_) (fun c4 => ?_)
      · have hf := gif_t c4 hf
        refine lv_iconst (v := (0 : Int32)) hx hb dX7_best_24 (by decide) ?_
        refine lv_istore_n (lv' := [(3, .int (0 : Int32)), (0, .ref (base + 0)), (1, .int p1), (2, .int p2)]) hx hb dX7_best_25 rfl hl (by decide) rfl (fun ls hl => ?_)
        refine lv_iconst (v := (-1 : Int32)) hx hb dX7_best_26 (by decide) ?_
        refine lv_istore (lv' := [(4, .int (-1 : Int32)), (3, .int (0 : Int32)), (0, .ref (base + 0)), (1, .int p1), (2, .int p2)]) hx hb dX7_best_27 hl (by decide) rfl (fun ls hl => ?_)
        refine lv_iconst (v := (-1 : Int32)) hx hb dX7_best_29 (by decide) ?_
        refine lv_istore (lv' := [(5, .int (-1 : Int32)), (4, .int (-1 : Int32)), (3, .int (0 : Int32)), (0, .ref (base + 0)), (1, .int p1), (2, .int p2)]) hx hb dX7_best_30 hl (by decide) rfl (fun ls hl => ?_)
        refine lv_iconst (v := (0 : Int32)) hx hb dX7_best_32 (by decide) ?_
        refine lv_istore (lv' := [(6, .int (0 : Int32)), (5, .int (-1 : Int32)), (4, .int (-1 : Int32)), (3, .int (0 : Int32)), (0, .ref (base + 0)), (1, .int p1), (2, .int p2)]) hx hb dX7_best_33 hl (by decide) rfl (fun ls hl => ?_)
        have loop5 : ∀ (n5 : Nat) (x3_5 : Int32) (x4_5 : Int32) (x5_5 : Int32) (x6_5 : Int32) (u5 : Mem) (H : Heap) (locs : List Loc) (ls : Array Slot), gH D base s u5 H locs → lv_has ls 7 [(0, .ref (base + 0)), (1, .int p1), (2, .int p2), (3, .int x3_5), (4, .int x4_5), (5, .int x5_5), (6, .int x6_5)] → whileO (fun s => f_X7_best_L35 p1 p2 s.1 s.2.1 s.2.2.1 s.2.2.2.1 s.2.2.2.2) n5 (x3_5, (x4_5, (x5_5, (x6_5, u5)))) = some (r, u') → W p l e (gRm 7 0 0) s m ([.ref (base + 0), .int p1, .int p2] : List Value).toArray below meth c H locs 0 0 Q (F0 m 35 ls []) := by
          intro n5
          induction n5 with
          | zero => intro x3_5 x4_5 x5_5 x6_5 u5 H locs ls hG hl hf; cases hf
          | succ n5 ih5 =>
            intro x3_5 x4_5 x5_5 x6_5 u5 H locs ls hG hl hf
            obtain ⟨X5, hf, hX5⟩ := while_s hf
            have hf : f_X7_best_L35 p1 p2 x3_5 x4_5 x5_5 x6_5 u5 = some X5 := hf
            unfold f_X7_best_L35 at hf
            refine lv_iload hx hb dX7_best_35 (lv_at hl 6 rfl) ?_
            refine lv_iconst (v := (4 : Int32)) hx hb dX7_best_37 (by decide) ?_
            refine lv_icmp_ge (tgt := 134) hx hb dX7_best_38 (by decide) (fun c6 => ?_) (fun c6 => ?_)
            · have hf := gif_t c6 hf
              refine lv_iload_n hx hb dX7_best_134 rfl (lv_at hl 3 rfl) ?_
              have hf := while_r hX5 hf
              obtain ⟨hr1, hu⟩ := gret_s hf
              subst hr1
              subst hu
              subst hQ
              exact g_iret C0 hG hr dX7_best_135
            · have hf := gif_f c6 hf
              refine lv_aload_n hx hb dX7_best_41 rfl (lv_at hl 0 rfl) ?_
              refine g_getSa (o := 13) (a := 13) C0 hG (L0 hG) rfl 1 (by decide) rfl rfl w_330 dX7_best_42 ?_
              refine lv_aload_n hx hb dX7_best_45 rfl (lv_at hl 0 rfl) ?_
              refine g_getSa (o := 1) (a := 1) C0 hG (L0 hG) rfl 0 (by decide) rfl rfl w_329 dX7_best_46 ?_
              obtain ⟨_, u7, hc7, hf⟩ := obind_s hf
              refine g_doV0 hG (g_runVN C0 hG (k_X6_becomeLike l D base Z u5 13 1 u7 O13 O1 hc7) m_X6_becomeLike v_X6_becomeLike w_663 (by decide) (g_recv C0 hG (L13 hG) rfl) rfl hl.1 rfl (Nat.le_of_ble_eq_true rfl) dX7_best_49 ⟨Nat.zero_le _, Nat.zero_le _⟩) (fun H locs hG hk => ?_)
              refine lv_aload_n hx hb dX7_best_52 rfl (lv_at hl 0 rfl) ?_
              refine g_getSa (o := 13) (a := 13) C0 hG (L0 hG) rfl 1 (by decide) rfl rfl w_330 dX7_best_53 ?_
              refine g_getSaN (o := 5) (a := 18) C0 hG (L13 hG) rfl 4 (by decide) rfl rfl w_163 dX7_best_56 ?_
              refine lv_iload_n hx hb dX7_best_59 rfl (lv_at hl 1 rfl) ?_
              refine lv_iload hx hb dX7_best_60 (lv_at hl 6 rfl) ?_
              obtain ⟨h8, hf⟩ := gin_s hf
              refine g_iast C0 hG (L18 hG) h8 dX7_best_62 (fun H locs hG => ?_)
              refine lv_aload_n hx hb dX7_best_63 rfl (lv_at hl 0 rfl) ?_
              refine g_getSa (o := 13) (a := 13) C0 hG (L0 hG) rfl 1 (by decide) rfl rfl w_330 dX7_best_64 ?_
              refine lv_iload_n hx hb dX7_best_67 rfl (lv_at hl 2 rfl) ?_
              obtain ⟨_, u9, hc9, hf⟩ := obind_s hf
              refine g_doV0 hG (g_runVN C0 hG (k_X6_ride l D base Z (sA u7 18 p1.toNatClampNeg x6_5) 13 p2 u9 O13 hc9) m_X6_ride v_X6_ride w_644 (by decide) (g_recv C0 hG (L13 hG) rfl) rfl hl.1 rfl (Nat.le_of_ble_eq_true rfl) dX7_best_68 ⟨Nat.zero_le _, Nat.zero_le _⟩) (fun H locs hG hk => ?_)
              refine lv_aload_n hx hb dX7_best_71 rfl (lv_at hl 0 rfl) ?_
              refine g_getSa (o := 13) (a := 13) C0 hG (L0 hG) rfl 1 (by decide) rfl rfl w_330 dX7_best_72 ?_
              refine g_getIN C0 hG (L13 hG) rfl 11 (by decide) rfl w_176 dX7_best_75 ?_
              refine lv_iload hx hb dX7_best_78 (lv_at hl 4 rfl) ?_
              refine lv_icmp_gt (tgt := 107) hx hb dX7_best_80 (by decide) (fun c10 => ?_) (fun c10 => ?_)
              · have hf := gif_t c10 hf
                refine lv_iload hx hb dX7_best_107 (lv_at hl 6 rfl) ?_
                refine lv_istore_n (lv' := [(3, .int x6_5), (0, .ref (base + 0)), (1, .int p1), (2, .int p2), (4, .int x4_5), (5, .int x5_5), (6, .int x6_5)]) hx hb dX7_best_109 rfl hl (by decide) rfl (fun ls hl => ?_)
                refine lv_aload_n hx hb dX7_best_110 rfl (lv_at hl 1 rfl) ?_
                refine g_getSa (o := 13) (a := 13) C0 hG (L0 hG) rfl 1 (by decide) rfl rfl w_330 dX7_best_111 ?_
                refine g_getIN C0 hG (L13 hG) rfl 11 (by decide) rfl w_176 dX7_best_114 ?_
                refine lv_istore (lv' := [(4, .int (gI u9 13 11)), (3, .int x6_5), (0, .ref (base + 0)), (1, .int p1), (2, .int p2), (5, .int x5_5), (6, .int x6_5)]) hx hb dX7_best_117 hl (by decide) rfl (fun ls hl => ?_)
                refine lv_aload_n hx hb dX7_best_119 rfl (lv_at hl 2 rfl) ?_
                refine g_getSa (o := 13) (a := 13) C0 hG (L0 hG) rfl 1 (by decide) rfl rfl w_330 dX7_best_120 ?_
                refine g_getIN C0 hG (L13 hG) rfl 10 (by decide) rfl w_174 dX7_best_123 ?_
                refine lv_istore (lv' := [(5, .int (gI u9 13 10)), (4, .int (gI u9 13 11)), (3, .int x6_5), (0, .ref (base + 0)), (1, .int p1), (2, .int p2), (6, .int x6_5)]) hx hb dX7_best_126 hl (by decide) rfl (fun ls hl => ?_)
                refine lv_iinc (v := x6_5 + (1 : Int32)) (lv' := [(6, .int (x6_5 + (1 : Int32))), (5, .int (gI u9 13 10)), (4, .int (gI u9 13 11)), (3, .int x6_5), (0, .ref (base + 0)), (1, .int p1), (2, .int p2)]) hx hb dX7_best_128 hl (k := 6) rfl rfl (by decide) rfl (fun ls hl => ?_)
                refine lv_goto (tgt := 35) hx hb dX7_best_131 (by decide) ?_
                have hf := while_l hX5 hf
                exact ih5 x6_5 (gI u9 13 11) (gI u9 13 10) (x6_5 + (1 : Int32)) u9 _ _ ls hG (lv_sub hl [4, 5, 6, 3, 2, 1, 0] rfl) hf
              · have hf := gif_f c10 hf
                refine lv_aload_n hx hb dX7_best_83 rfl (lv_at hl 0 rfl) ?_
                refine g_getSa (o := 13) (a := 13) C0 hG (L0 hG) rfl 1 (by decide) rfl rfl w_330 dX7_best_84 ?_
                refine g_getIN C0 hG (L13 hG) rfl 11 (by decide) rfl w_176 dX7_best_87 ?_
                refine lv_iload hx hb dX7_best_90 (lv_at hl 4 rfl) ?_
                refine lv_icmp_ne (tgt := 128) hx hb dX7_best_92 (by decide) (fun c11 => ?_) (fun c11 => ?_)
                · have hf := gif_f c11 hf
                  refine lv_iinc (v := x6_5 + (1 : Int32)) (lv' := [(6, .int (x6_5 + (1 : Int32))), (0, .ref (base + 0)), (1, .int p1), (2, .int p2), (3, .int x3_5), (4, .int x4_5), (5, .int x5_5)]) hx hb dX7_best_128 hl (k := 6) rfl rfl (by decide) rfl (fun ls hl => ?_)
                  refine lv_goto (tgt := 35) hx hb dX7_best_131 (by decide) ?_
                  have hf := while_l hX5 hf
                  exact ih5 x3_5 x4_5 x5_5 (x6_5 + (1 : Int32)) u9 _ _ ls hG (lv_sub hl [1, 2, 3, 4, 5, 6, 0] rfl) hf
                · have hf := gif_t c11 hf
                  refine lv_aload_n hx hb dX7_best_95 rfl (lv_at hl 0 rfl) ?_
                  refine g_getSa (o := 13) (a := 13) C0 hG (L0 hG) rfl 1 (by decide) rfl rfl w_330 dX7_best_96 ?_
                  refine g_getIN C0 hG (L13 hG) rfl 10 (by decide) rfl w_174 dX7_best_99 ?_
                  refine lv_iload hx hb dX7_best_102 (lv_at hl 5 rfl) ?_
                  refine lv_icmp_le (tgt := 128) hx hb dX7_best_104 (by decide) (fun c12 => ?_) (fun c12 => ?_)
                  · have hf := gif_t c12 hf
                    refine lv_iinc (v := x6_5 + (1 : Int32)) (lv' := [(6, .int (x6_5 + (1 : Int32))), (0, .ref (base + 0)), (1, .int p1), (2, .int p2), (3, .int x3_5), (4, .int x4_5), (5, .int x5_5)]) hx hb dX7_best_128 hl (k := 6) rfl rfl (by decide) rfl (fun ls hl => ?_)
                    refine lv_goto (tgt := 35) hx hb dX7_best_131 (by decide) ?_
                    have hf := while_l hX5 hf
                    exact ih5 x3_5 x4_5 x5_5 (x6_5 + (1 : Int32)) u9 _ _ ls hG (lv_sub hl [1, 2, 3, 4, 5, 6, 0] rfl) hf
                  · have hf := gif_f c12 hf
                    refine lv_iload hx hb dX7_best_107 (lv_at hl 6 rfl) ?_
                    refine lv_istore_n (lv' := [(3, .int x6_5), (0, .ref (base + 0)), (1, .int p1), (2, .int p2), (4, .int x4_5), (5, .int x5_5), (6, .int x6_5)]) hx hb dX7_best_109 rfl hl (by decide) rfl (fun ls hl => ?_)
                    refine lv_aload_n hx hb dX7_best_110 rfl (lv_at hl 1 rfl) ?_
                    refine g_getSa (o := 13) (a := 13) C0 hG (L0 hG) rfl 1 (by decide) rfl rfl w_330 dX7_best_111 ?_
                    refine g_getIN C0 hG (L13 hG) rfl 11 (by decide) rfl w_176 dX7_best_114 ?_
                    refine lv_istore (lv' := [(4, .int (gI u9 13 11)), (3, .int x6_5), (0, .ref (base + 0)), (1, .int p1), (2, .int p2), (5, .int x5_5), (6, .int x6_5)]) hx hb dX7_best_117 hl (by decide) rfl (fun ls hl => ?_)
                    refine lv_aload_n hx hb dX7_best_119 rfl (lv_at hl 2 rfl) ?_
                    refine g_getSa (o := 13) (a := 13) C0 hG (L0 hG) rfl 1 (by decide) rfl rfl w_330 dX7_best_120 ?_
                    refine g_getIN C0 hG (L13 hG) rfl 10 (by decide) rfl w_174 dX7_best_123 ?_
                    refine lv_istore (lv' := [(5, .int (gI u9 13 10)), (4, .int (gI u9 13 11)), (3, .int x6_5), (0, .ref (base + 0)), (1, .int p1), (2, .int p2), (6, .int x6_5)]) hx hb dX7_best_126 hl (by decide) rfl (fun ls hl => ?_)
                    refine lv_iinc (v := x6_5 + (1 : Int32)) (lv' := [(6, .int (x6_5 + (1 : Int32))), (5, .int (gI u9 13 10)), (4, .int (gI u9 13 11)), (3, .int x6_5), (0, .ref (base + 0)), (1, .int p1), (2, .int p2)]) hx hb dX7_best_128 hl (k := 6) rfl rfl (by decide) rfl (fun ls hl => ?_)
                    refine lv_goto (tgt := 35) hx hb dX7_best_131 (by decide) ?_
                    have hf := while_l hX5 hf
                    exact ih5 x6_5 (gI u9 13 11) (gI u9 13 10) (x6_5 + (1 : Int32)) u9 _ _ ls hG (lv_sub hl [4, 5, 6, 3, 2, 1, 0] rfl) hf
        exact loop5 FUEL (0 : Int32) (-1 : Int32) (-1 : Int32) (0 : Int32) u _ _ ls hG (lv_sub hl [4, 5, 6, 3, 2, 1, 0] rfl) hf
      · have hf := gif_f c4 hf
        refine lv_bipush (v := (-2 : Int32)) hx hb dX7_best_21 (by decide) ?_
        obtain ⟨hr1, hu⟩ := gret_s hf
        subst hr1
        subst hu
        subst hQ
        exact g_iret C0 hG hr dX7_best_23
  · have hf := gif_t c2 hf
    refine lv_iconst (v := (-1 : Int32)) hx hb dX7_best_8 (by decide) ?_
    obtain ⟨hr1, hu⟩ := gret_s hf
    subst hr1
    subst hu
    subst hQ
    exact g_iret C0 hG hr dX7_best_9
theorem dX7_swap_0 : decode cX7_swap 0 = .ok (.iload_n 1, 1) := by decide +kernel
theorem dX7_swap_1 : decode cX7_swap 1 = .ok (.iconst 1, 1) := by decide +kernel
theorem dX7_swap_2 : decode cX7_swap 2 = .ok (.if_icmp .lt 9, 3) := by decide +kernel
theorem dX7_swap_5 : decode cX7_swap 5 = .ok (.iload_n 1, 1) := by decide +kernel
theorem dX7_swap_6 : decode cX7_swap 6 = .ok (.bipush 10, 2) := by decide +kernel
theorem dX7_swap_8 : decode cX7_swap 8 = .ok (.if_icmp .le 6, 3) := by decide +kernel
theorem dX7_swap_11 : decode cX7_swap 11 = .ok (.bipush (-2), 2) := by decide +kernel
theorem dX7_swap_13 : decode cX7_swap 13 = .ok (.ireturn, 1) := by decide +kernel
theorem dX7_swap_14 : decode cX7_swap 14 = .ok (.bipush (-5), 2) := by decide +kernel
theorem dX7_swap_16 : decode cX7_swap 16 = .ok (.istore_n 2, 1) := by decide +kernel
theorem dX7_swap_17 : decode cX7_swap 17 = .ok (.aload_n 0, 1) := by decide +kernel
theorem dX7_swap_18 : decode cX7_swap 18 = .ok (.getfield 18, 3) := by decide +kernel
theorem dX7_swap_21 : decode cX7_swap 21 = .ok (.aload_n 0, 1) := by decide +kernel
theorem dX7_swap_22 : decode cX7_swap 22 = .ok (.getfield 12, 3) := by decide +kernel
theorem dX7_swap_25 : decode cX7_swap 25 = .ok (.invokevirtual 168, 3) := by decide +kernel
theorem dX7_swap_28 : decode cX7_swap 28 = .ok (.aload_n 0, 1) := by decide +kernel
theorem dX7_swap_29 : decode cX7_swap 29 = .ok (.getfield 18, 3) := by decide +kernel
theorem dX7_swap_32 : decode cX7_swap 32 = .ok (.iload_n 1, 1) := by decide +kernel
theorem dX7_swap_33 : decode cX7_swap 33 = .ok (.invokevirtual 164, 3) := by decide +kernel
theorem dX7_swap_36 : decode cX7_swap 36 = .ok (.aload_n 0, 1) := by decide +kernel
theorem dX7_swap_37 : decode cX7_swap 37 = .ok (.getfield 18, 3) := by decide +kernel
theorem dX7_swap_40 : decode cX7_swap 40 = .ok (.getfield 154, 3) := by decide +kernel
theorem dX7_swap_43 : decode cX7_swap 43 = .ok (.istore_n 3, 1) := by decide +kernel
theorem dX7_swap_44 : decode cX7_swap 44 = .ok (.iconst 0, 1) := by decide +kernel
theorem dX7_swap_45 : decode cX7_swap 45 = .ok (.istore 4, 2) := by decide +kernel
theorem dX7_swap_47 : decode cX7_swap 47 = .ok (.iload 4, 2) := by decide +kernel
theorem dX7_swap_49 : decode cX7_swap 49 = .ok (.aload_n 0, 1) := by decide +kernel
theorem dX7_swap_50 : decode cX7_swap 50 = .ok (.getfield 12, 3) := by decide +kernel
theorem dX7_swap_53 : decode cX7_swap 53 = .ok (.getfield 175, 3) := by decide +kernel
theorem dX7_swap_56 : decode cX7_swap 56 = .ok (.if_icmp .ge 120, 3) := by decide +kernel
theorem dX7_swap_59 : decode cX7_swap 59 = .ok (.iload 4, 2) := by decide +kernel
theorem dX7_swap_61 : decode cX7_swap 61 = .ok (.iconst 1, 1) := by decide +kernel
theorem dX7_swap_62 : decode cX7_swap 62 = .ok (.iadd, 1) := by decide +kernel
theorem dX7_swap_63 : decode cX7_swap 63 = .ok (.istore 5, 2) := by decide +kernel
theorem dX7_swap_65 : decode cX7_swap 65 = .ok (.iload 5, 2) := by decide +kernel
theorem dX7_swap_67 : decode cX7_swap 67 = .ok (.aload_n 0, 1) := by decide +kernel
theorem dX7_swap_68 : decode cX7_swap 68 = .ok (.getfield 12, 3) := by decide +kernel
theorem dX7_swap_71 : decode cX7_swap 71 = .ok (.getfield 175, 3) := by decide +kernel
theorem dX7_swap_74 : decode cX7_swap 74 = .ok (.if_icmp .ge 96, 3) := by decide +kernel
theorem dX7_swap_77 : decode cX7_swap 77 = .ok (.aload_n 0, 1) := by decide +kernel
theorem dX7_swap_78 : decode cX7_swap 78 = .ok (.getfield 18, 3) := by decide +kernel
theorem dX7_swap_81 : decode cX7_swap 81 = .ok (.aload_n 0, 1) := by decide +kernel
theorem dX7_swap_82 : decode cX7_swap 82 = .ok (.getfield 12, 3) := by decide +kernel
theorem dX7_swap_85 : decode cX7_swap 85 = .ok (.invokevirtual 168, 3) := by decide +kernel
theorem dX7_swap_88 : decode cX7_swap 88 = .ok (.aload_n 0, 1) := by decide +kernel
theorem dX7_swap_89 : decode cX7_swap 89 = .ok (.getfield 18, 3) := by decide +kernel
theorem dX7_swap_92 : decode cX7_swap 92 = .ok (.getfield 85, 3) := by decide +kernel
theorem dX7_swap_95 : decode cX7_swap 95 = .ok (.iload 4, 2) := by decide +kernel
theorem dX7_swap_97 : decode cX7_swap 97 = .ok (.aload_n 0, 1) := by decide +kernel
theorem dX7_swap_98 : decode cX7_swap 98 = .ok (.getfield 12, 3) := by decide +kernel
theorem dX7_swap_101 : decode cX7_swap 101 = .ok (.getfield 85, 3) := by decide +kernel
theorem dX7_swap_104 : decode cX7_swap 104 = .ok (.iload 5, 2) := by decide +kernel
theorem dX7_swap_106 : decode cX7_swap 106 = .ok (.iaload, 1) := by decide +kernel
theorem dX7_swap_107 : decode cX7_swap 107 = .ok (.iastore, 1) := by decide +kernel
theorem dX7_swap_108 : decode cX7_swap 108 = .ok (.aload_n 0, 1) := by decide +kernel
theorem dX7_swap_109 : decode cX7_swap 109 = .ok (.getfield 18, 3) := by decide +kernel
theorem dX7_swap_112 : decode cX7_swap 112 = .ok (.getfield 85, 3) := by decide +kernel
theorem dX7_swap_115 : decode cX7_swap 115 = .ok (.iload 5, 2) := by decide +kernel
theorem dX7_swap_117 : decode cX7_swap 117 = .ok (.aload_n 0, 1) := by decide +kernel
theorem dX7_swap_118 : decode cX7_swap 118 = .ok (.getfield 12, 3) := by decide +kernel
theorem dX7_swap_121 : decode cX7_swap 121 = .ok (.getfield 85, 3) := by decide +kernel
theorem dX7_swap_124 : decode cX7_swap 124 = .ok (.iload 4, 2) := by decide +kernel
theorem dX7_swap_126 : decode cX7_swap 126 = .ok (.iaload, 1) := by decide +kernel
theorem dX7_swap_127 : decode cX7_swap 127 = .ok (.iastore, 1) := by decide +kernel
theorem dX7_swap_128 : decode cX7_swap 128 = .ok (.aload_n 0, 1) := by decide +kernel
theorem dX7_swap_129 : decode cX7_swap 129 = .ok (.getfield 18, 3) := by decide +kernel
theorem dX7_swap_132 : decode cX7_swap 132 = .ok (.iload_n 1, 1) := by decide +kernel
theorem dX7_swap_133 : decode cX7_swap 133 = .ok (.invokevirtual 164, 3) := by decide +kernel
theorem dX7_swap_136 : decode cX7_swap 136 = .ok (.aload_n 0, 1) := by decide +kernel
theorem dX7_swap_137 : decode cX7_swap 137 = .ok (.getfield 18, 3) := by decide +kernel
theorem dX7_swap_140 : decode cX7_swap 140 = .ok (.getfield 154, 3) := by decide +kernel
theorem dX7_swap_143 : decode cX7_swap 143 = .ok (.iload_n 3, 1) := by decide +kernel
theorem dX7_swap_144 : decode cX7_swap 144 = .ok (.if_icmp .le 20, 3) := by decide +kernel
theorem dX7_swap_147 : decode cX7_swap 147 = .ok (.bipush 10, 2) := by decide +kernel
theorem dX7_swap_149 : decode cX7_swap 149 = .ok (.iload 4, 2) := by decide +kernel
theorem dX7_swap_151 : decode cX7_swap 151 = .ok (.imul, 1) := by decide +kernel
theorem dX7_swap_152 : decode cX7_swap 152 = .ok (.iload 5, 2) := by decide +kernel
theorem dX7_swap_154 : decode cX7_swap 154 = .ok (.iadd, 1) := by decide +kernel
theorem dX7_swap_155 : decode cX7_swap 155 = .ok (.istore_n 2, 1) := by decide +kernel
theorem dX7_swap_156 : decode cX7_swap 156 = .ok (.aload_n 0, 1) := by decide +kernel
theorem dX7_swap_157 : decode cX7_swap 157 = .ok (.getfield 18, 3) := by decide +kernel
theorem dX7_swap_160 : decode cX7_swap 160 = .ok (.getfield 154, 3) := by decide +kernel
theorem dX7_swap_163 : decode cX7_swap 163 = .ok (.istore_n 3, 1) := by decide +kernel
theorem dX7_swap_164 : decode cX7_swap 164 = .ok (.iinc 5 1, 3) := by decide +kernel
theorem dX7_swap_167 : decode cX7_swap 167 = .ok (.goto (-102), 3) := by decide +kernel
theorem dX7_swap_170 : decode cX7_swap 170 = .ok (.iinc 4 1, 3) := by decide +kernel
theorem dX7_swap_173 : decode cX7_swap 173 = .ok (.goto (-126), 3) := by decide +kernel
theorem dX7_swap_176 : decode cX7_swap 176 = .ok (.iload_n 2, 1) := by decide +kernel
theorem dX7_swap_177 : decode cX7_swap 177 = .ok (.ireturn, 1) := by decide +kernel
def f_X7_swap_L65 (p1 : Int32) (x2_7 : Int32) (x3_7 : Int32) (x4_7 : Int32) (x5_7 : Int32) (u7 : Mem) : Option ((Int32 × Int32 × Int32 × Int32 × Mem) ⊕ ((Int32 × Int32 × Int32 × Mem) ⊕ (Int32 × Mem))) := (if (gI u7 1 9) ≤ x5_7 then some (Sum.inr (Sum.inl (x2_7, (x3_7, (x4_7 + (1 : Int32), u7))))) else obind (f_X6_becomeLike 13 1 u7) (fun _ u9 => gin x5_7 6 (gin x4_7 6 (gin x4_7 6 (gin x5_7 6 (obind (f_X6_ride 13 p1 (sA (sA u9 18 x4_7.toNatClampNeg (gA u9 6 x5_7.toNatClampNeg)) 18 x5_7.toNatClampNeg (gA (sA u9 18 x4_7.toNatClampNeg (gA u9 6 x5_7.toNatClampNeg)) 6 x4_7.toNatClampNeg))) (fun _ u14 => (if (gI u14 13 11) ≤ x3_7 then some (Sum.inl (x2_7, (x3_7, (x4_7, (x5_7 + (1 : Int32), u14))))) else some (Sum.inl (((10 : Int32) * x4_7) + x5_7, (gI u14 13 11, (x4_7, (x5_7 + (1 : Int32), u14)))))))))))))
def f_X7_swap_L47 (p1 : Int32) (x2_5 : Int32) (x3_5 : Int32) (x4_5 : Int32) (u5 : Mem) : Option ((Int32 × Int32 × Int32 × Mem) ⊕ (Int32 × Mem)) := (if (gI u5 1 9) ≤ x4_5 then some (Sum.inr (x2_5, u5)) else whileO (fun s => f_X7_swap_L65 p1 s.1 s.2.1 s.2.2.1 s.2.2.2.1 s.2.2.2.2) FUEL (x2_5, (x3_5, (x4_5, (x4_5 + (1 : Int32), u5)))))
def f_X7_swap (p1 : Int32) (u : Mem) : Option (Int32 × Mem) := (if p1 < (1 : Int32) then some ((-2 : Int32), u) else (if p1 ≤ (10 : Int32) then obind (f_X6_becomeLike 13 1 u) (fun _ u3 => obind (f_X6_ride 13 p1 u3) (fun _ u4 => whileO (fun s => f_X7_swap_L47 p1 s.1 s.2.1 s.2.2.1 s.2.2.2) FUEL ((-5 : Int32), (gI u4 13 11, ((0 : Int32), u4))))) else some ((-2 : Int32), u)))
set_option maxHeartbeats 4000000 in
set_option maxRecDepth 100000 in
theorem k_X7_swap (l : Launch) (D : gDt) (base : Nat) (Z : gZt) (u : Mem) (p1 : Int32) (r : Int32) (u' : Mem) (hf : f_X7_swap p1 u = some (r, u')) : Met l yX7_swap (gws yX7_swap cX7_swap 6 (some .int)) (gRm 7 0 0) (gPc D base Z u [.ref (base + 0), .int p1]) (gQi D base r u') 0 0 (gF base) := by
  refine Met.ofW (cc := cX7_swap) (maxL := 6) (ret := some .int) (by decide) rfl ?_
  intro p e s m args below meth c s₁ B hml hv
  obtain ⟨rfl, C0, hG⟩ := g_enter B hml hv
  have hr := B.returns
  have C0 : gC p s m meth c _ cX7_swap 6 RX7 D base Z := C0
  have hx := C0.1
  have hb := C0.2.1
  have hl := lv_entry ([.ref (base + 0), .int p1]) (n := 6) (Nat.le_of_ble_eq_true rfl)
  rw [lg_entry_eq]
  generalize (lg_sl ([.ref (base + 0), .int p1]) ++ List.replicate (6 - (lg_sl ([.ref (base + 0), .int p1])).length) Slot.unset).toArray = ls at hl ⊢
  have hl : lv_has ls 6 [(0, .ref (base + 0)), (1, .int p1)] := hl
  obtain ⟨Q, hQ⟩ : ∃ Q, Q = MQ below (gQi D base r u') ([.ref (base + 0), .int p1] : List Value).toArray s 0 0 (gF base) := ⟨_, rfl⟩
  rw [← hQ]
  change W p l e (gRm 7 0 0) s m _ below meth c _ _ _ _ _ _
  unfold f_X7_swap at hf
  refine lv_iload_n hx hb dX7_swap_0 rfl (lv_at hl 1 rfl) ?_
  refine lv_iconst (v := (1 : Int32)) hx hb dX7_swap_1 (by decide) ?_
  refine lv_icmp_lt (tgt := 11) hx hb dX7_swap_2 (by decide) (fun c1 => ?_) (fun c1 => ?_)
  · have hf := gif_t c1 hf
    refine lv_bipush (v := (-2 : Int32)) hx hb dX7_swap_11 (by decide) ?_
    obtain ⟨hr1, hu⟩ := gret_s hf
    subst hr1
    subst hu
    subst hQ
    exact g_iret C0 hG hr dX7_swap_13
  · have hf := gif_f c1 hf
    refine lv_iload_n hx hb dX7_swap_5 rfl (lv_at hl 1 rfl) ?_
    refine lv_bipush (v := (10 : Int32)) hx hb dX7_swap_6 (by decide) ?_
    refine lv_icmp_le (tgt := 14) hx hb dX7_swap_8 (by decide) (fun c2 => ?_) (fun c2 => ?_)
    · have hf := gif_t c2 hf
      refine lv_bipush (v := (-5 : Int32)) hx hb dX7_swap_14 (by decide) ?_
      refine lv_istore_n (lv' := [(2, .int (-5 : Int32)), (0, .ref (base + 0)), (1, .int p1)]) hx hb dX7_swap_16 rfl hl (by decide) rfl (fun ls hl => ?_)
      refine lv_aload_n hx hb dX7_swap_17 rfl (lv_at hl 1 rfl) ?_
      refine g_getSa (o := 13) (a := 13) C0 hG (L0 hG) rfl 1 (by decide) rfl rfl w_330 dX7_swap_18 ?_
      refine lv_aload_n hx hb dX7_swap_21 rfl (lv_at hl 1 rfl) ?_
      refine g_getSa (o := 1) (a := 1) C0 hG (L0 hG) rfl 0 (by decide) rfl rfl w_329 dX7_swap_22 ?_
      obtain ⟨_, u3, hc3, hf⟩ := obind_s hf
      refine g_doV0 hG (g_runVN C0 hG (k_X6_becomeLike l D base Z u 13 1 u3 O13 O1 hc3) m_X6_becomeLike v_X6_becomeLike w_663 (by decide) (g_recv C0 hG (L13 hG) rfl) rfl hl.1 rfl (Nat.le_of_ble_eq_true rfl) dX7_swap_25 ⟨Nat.zero_le _, Nat.zero_le _⟩) (fun H locs hG hk => ?_)
      refine lv_aload_n hx hb dX7_swap_28 rfl (lv_at hl 1 rfl) ?_
      refine g_getSa (o := 13) (a := 13) C0 hG (L0 hG) rfl 1 (by decide) rfl rfl w_330 dX7_swap_29 ?_
      refine lv_iload_n hx hb dX7_swap_32 rfl (lv_at hl 2 rfl) ?_
      obtain ⟨_, u4, hc4, hf⟩ := obind_s hf
      refine g_doV0 hG (g_runVN C0 hG (k_X6_ride l D base Z u3 13 p1 u4 O13 hc4) m_X6_ride v_X6_ride w_644 (by decide) (g_recv C0 hG (L13 hG) rfl) rfl hl.1 rfl (Nat.le_of_ble_eq_true rfl) dX7_swap_33 ⟨Nat.zero_le _, Nat.zero_le _⟩) (fun H locs hG hk => ?_)
      refine lv_aload_n hx hb dX7_swap_36 rfl (lv_at hl 1 rfl) ?_
      refine g_getSa (o := 13) (a := 13) C0 hG (L0 hG) rfl 1 (by decide) rfl rfl w_330 dX7_swap_37 ?_
      refine g_getIN C0 hG (L13 hG) rfl 11 (by decide) rfl w_176 dX7_swap_40 ?_
      refine lv_istore_n (lv' := [(3, .int (gI u4 13 11)), (2, .int (-5 : Int32)), (0, .ref (base + 0)), (1, .int p1)]) hx hb dX7_swap_43 rfl hl (by decide) rfl (fun ls hl => ?_)
      refine lv_iconst (v := (0 : Int32)) hx hb dX7_swap_44 (by decide) ?_
      refine lv_istore (lv' := [(4, .int (0 : Int32)), (3, .int (gI u4 13 11)), (2, .int (-5 : Int32)), (0, .ref (base + 0)), (1, .int p1)]) hx hb dX7_swap_45 hl (by decide) rfl (fun ls hl => ?_)
      have loop5 : ∀ (n5 : Nat) (x2_5 : Int32) (x3_5 : Int32) (x4_5 : Int32) (u5 : Mem) (H : Heap) (locs : List Loc) (ls : Array Slot), gH D base s u5 H locs → lv_has ls 6 [(0, .ref (base + 0)), (1, .int p1), (2, .int x2_5), (3, .int x3_5), (4, .int x4_5)] → whileO (fun s => f_X7_swap_L47 p1 s.1 s.2.1 s.2.2.1 s.2.2.2) n5 (x2_5, (x3_5, (x4_5, u5))) = some (r, u') → W p l e (gRm 7 0 0) s m ([.ref (base + 0), .int p1] : List Value).toArray below meth c H locs 0 0 Q (F0 m 47 ls []) := by
        intro n5
        induction n5 with
        | zero => intro x2_5 x3_5 x4_5 u5 H locs ls hG hl hf; cases hf
        | succ n5 ih5 =>
          intro x2_5 x3_5 x4_5 u5 H locs ls hG hl hf
          obtain ⟨X5, hf, hX5⟩ := while_s hf
          have hf : f_X7_swap_L47 p1 x2_5 x3_5 x4_5 u5 = some X5 := hf
          unfold f_X7_swap_L47 at hf
          refine lv_iload hx hb dX7_swap_47 (lv_at hl 4 rfl) ?_
          refine lv_aload_n hx hb dX7_swap_49 rfl (lv_at hl 0 rfl) ?_
          refine g_getSa (o := 1) (a := 1) C0 hG (L0 hG) rfl 0 (by decide) rfl rfl w_329 dX7_swap_50 ?_
          refine g_getIN C0 hG (L1 hG) rfl 9 (by decide) rfl w_172 dX7_swap_53 ?_
          refine lv_icmp_ge (tgt := 176) hx hb dX7_swap_56 (by decide) (fun c6 => ?_) (fun c6 => ?_)
          · have hf := gif_t c6 hf
            refine lv_iload_n hx hb dX7_swap_176 rfl (lv_at hl 2 rfl) ?_
            have hf := while_r hX5 hf
            obtain ⟨hr1, hu⟩ := gret_s hf
            subst hr1
            subst hu
            subst hQ
            exact g_iret C0 hG hr dX7_swap_177
          · have hf := gif_f c6 hf
            refine lv_iload hx hb dX7_swap_59 (lv_at hl 4 rfl) ?_
            refine lv_iconst (v := (1 : Int32)) hx hb dX7_swap_61 (by decide) ?_
            refine lv_iadd hx hb dX7_swap_62 ?_
            refine lv_istore (lv' := [(5, .int (x4_5 + (1 : Int32))), (0, .ref (base + 0)), (1, .int p1), (2, .int x2_5), (3, .int x3_5), (4, .int x4_5)]) hx hb dX7_swap_63 hl (by decide) rfl (fun ls hl => ?_)
            have loop7 : ∀ (n7 : Nat) (x2_7 : Int32) (x3_7 : Int32) (x4_7 : Int32) (x5_7 : Int32) (u7 : Mem) (H : Heap) (locs : List Loc) (ls : Array Slot), gH D base s u7 H locs → lv_has ls 6 [(0, .ref (base + 0)), (1, .int p1), (2, .int x2_7), (3, .int x3_7), (4, .int x4_7), (5, .int x5_7)] → whileO (fun s => f_X7_swap_L65 p1 s.1 s.2.1 s.2.2.1 s.2.2.2.1 s.2.2.2.2) n7 (x2_7, (x3_7, (x4_7, (x5_7, u7)))) = some X5 → W p l e (gRm 7 0 0) s m ([.ref (base + 0), .int p1] : List Value).toArray below meth c H locs 0 0 Q (F0 m 65 ls []) := by
              intro n7
              induction n7 with
              | zero => intro x2_7 x3_7 x4_7 x5_7 u7 H locs ls hG hl hf; cases hf
              | succ n7 ih7 =>
                intro x2_7 x3_7 x4_7 x5_7 u7 H locs ls hG hl hf
                obtain ⟨X7, hf, hX7⟩ := while_s hf
                have hf : f_X7_swap_L65 p1 x2_7 x3_7 x4_7 x5_7 u7 = some X7 := hf
                unfold f_X7_swap_L65 at hf
                refine lv_iload hx hb dX7_swap_65 (lv_at hl 5 rfl) ?_
                refine lv_aload_n hx hb dX7_swap_67 rfl (lv_at hl 0 rfl) ?_
                refine g_getSa (o := 1) (a := 1) C0 hG (L0 hG) rfl 0 (by decide) rfl rfl w_329 dX7_swap_68 ?_
                refine g_getIN C0 hG (L1 hG) rfl 9 (by decide) rfl w_172 dX7_swap_71 ?_
                refine lv_icmp_ge (tgt := 170) hx hb dX7_swap_74 (by decide) (fun c8 => ?_) (fun c8 => ?_)
                · have hf := gif_t c8 hf
                  refine lv_iinc (v := x4_7 + (1 : Int32)) (lv' := [(4, .int (x4_7 + (1 : Int32))), (0, .ref (base + 0)), (1, .int p1), (2, .int x2_7), (3, .int x3_7), (5, .int x5_7)]) hx hb dX7_swap_170 hl (k := 4) rfl rfl (by decide) rfl (fun ls hl => ?_)
                  refine lv_goto (tgt := 47) hx hb dX7_swap_173 (by decide) ?_
                  have hf := while_r hX7 hf
                  have hf := while_l hX5 hf
                  exact ih5 x2_7 x3_7 (x4_7 + (1 : Int32)) u7 _ _ ls hG (lv_sub hl [1, 2, 3, 4, 0] rfl) hf
                · have hf := gif_f c8 hf
                  refine lv_aload_n hx hb dX7_swap_77 rfl (lv_at hl 0 rfl) ?_
                  refine g_getSa (o := 13) (a := 13) C0 hG (L0 hG) rfl 1 (by decide) rfl rfl w_330 dX7_swap_78 ?_
                  refine lv_aload_n hx hb dX7_swap_81 rfl (lv_at hl 0 rfl) ?_
                  refine g_getSa (o := 1) (a := 1) C0 hG (L0 hG) rfl 0 (by decide) rfl rfl w_329 dX7_swap_82 ?_
                  obtain ⟨_, u9, hc9, hf⟩ := obind_s hf
                  refine g_doV0 hG (g_runVN C0 hG (k_X6_becomeLike l D base Z u7 13 1 u9 O13 O1 hc9) m_X6_becomeLike v_X6_becomeLike w_663 (by decide) (g_recv C0 hG (L13 hG) rfl) rfl hl.1 rfl (Nat.le_of_ble_eq_true rfl) dX7_swap_85 ⟨Nat.zero_le _, Nat.zero_le _⟩) (fun H locs hG hk => ?_)
                  refine lv_aload_n hx hb dX7_swap_88 rfl (lv_at hl 0 rfl) ?_
                  refine g_getSa (o := 13) (a := 13) C0 hG (L0 hG) rfl 1 (by decide) rfl rfl w_330 dX7_swap_89 ?_
                  refine g_getSaN (o := 5) (a := 18) C0 hG (L13 hG) rfl 4 (by decide) rfl rfl w_163 dX7_swap_92 ?_
                  refine lv_iload hx hb dX7_swap_95 (lv_at hl 4 rfl) ?_
                  refine lv_aload_n hx hb dX7_swap_97 rfl (lv_at hl 0 rfl) ?_
                  refine g_getSa (o := 1) (a := 1) C0 hG (L0 hG) rfl 0 (by decide) rfl rfl w_329 dX7_swap_98 ?_
                  refine g_getSaN (o := 5) (a := 6) C0 hG (L1 hG) rfl 4 (by decide) rfl rfl w_163 dX7_swap_101 ?_
                  refine lv_iload hx hb dX7_swap_104 (lv_at hl 5 rfl) ?_
                  obtain ⟨h10, hf⟩ := gin_s hf
                  refine g_iald C0 hG (L6 hG) h10 dX7_swap_106 ?_
                  obtain ⟨h11, hf⟩ := gin_s hf
                  refine g_iast C0 hG (L18 hG) h11 dX7_swap_107 (fun H locs hG => ?_)
                  refine lv_aload_n hx hb dX7_swap_108 rfl (lv_at hl 0 rfl) ?_
                  refine g_getSa (o := 13) (a := 13) C0 hG (L0 hG) rfl 1 (by decide) rfl rfl w_330 dX7_swap_109 ?_
                  refine g_getSaN (o := 5) (a := 18) C0 hG (L13 hG) rfl 4 (by decide) rfl rfl w_163 dX7_swap_112 ?_
                  refine lv_iload hx hb dX7_swap_115 (lv_at hl 5 rfl) ?_
                  refine lv_aload_n hx hb dX7_swap_117 rfl (lv_at hl 0 rfl) ?_
                  refine g_getSa (o := 1) (a := 1) C0 hG (L0 hG) rfl 0 (by decide) rfl rfl w_329 dX7_swap_118 ?_
                  refine g_getSaN (o := 5) (a := 6) C0 hG (L1 hG) rfl 4 (by decide) rfl rfl w_163 dX7_swap_121 ?_
                  refine lv_iload hx hb dX7_swap_124 (lv_at hl 4 rfl) ?_
                  obtain ⟨h12, hf⟩ := gin_s hf
                  refine g_iald C0 hG (L6 hG) h12 dX7_swap_126 ?_
                  obtain ⟨h13, hf⟩ := gin_s hf
                  refine g_iast C0 hG (L18 hG) h13 dX7_swap_127 (fun H locs hG => ?_)
                  refine lv_aload_n hx hb dX7_swap_128 rfl (lv_at hl 0 rfl) ?_
                  refine g_getSa (o := 13) (a := 13) C0 hG (L0 hG) rfl 1 (by decide) rfl rfl w_330 dX7_swap_129 ?_
                  refine lv_iload_n hx hb dX7_swap_132 rfl (lv_at hl 1 rfl) ?_
                  obtain ⟨_, u14, hc14, hf⟩ := obind_s hf
                  refine g_doV0 hG (g_runVN C0 hG (k_X6_ride l D base Z (sA (sA u9 18 x4_7.toNatClampNeg (gA u9 6 x5_7.toNatClampNeg)) 18 x5_7.toNatClampNeg (gA (sA u9 18 x4_7.toNatClampNeg (gA u9 6 x5_7.toNatClampNeg)) 6 x4_7.toNatClampNeg)) 13 p1 u14 O13 hc14) m_X6_ride v_X6_ride w_644 (by decide) (g_recv C0 hG (L13 hG) rfl) rfl hl.1 rfl (Nat.le_of_ble_eq_true rfl) dX7_swap_133 ⟨Nat.zero_le _, Nat.zero_le _⟩) (fun H locs hG hk => ?_)
                  refine lv_aload_n hx hb dX7_swap_136 rfl (lv_at hl 0 rfl) ?_
                  refine g_getSa (o := 13) (a := 13) C0 hG (L0 hG) rfl 1 (by decide) rfl rfl w_330 dX7_swap_137 ?_
                  refine g_getIN C0 hG (L13 hG) rfl 11 (by decide) rfl w_176 dX7_swap_140 ?_
                  refine lv_iload_n hx hb dX7_swap_143 rfl (lv_at hl 3 rfl) ?_
                  refine lv_icmp_le (tgt := 164) hx hb dX7_swap_144 (by decide) (fun c15 => ?_) (fun c15 => ?_)
                  · have hf := gif_t c15 hf
                    refine lv_iinc (v := x5_7 + (1 : Int32)) (lv' := [(5, .int (x5_7 + (1 : Int32))), (0, .ref (base + 0)), (1, .int p1), (2, .int x2_7), (3, .int x3_7), (4, .int x4_7)]) hx hb dX7_swap_164 hl (k := 5) rfl rfl (by decide) rfl (fun ls hl => ?_)
                    refine lv_goto (tgt := 65) hx hb dX7_swap_167 (by decide) ?_
                    have hf := while_l hX7 hf
                    exact ih7 x2_7 x3_7 x4_7 (x5_7 + (1 : Int32)) u14 _ _ ls hG (lv_sub hl [1, 2, 3, 4, 5, 0] rfl) hf
                  · have hf := gif_f c15 hf
                    refine lv_bipush (v := (10 : Int32)) hx hb dX7_swap_147 (by decide) ?_
                    refine lv_iload hx hb dX7_swap_149 (lv_at hl 4 rfl) ?_
                    refine lv_imul hx hb dX7_swap_151 ?_
                    refine lv_iload hx hb dX7_swap_152 (lv_at hl 5 rfl) ?_
                    refine lv_iadd hx hb dX7_swap_154 ?_
                    refine lv_istore_n (lv' := [(2, .int (((10 : Int32) * x4_7) + x5_7)), (0, .ref (base + 0)), (1, .int p1), (3, .int x3_7), (4, .int x4_7), (5, .int x5_7)]) hx hb dX7_swap_155 rfl hl (by decide) rfl (fun ls hl => ?_)
                    refine lv_aload_n hx hb dX7_swap_156 rfl (lv_at hl 1 rfl) ?_
                    refine g_getSa (o := 13) (a := 13) C0 hG (L0 hG) rfl 1 (by decide) rfl rfl w_330 dX7_swap_157 ?_
                    refine g_getIN C0 hG (L13 hG) rfl 11 (by decide) rfl w_176 dX7_swap_160 ?_
                    refine lv_istore_n (lv' := [(3, .int (gI u14 13 11)), (2, .int (((10 : Int32) * x4_7) + x5_7)), (0, .ref (base + 0)), (1, .int p1), (4, .int x4_7), (5, .int x5_7)]) hx hb dX7_swap_163 rfl hl (by decide) rfl (fun ls hl => ?_)
                    refine lv_iinc (v := x5_7 + (1 : Int32)) (lv' := [(5, .int (x5_7 + (1 : Int32))), (3, .int (gI u14 13 11)), (2, .int (((10 : Int32) * x4_7) + x5_7)), (0, .ref (base + 0)), (1, .int p1), (4, .int x4_7)]) hx hb dX7_swap_164 hl (k := 5) rfl rfl (by decide) rfl (fun ls hl => ?_)
                    refine lv_goto (tgt := 65) hx hb dX7_swap_167 (by decide) ?_
                    have hf := while_l hX7 hf
                    exact ih7 (((10 : Int32) * x4_7) + x5_7) (gI u14 13 11) x4_7 (x5_7 + (1 : Int32)) u14 _ _ ls hG (lv_sub hl [3, 4, 2, 1, 5, 0] rfl) hf
            exact loop7 FUEL x2_5 x3_5 x4_5 (x4_5 + (1 : Int32)) u5 _ _ ls hG (lv_sub hl [1, 2, 3, 4, 5, 0] rfl) hf
      exact loop5 FUEL (-5 : Int32) (gI u4 13 11) (0 : Int32) u4 _ _ ls hG (lv_sub hl [3, 4, 2, 1, 0] rfl) hf
    · have hf := gif_f c2 hf
      refine lv_bipush (v := (-2 : Int32)) hx hb dX7_swap_11 (by decide) ?_
      obtain ⟨hr1, hu⟩ := gret_s hf
      subst hr1
      subst hu
      subst hQ
      exact g_iret C0 hG hr dX7_swap_13
